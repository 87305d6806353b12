/-! ===== the walk from a gate: places by number, no place twice, no way taken back, at most 2 W H places; ends ===== -/
def itp (W H : Nat) (C : Cel) (g : Nat) : Nat → Option Pos
  | 0 => some (ent W H g)
  | i + 1 => match itp W H C g i with
    | some s => if byt W C s = 35 then none else match nxt W H C s with
      | .inl t => some t
      | .inr _ => none
    | none => none
def endsAt (W H : Nat) (C : Cel) (g e : Nat) : Prop := ∃ i s, itp W H C g i = some s ∧ byt W C s ≠ 35 ∧ nxt W H C s = .inr e
section WLK
variable {W H : Nat} {C : Cel}
theorem it_succ {g i : Nat} {t : Pos} : itp W H C g (i + 1) = some t ↔ ∃ s, itp W H C g i = some s ∧ byt W C s ≠ 35 ∧ nxt W H C s = .inl t := by
  constructor
  · intro h
    simp only [itp] at h
    split at h
    · rename_i s hs
      split at h
      · cases h
      · rename_i hb
        split at h
        · rename_i t' ht
          cases h
          exact ⟨s, hs, hb, ht⟩
        · cases h
    · cases h
  · rintro ⟨s, hs, hb, ht⟩
    simp only [itp, hs, if_neg hb, ht]
theorem it_in (hW : 0 < W) (hH : 0 < H) {g : Nat} (hg : g < 2 * (W + H)) : ∀ {i : Nat} {s : Pos}, itp W H C g i = some s → inS W H s := by
  intro i
  induction i with
  | zero =>
    intro s h
    cases h
    exact (ent_in hW hH hg).1
  | succ i ih =>
    intro s h
    obtain ⟨t, h1, -, h3⟩ := it_succ.mp h
    exact nxt_in (ih h1) h3
theorem it_pre {g i j : Nat} {s : Pos} (h : itp W H C g j = some s) (hij : i ≤ j) : ∃ t, itp W H C g i = some t := by
  induction j generalizing s with
  | zero =>
    obtain rfl : i = 0 := by omega
    exact ⟨s, h⟩
  | succ j ih =>
    by_cases e : i = j + 1
    · subst e; exact ⟨s, h⟩
    · obtain ⟨t, h1, -, -⟩ := it_succ.mp h
      exact ih h1 (by omega)
/-- a place that is left by another is none at which a band is broken -/
theorem it_pre2 {g i j : Nat} {s : Pos} (h : itp W H C g j = some s) (hij : i < j) : ∃ t t', itp W H C g i = some t ∧ byt W C t ≠ 35 ∧ nxt W H C t = .inl t' ∧ itp W H C g (i + 1) = some t' := by
  obtain ⟨t', h1⟩ := it_pre (i := i + 1) h hij
  obtain ⟨t, h2, h3, h4⟩ := it_succ.mp h1
  exact ⟨t, t', h2, h3, h4, h1⟩
theorem ent_inj (hW : 0 < W) (hH : 0 < H) {g g' : Nat} (hg : g < 2 * (W + H)) (hg' : g' < 2 * (W + H)) (h : ent W H g = ent W H g') : g = g' := by
  have h1 := (ent_in hW hH hg).2
  have h2 := (ent_in hW hH hg').2
  rw [h] at h1
  exact Sum.inr.inj (h1.symm.trans h2)
theorem it_inj (hW : 0 < W) (hH : 0 < H) {g g' : Nat} (hg : g < 2 * (W + H)) (hg' : g' < 2 * (W + H)) : ∀ {i j : Nat} {s : Pos}, itp W H C g i = some s → itp W H C g' j = some s → g = g' ∧ i = j := by
  intro i
  induction i with
  | zero =>
    intro j s h1 h2
    cases h1
    cases j with
    | zero => exact ⟨ent_inj hW hH hg hg' (Option.some.inj h2).symm, rfl⟩
    | succ j =>
      obtain ⟨t, h3, -, h5⟩ := it_succ.mp h2
      exact absurd h5 (nxt_ent hW hH hg (it_in hW hH hg' h3))
  | succ i ih =>
    intro j s h1 h2
    obtain ⟨t, h3, -, h5⟩ := it_succ.mp h1
    cases j with
    | zero =>
      cases h2
      exact absurd h5 (nxt_ent hW hH hg' (it_in hW hH hg h3))
    | succ j =>
      obtain ⟨t', h3', -, h5'⟩ := it_succ.mp h2
      have e := nxt_inj (it_in hW hH hg h3) (it_in hW hH hg' h3') h5 h5'
      subst e
      obtain ⟨e1, e2⟩ := ih h3 h3'
      exact ⟨e1, by omega⟩
/-- two ways that meet head on: the one's end is the other's gate -/
theorem it_meet (hW : 0 < W) (hH : 0 < H) {g g' : Nat} (hg : g < 2 * (W + H)) (hg' : g' < 2 * (W + H)) : ∀ {j i : Nat} {s : Pos}, itp W H C g i = some s → itp W H C g' j = some (rev W C s) → byt W C s ≠ 35 → endsAt W H C g g' := by
  intro j
  induction j with
  | zero =>
    intro i s h1 h2 h3
    exact ⟨i, s, h1, h3, nxt_of_ent hW hH hg' (it_in hW hH hg h1) (Option.some.inj h2).symm⟩
  | succ j ih =>
    intro i s h1 h2 h3
    obtain ⟨t, h4, h5, h6⟩ := it_succ.mp h2
    have hs := it_in hW hH hg h1
    have ht := it_in hW hH hg' h4
    have h7 := nxt_rev ht h6
    rw [rev_rev hs] at h7
    exact ih (i := i + 1) (s := rev W C t) (it_succ.mpr ⟨s, h1, h3, h7⟩) (by rw [rev_rev ht]; exact h4) h5
/-- no band takes its own way back -/
theorem it_norev (hW : 0 < W) (hH : 0 < H) {g : Nat} (hg : g < 2 * (W + H)) : ∀ (m i : Nat) {s : Pos}, itp W H C g i = some s → itp W H C g (i + m) ≠ some (rev W C s) := by
  intro m
  induction m using Nat.strongRecOn with
  | ind m ih =>
    intro i s h1 h2
    have hs := it_in hW hH hg h1
    match m, ih, h2 with
    | 0, _, h2 => exact rev_ne hs (Option.some.inj (h2.symm.trans h1))
    | 1, _, h2 =>
      obtain ⟨t, h3, -, h5⟩ := it_succ.mp h2
      obtain rfl : s = t := Option.some.inj (h1.symm.trans h3)
      exact nxt_ne hs h5 rfl
    | m + 2, ih, h2 =>
      obtain ⟨t, t', h3, h4, h5, h6⟩ := it_pre2 (i := i) h2 (by omega)
      obtain rfl : s = t := Option.some.inj (h1.symm.trans h3)
      obtain ⟨t2, h7, h8, h9⟩ := it_succ.mp (show itp W H C g ((i + 1 + m) + 1) = some (rev W C s) from by rw [show i + 1 + m + 1 = i + (m + 2) by omega]; exact h2)
      have ht' := it_in hW hH hg h6
      have h10 := nxt_rev hs h5
      have e := nxt_inj (it_in hW hH hg h7) (rev_in ht') h9 h10
      subst e
      exact ih m (by omega) (i + 1) h6 h7
theorem it_norev2 (hW : 0 < W) (hH : 0 < H) {g i j : Nat} (hg : g < 2 * (W + H)) {s : Pos} (h1 : itp W H C g i = some s) : itp W H C g j ≠ some (rev W C s) := by
  intro h2
  by_cases h : i ≤ j
  · rw [show j = i + (j - i) by omega] at h2
    exact it_norev hW hH hg (j - i) i h1 h2
  · refine it_norev hW hH hg (i - j) j h2 ?_
    rw [rev_rev (it_in hW hH hg h1), show j + (i - j) = i by omega]
    exact h1
/-- a line's number: the cell, and which of its two lines -/
def lnB (v : Int32) (d : Nat) : Nat := if v = 47 then (if d = 1 ∨ d = 2 then 0 else 1) else if v = 92 then (if d = 0 ∨ d = 1 then 0 else 1) else d % 2
def lnN (W : Nat) (C : Cel) (s : Pos) : Nat := 2 * (s.1 * W + s.2.1) + lnB (byt W C s) s.2.2
theorem lnB_lt (v : Int32) (d : Nat) : lnB v d < 2 := by
  unfold lnB
  split
  · split <;> omega
  · split
    · split <;> omega
    · omega
theorem lnB_eq (v : Int32) {d e : Nat} (h : d < 4) (he : e < 4) (q : lnB v d = lnB v e) : e = d ∨ e = opp (trn v d) := by
  unfold lnB at q
  unfold trn opp
  rcases lt4 h with rfl | rfl | rfl | rfl <;> rcases lt4 he with rfl | rfl | rfl | rfl <;> first | exact Or.inl rfl | (split at q <;> first | (simp at q; done) | (right; simp [*]; done) | (split at q <;> first | (simp at q; done) | (right; simp [*]; done)))
theorem cell_inj {W r c r' c' : Nat} (hc : c < W) (hc' : c' < W) (h : r * W + c = r' * W + c') : r = r' ∧ c = c' := by
  have h1 : r = r' := by
    rcases Nat.lt_trichotomy r r' with h1 | h1 | h1
    · have : (r + 1) * W ≤ r' * W := Nat.mul_le_mul_right W h1
      rw [Nat.add_mul] at this
      omega
    · exact h1
    · have : (r' + 1) * W ≤ r * W := Nat.mul_le_mul_right W h1
      rw [Nat.add_mul] at this
      omega
  subst h1
  exact ⟨rfl, by omega⟩
theorem lnN_eq {s t : Pos} (hs : inS W H s) (ht : inS W H t) (h : lnN W C s = lnN W C t) : t = s ∨ t = rev W C s := by
  obtain ⟨r, c, d⟩ := s
  obtain ⟨r', c', d'⟩ := t
  unfold lnN at h
  have b1 := lnB_lt (byt W C (r, c, d)) d
  have b2 := lnB_lt (byt W C (r', c', d')) d'
  dsimp only at h
  obtain ⟨rfl, rfl⟩ := cell_inj hs.2.1 ht.2.1 (show r * W + c = r' * W + c' by omega)
  have h2 : lnB (byt W C (r, c, d)) d = lnB (byt W C (r, c, d)) d' := by
    have h3 : 2 * (r * W + c) + lnB (byt W C (r, c, d)) d = 2 * (r * W + c) + lnB (byt W C (r, c, d)) d' := h
    exact Nat.add_left_cancel h3
  rcases lnB_eq _ hs.2.2 ht.2.2 h2 with e | e
  · left; rw [show d' = d from e]
  · right; rw [show d' = _ from e]; rfl
theorem cell_lt {s : Pos} (hs : inS W H s) : s.1 * W + s.2.1 < W * H := by
  have h1 : (s.1 + 1) * W ≤ H * W := Nat.mul_le_mul_right W hs.1
  rw [Nat.add_mul, Nat.mul_comm H W] at h1
  have := hs.2.1
  omega
/-- at most two places for each cell -/
theorem it_bound (hW : 0 < W) (hH : 0 < H) {g n : Nat} (hg : g < 2 * (W + H)) {s : Pos} (h : itp W H C g n = some s) : n + 1 ≤ 2 * (W * H) := by
  have hd : ∀ i, i < n + 1 → ∃ t, itp W H C g i = some t := fun i hi => it_pre h (by omega)
  refine php _ _ (fun i => match itp W H C g i with
    | some t => lnN W C t
    | none => 0) (fun i hi => ?_) (fun i hi j hj e => ?_)
  · obtain ⟨t, ht⟩ := hd i hi
    simp only [ht]
    have h1 := cell_lt (it_in hW hH hg ht)
    have h2 := lnB_lt (byt W C t) t.2.2
    unfold lnN
    omega
  · obtain ⟨t, ht⟩ := hd i hi
    obtain ⟨t', ht'⟩ := hd j hj
    simp only [ht, ht'] at e
    rcases lnN_eq (it_in hW hH hg ht) (it_in hW hH hg ht') e with rfl | rfl
    · exact (it_inj hW hH hg hg ht ht').2
    · exact absurd ht' (it_norev2 hW hH hg ht)
theorem endsAt_lt (hW : 0 < W) (hH : 0 < H) {g e : Nat} (hg : g < 2 * (W + H)) (h : endsAt W H C g e) : e < 2 * (W + H) := by
  obtain ⟨i, s, h1, -, h3⟩ := h
  exact (nxt_out (it_in hW hH hg h1) h3).2
theorem endsAt_one {g e e' : Nat} (h : endsAt W H C g e) (h' : endsAt W H C g e') : e = e' := by
  obtain ⟨i, s, h1, h2, h3⟩ := h
  obtain ⟨j, t, h1', h2', h3'⟩ := h'
  have key : ∀ {a b : Nat} {x y : Pos} {q : Nat}, itp W H C g a = some x → nxt W H C x = .inr q → itp W H C g b = some y → ¬ a < b := by
    intro a b x y q ha hx hb hlt
    obtain ⟨t, t', k1, -, k3, -⟩ := it_pre2 hb hlt
    obtain rfl : x = t := Option.some.inj (ha.symm.trans k1)
    rw [hx] at k3
    cases k3
  have e1 := key h1 h3 h1'
  have e2 := key h1' h3' h1
  obtain rfl : i = j := by omega
  obtain rfl : s = t := Option.some.inj (h1.symm.trans h1')
  exact Sum.inr.inj (h3.symm.trans h3')
/-- the band from the end comes back to the gate -/
theorem endsAt_back (hW : 0 < W) (hH : 0 < H) {g e : Nat} (hg : g < 2 * (W + H)) (h : endsAt W H C g e) : endsAt W H C e g := by
  have he := endsAt_lt hW hH hg h
  obtain ⟨i, s, h1, h2, h3⟩ := h
  refine it_meet hW hH he hg (j := i) (i := 0) (s := rev W C s) ?_ ?_ h2
  · show some (ent W H e) = _
    rw [(nxt_out (it_in hW hH hg h1) h3).1]
  · rw [rev_rev (it_in hW hH hg h1)]; exact h1
/-- bands that have their number: a straight cell is entered in a row by one of them at most, once, and in a column as well -/
theorem it_one (hW : 0 < W) (hH : 0 < H) {g g' i j : Nat} (hg : g < 2 * (W + H)) (hg' : g' < 2 * (W + H)) (f : ∀ e, endsAt W H C g e → g ≤ e) (f' : ∀ e, endsAt W H C g' e → g' ≤ e) {s t : Pos} (h1 : itp W H C g i = some s) (h2 : itp W H C g' j = some t)
    (hc : s.1 * W + s.2.1 = t.1 * W + t.2.1) (hb : byt W C s ≠ 35) (hr : byt W C s ≠ 47) (hf : byt W C s ≠ 92) (hd : s.2.2 % 2 = t.2.2 % 2) : g = g' ∧ i = j := by
  have hs := it_in hW hH hg h1
  have ht := it_in hW hH hg' h2
  have hbt : byt W C t = byt W C s := by unfold byt; rw [hc]
  have hl : lnN W C s = lnN W C t := by
    unfold lnN lnB
    rw [hbt, hc, if_neg hr, if_neg hf, if_neg hr, if_neg hf, hd]
  rcases lnN_eq hs ht hl with rfl | rfl
  · exact it_inj hW hH hg hg' h1 h2
  · have e1 := it_meet hW hH hg hg' h1 h2 hb
    have e2 := endsAt_back hW hH hg e1
    have := f _ e1
    have := f' _ e2
    obtain rfl : g = g' := by omega
    exact absurd h2 (it_norev2 hW hH hg h1)
end WLK
