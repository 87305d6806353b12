/-! ===== how often a cell is entered: at most four times; the bands by row and column ===== -/
theorem cntB_one {p : Nat → Bool} {n : Nat} (h : ∀ i j, i < n → j < n → p i = true → p j = true → i = j) : cntB p n ≤ 1 := by
  induction n with
  | zero => exact Nat.zero_le _
  | succ n ih =>
    have ih := ih (fun i j hi hj => h i j (by omega) (by omega))
    show cntB p n + (if p n then 1 else 0) ≤ 1
    by_cases e : p n = true
    · rw [if_pos e]
      have : cntB p n = 0 := cntB_zero fun i hi => by
        cases e2 : p i with
        | false => rfl
        | true => have := h i n (by omega) (by omega) e2 e; omega
      omega
    · rw [if_neg e]; omega
section TIM
variable {W H : Nat} {C : Cel} {c : Nat}
noncomputable def entD (W H : Nat) (C : Cel) (c e : Nat) : Nat → Nat
  | 0 => 0
  | G + 1 => entD W H C c e G + (if fstB W H C G then cntB (fun i => decide (pC W H C G i = c) && decide (pD4 W H C G i = e)) (bN W H C G) else 0)
theorem pS_eq (hW : 0 < W) (hH : 0 < H) {g g' i j : Nat} (hg : g < 2 * (W + H)) (hg' : g' < 2 * (W + H)) (hi : i < bN W H C g) (hj : j < bN W H C g') (h1 : pC W H C g i = pC W H C g' j) (h2 : pD4 W H C g i = pD4 W H C g' j) : g = g' ∧ i = j := by
  have s1 := pS_in (C := C) hW hH hg hi
  have s2 := pS_in (C := C) hW hH hg' hj
  have t1 := it_some (C := C) hW hH hg hi
  have t2 := it_some (C := C) hW hH hg' hj
  have e : pS W H C g i = pS W H C g' j := by
    obtain ⟨e1, e2⟩ := cell_inj s1.2.1 s2.2.1 (show (pS W H C g i).1 * W + (pS W H C g i).2.1 = (pS W H C g' j).1 * W + (pS W H C g' j).2.1 from h1)
    have e3 : (pS W H C g i).2.2 = (pS W H C g' j).2.2 := h2
    exact Prod.ext e1 (Prod.ext e2 e3)
  rw [← e] at t2
  exact it_inj hW hH hg hg' t1 t2
theorem entD_le (hW : 0 < W) (hH : 0 < H) (e : Nat) : ∀ G, G ≤ 2 * (W + H) → entD W H C c e G ≤ 1 ∧ (0 < entD W H C c e G → ∃ g i, g < G ∧ i < bN W H C g ∧ pC W H C g i = c ∧ pD4 W H C g i = e) := by
  intro G
  induction G with
  | zero => exact fun _ => ⟨Nat.zero_le _, fun h => absurd h (Nat.lt_irrefl 0)⟩
  | succ G ih =>
    intro hG
    obtain ⟨h1, h2⟩ := ih (by omega)
    unfold entD
    by_cases f : fstB W H C G = true
    · rw [if_pos f]
      have k1 : cntB (fun i => decide (pC W H C G i = c) && decide (pD4 W H C G i = e)) (bN W H C G) ≤ 1 := cntB_one fun i j hi hj a b => by
        rw [Bool.and_eq_true, decide_eq_true_iff, decide_eq_true_iff] at a b
        exact (pS_eq hW hH (by omega) (by omega) hi hj (a.1.trans b.1.symm) (a.2.trans b.2.symm)).2
      have k2 : 0 < cntB (fun i => decide (pC W H C G i = c) && decide (pD4 W H C G i = e)) (bN W H C G) → ∃ i, i < bN W H C G ∧ pC W H C G i = c ∧ pD4 W H C G i = e := fun h => by
        obtain ⟨i, hi, a⟩ := cntB_pos.mp h
        rw [Bool.and_eq_true, decide_eq_true_iff, decide_eq_true_iff] at a
        exact ⟨i, hi, a.1, a.2⟩
      by_cases z : 0 < entD W H C c e G
      · obtain ⟨g, i, q1, q2, q3, q4⟩ := h2 z
        have : ¬ 0 < cntB (fun i => decide (pC W H C G i = c) && decide (pD4 W H C G i = e)) (bN W H C G) := fun h => by
          obtain ⟨j, p1, p2, p3⟩ := k2 h
          have := (pS_eq hW hH (by omega) (by omega) q2 p1 (q3.trans p2.symm) (q4.trans p3.symm)).1
          omega
        exact ⟨by omega, fun _ => ⟨g, i, by omega, q2, q3, q4⟩⟩
      · refine ⟨by omega, fun h => ?_⟩
        obtain ⟨j, p1, p2, p3⟩ := k2 (by omega)
        exact ⟨G, j, by omega, p1, p2, p3⟩
    · rw [if_neg f]
      refine ⟨by omega, fun h => ?_⟩
      obtain ⟨g, i, q1, q2⟩ := h2 (by omega)
      exact ⟨g, i, by omega, q2⟩
theorem cnt4 {p : Nat → Bool} {f : Nat → Nat} {n : Nat} (h : ∀ i, i < n → f i < 4) : cntB p n = cntB (fun i => p i && decide (f i = 0)) n + cntB (fun i => p i && decide (f i = 1)) n + cntB (fun i => p i && decide (f i = 2)) n + cntB (fun i => p i && decide (f i = 3)) n := by
  induction n with
  | zero => rfl
  | succ n ih =>
    have ih := ih (fun i hi => h i (by omega))
    have hn := h n (by omega)
    unfold cntB
    by_cases e : p n = true
    · rw [e]
      have : f n = 0 ∨ f n = 1 ∨ f n = 2 ∨ f n = 3 := by omega
      rcases this with q | q | q | q <;> rw [q] <;> simp <;> omega
    · have e : p n = false := by simpa using e
      rw [e]; simp; omega
theorem ent4 (hW : 0 < W) (hH : 0 < H) : ∀ G, G ≤ 2 * (W + H) → entN W H C c G = entD W H C c 0 G + entD W H C c 1 G + entD W H C c 2 G + entD W H C c 3 G := by
  intro G
  induction G with
  | zero => intro _; rfl
  | succ G ih =>
    intro hG
    have ih := ih (by omega)
    unfold entN entD
    by_cases f : fstB W H C G = true
    · simp only [if_pos f]
      have := cnt4 (p := fun i => decide (pC W H C G i = c)) (f := pD4 W H C G) (n := bN W H C G) (fun i hi => pD_lt hW hH (by omega) hi)
      omega
    · simp only [if_neg f]; omega
theorem ent_le4 (hW : 0 < W) (hH : 0 < H) : entN W H C c (2 * (W + H)) ≤ 4 := by
  rw [ent4 hW hH _ (Nat.le_refl _)]
  have h0 := (entD_le (C := C) (c := c) hW hH 0 _ (Nat.le_refl _)).1
  have h1 := (entD_le (C := C) (c := c) hW hH 1 _ (Nat.le_refl _)).1
  have h2 := (entD_le (C := C) (c := c) hW hH 2 _ (Nat.le_refl _)).1
  have h3 := (entD_le (C := C) (c := c) hW hH 3 _ (Nat.le_refl _)).1
  omega
theorem eIn_iff {p g : Nat} : ∀ {n : Nat}, eIn W H C p c g n = true ↔ ∃ i, i < n ∧ pC W H C g i = c ∧ pD4 W H C g i % 2 = p := by
  intro n
  induction n with
  | zero => exact ⟨fun h => (by cases h), fun ⟨i, h, _⟩ => absurd h (Nat.not_lt_zero i)⟩
  | succ n ih =>
    unfold eIn
    rw [Bool.or_eq_true, ih, Bool.and_eq_true, decide_eq_true_iff, decide_eq_true_iff]
    constructor
    · rintro (⟨i, h1, h2⟩ | h)
      · exact ⟨i, by omega, h2⟩
      · exact ⟨n, by omega, h⟩
    · rintro ⟨i, h1, h2⟩
      by_cases e : i = n
      · subst e; exact Or.inr h2
      · exact Or.inl ⟨i, by omega, h2⟩
/-- the lowest band, if there is one -/
theorem lowB_val {p : Nat} : ∀ {G : Nat}, G ≤ 28 → (lowB W H C p c G = -1 ∧ ∀ g, g < G → fstB W H C g = true → eIn W H C p c g (bN W H C g) = false) ∨ ∃ g, g < G ∧ lowB W H C p c G = Int32.ofNat g ∧ fstB W H C g = true ∧ eIn W H C p c g (bN W H C g) = true := by
  intro G
  induction G with
  | zero => exact fun _ => Or.inl ⟨rfl, fun g h => absurd h (Nat.not_lt_zero g)⟩
  | succ G ih =>
    intro hG
    unfold lowB
    rcases ih (by omega) with ⟨h1, h2⟩ | ⟨g, h1, h2, h3, h4⟩
    · by_cases e : fstB W H C G = true ∧ eIn W H C p c G (bN W H C G) = true
      · rw [if_pos ⟨h1, e.1, e.2⟩]
        exact Or.inr ⟨G, by omega, rfl, e.1, e.2⟩
      · rw [if_neg (fun q => e ⟨q.2.1, q.2.2⟩)]
        refine Or.inl ⟨h1, fun g hg f => ?_⟩
        by_cases q : g = G
        · subst q
          cases z : eIn W H C p c g (bN W H C g) with
          | false => rfl
          | true => exact absurd ⟨f, z⟩ e
        · exact h2 g (by omega) f
    · rw [if_neg (fun q => by rw [h2] at q; exact g_ne (by omega) q.1)]
      exact Or.inr ⟨g, by omega, h2, h3, h4⟩
theorem entN_pos {G : Nat} : 0 < entN W H C c G ↔ ∃ g i, g < G ∧ fstB W H C g = true ∧ i < bN W H C g ∧ pC W H C g i = c := by
  induction G with
  | zero => exact ⟨fun h => absurd h (Nat.lt_irrefl 0), fun ⟨g, i, h, _⟩ => absurd h (Nat.not_lt_zero g)⟩
  | succ G ih =>
    unfold entN
    by_cases f : fstB W H C G = true
    · rw [if_pos f]
      constructor
      · intro h
        by_cases z : 0 < entN W H C c G
        · obtain ⟨g, i, h1, h2⟩ := ih.mp z
          exact ⟨g, i, by omega, h2⟩
        · obtain ⟨i, h1, h2⟩ := cntB_pos.mp (show 0 < cntB (fun i => decide (pC W H C G i = c)) (bN W H C G) by omega)
          exact ⟨G, i, by omega, f, h1, of_decide_eq_true h2⟩
      · rintro ⟨g, i, h1, h2, h3, h4⟩
        by_cases e : g = G
        · subst e
          have := cntB_pos (p := fun i => decide (pC W H C g i = c)) (n := bN W H C g) |>.mpr ⟨i, h3, decide_eq_true h4⟩
          omega
        · have := ih.mpr ⟨g, i, by omega, h2, h3, h4⟩
          omega
    · rw [if_neg f, Nat.add_zero, ih]
      constructor
      · rintro ⟨g, i, h1, h2⟩; exact ⟨g, i, by omega, h2⟩
      · rintro ⟨g, i, h1, h2, h3⟩
        by_cases e : g = G
        · subst e; exact absurd h2 f
        · exact ⟨g, i, by omega, h2, h3⟩
/-- entered at all: by a row or by a column -/
theorem ent_rc (hb : 2 * (W + H) ≤ 28) : 0 < entN W H C c (2 * (W + H)) ↔ (lowB W H C 1 c (2 * (W + H)) ≠ -1 ∨ lowB W H C 0 c (2 * (W + H)) ≠ -1) := by
  rw [entN_pos]
  constructor
  · rintro ⟨g, i, h1, h2, h3, h4⟩
    by_cases e : pD4 W H C g i % 2 = 1
    · left
      rcases lowB_val (W := W) (H := H) (C := C) (c := c) (p := 1) hb with ⟨-, q⟩ | ⟨g', q1, q2, -⟩
      · have := q g h1 h2
        rw [eIn_iff.mpr ⟨i, h3, h4, e⟩] at this
        cases this
      · rw [q2]; exact g_ne (by omega)
    · right
      rcases lowB_val (W := W) (H := H) (C := C) (c := c) (p := 0) hb with ⟨-, q⟩ | ⟨g', q1, q2, -⟩
      · have := q g h1 h2
        rw [eIn_iff.mpr ⟨i, h3, h4, by omega⟩] at this
        cases this
      · rw [q2]; exact g_ne (by omega)
  · rintro (h | h)
    · rcases lowB_val (W := W) (H := H) (C := C) (c := c) (p := 1) hb with ⟨q, -⟩ | ⟨g', q1, -, q3, q4⟩
      · exact absurd q h
      · obtain ⟨i, a, b, -⟩ := eIn_iff.mp q4
        exact ⟨g', i, q1, q3, a, b⟩
    · rcases lowB_val (W := W) (H := H) (C := C) (c := c) (p := 0) hb with ⟨q, -⟩ | ⟨g', q1, -, q3, q4⟩
      · exact absurd q h
      · obtain ⟨i, a, b, -⟩ := eIn_iff.mp q4
        exact ⟨g', i, q1, q3, a, b⟩
/-- the number of a band of its own -/
theorem bFr_fst (hW : 0 < W) (hH : 0 < H) (hb : 2 * (W + H) ≤ 28) {g : Nat} (hg : g < 2 * (W + H)) : bFr W H C g = Int32.ofNat g ↔ fstB W H C g = true := by
  rw [fstB_iff, ← fstG_iff hW hH hb hg, ← bandFrom_iff hW hH hb hg]
  rfl
end TIM
