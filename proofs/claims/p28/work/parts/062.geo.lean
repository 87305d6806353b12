/-! ===== bands on a stone: positions, steps, the way back; no line twice ===== -/
theorem php : ∀ (m n : Nat) (f : Nat → Nat), (∀ i, i < n → f i < m) → (∀ i, i < n → ∀ j, j < n → f i = f j → i = j) → n ≤ m := by
  intro m
  induction m with
  | zero =>
    intro n f h _
    cases n with
    | zero => exact Nat.le_refl _
    | succ k => exact absurd (h 0 (by omega)) (by omega)
  | succ m ih =>
    intro n f h hi
    cases n with
    | zero => exact Nat.zero_le _
    | succ k =>
      have := ih k (fun i => if f i = m then f k else f i) (fun i hik => ?_) (fun i hik j hjk e => ?_)
      · omega
      · have h1 := h i (by omega)
        have h2 := h k (by omega)
        by_cases e : f i = m
        · have : f k ≠ m := fun e2 => by have := hi i (by omega) k (by omega) (e.trans e2.symm); omega
          simp only [e, if_true]; omega
        · simp only [e, if_false]; omega
      · replace e : (if f i = m then f k else f i) = (if f j = m then f k else f j) := e
        by_cases e1 : f i = m
        · by_cases e2 : f j = m
          · exact hi i (by omega) j (by omega) (e1.trans e2.symm)
          · rw [if_pos e1, if_neg e2] at e
            have := hi k (by omega) j (by omega) e
            omega
        · by_cases e2 : f j = m
          · rw [if_neg e1, if_pos e2] at e
            have := hi i (by omega) k (by omega) e
            omega
          · rw [if_neg e1, if_neg e2] at e
            exact hi i (by omega) j (by omega) e
/-- row, column, direction (0 up, 1 right, 2 down, 3 left) -/
abbrev Pos : Type := Nat × Nat × Nat
def opp (d : Nat) : Nat := (d + 2) % 4
/-- the direction behind a cell: 47 rising, 92 falling -/
def trn (v : Int32) (d : Nat) : Nat :=
  if v = 47 then (if d = 0 then 1 else if d = 1 then 0 else if d = 2 then 3 else 2)
  else if v = 92 then (if d = 0 then 3 else if d = 3 then 0 else if d = 2 then 1 else 2)
  else d
/-- one cell on in a direction, or out by a gate -/
def mv (W H r c d : Nat) : Pos ⊕ Nat :=
  if d = 0 then (if r = 0 then .inr c else .inl (r - 1, c, 0))
  else if d = 1 then (if c + 1 = W then .inr (W + r) else .inl (r, c + 1, 1))
  else if d = 2 then (if r + 1 = H then .inr (W + H + c) else .inl (r + 1, c, 2))
  else (if c = 0 then .inr (2 * W + H + r) else .inl (r, c - 1, 3))
def ent (W H g : Nat) : Pos :=
  if g < W then (0, g, 2) else if g < W + H then (g - W, W - 1, 3) else if g < 2 * W + H then (H - 1, g - W - H, 0) else (g - 2 * W - H, 0, 1)
abbrev Cel : Type := Nat → Int32
def byt (W : Nat) (C : Cel) (s : Pos) : Int32 := C (s.1 * W + s.2.1)
def nxt (W H : Nat) (C : Cel) (s : Pos) : Pos ⊕ Nat := mv W H s.1 s.2.1 (trn (byt W C s) s.2.2)
def inS (W H : Nat) (s : Pos) : Prop := s.1 < H ∧ s.2.1 < W ∧ s.2.2 < 4
def rev (W : Nat) (C : Cel) (s : Pos) : Pos := (s.1, s.2.1, opp (trn (byt W C s) s.2.2))
theorem lt4 {d : Nat} (h : d < 4) : d = 0 ∨ d = 1 ∨ d = 2 ∨ d = 3 := by omega
theorem opp0 : opp 0 = 2 := by decide
theorem opp1 : opp 1 = 3 := by decide
theorem opp2 : opp 2 = 0 := by decide
theorem opp3 : opp 3 = 1 := by decide
theorem trn_lt (v : Int32) {d : Nat} (h : d < 4) : trn v d < 4 := by
  rcases lt4 h with rfl | rfl | rfl | rfl <;> by_cases a : v = 47 <;> by_cases b : v = 92 <;> simp_all [trn]
theorem trn_opp (v : Int32) {d : Nat} (h : d < 4) : trn v (opp (trn v d)) = opp d := by
  rcases lt4 h with rfl | rfl | rfl | rfl <;> by_cases a : v = 47 <;> by_cases b : v = 92 <;> simp_all [trn, opp]
theorem trn_inj (v : Int32) {d e : Nat} (h : d < 4) (he : e < 4) (q : trn v d = trn v e) : d = e := by
  rcases lt4 h with rfl | rfl | rfl | rfl <;> rcases lt4 he with rfl | rfl | rfl | rfl <;> first | rfl | (exfalso; by_cases a : v = 47 <;> by_cases b : v = 92 <;> simp_all [trn])
theorem trn_nopp (v : Int32) {d : Nat} (h : d < 4) : opp (trn v d) ≠ d := by
  rcases lt4 h with rfl | rfl | rfl | rfl <;> by_cases a : v = 47 <;> by_cases b : v = 92 <;> simp_all [trn, opp]
theorem opp_opp {d : Nat} (h : d < 4) : opp (opp d) = d := by unfold opp; omega
theorem opp_lt (d : Nat) : opp d < 4 := by unfold opp; omega
theorem mv_in {W H r c d : Nat} {t : Pos} (hr : r < H) (hc : c < W) (hd : d < 4) (h : mv W H r c d = .inl t) : inS W H t ∧ t.2.2 = d ∧ mv W H t.1 t.2.1 (opp d) = .inl (r, c, opp d) ∧ (t.1 ≠ r ∨ t.2.1 ≠ c) := by
  unfold mv at h
  rcases lt4 hd with rfl | rfl | rfl | rfl
  · simp only [if_true] at h
    split at h
    · cases h
    · cases h
      refine ⟨⟨?_, ?_, ?_⟩, rfl, ?_, ?_⟩
      · show r - 1 < H; omega
      · exact hc
      · show (0 : Nat) < 4; omega
      · show mv W H (r - 1) c (opp 0) = .inl (r, c, opp 0)
        rw [opp0]
        unfold mv
        rw [if_neg (by omega), if_neg (by omega), if_pos rfl, if_neg (by omega)]
        rw [show r - 1 + 1 = r by omega]
      · left; show r - 1 ≠ r; omega
  · simp only [if_neg (show ¬ (1 : Nat) = 0 by omega), if_true] at h
    split at h
    · cases h
    · cases h
      refine ⟨⟨hr, ?_, ?_⟩, rfl, ?_, ?_⟩
      · show c + 1 < W; omega
      · show (1 : Nat) < 4; omega
      · show mv W H r (c + 1) (opp 1) = .inl (r, c, opp 1)
        rw [opp1]
        unfold mv
        rw [if_neg (by omega), if_neg (by omega), if_neg (by omega), if_neg (by omega)]
        rw [show c + 1 - 1 = c by omega]
      · right; show c + 1 ≠ c; omega
  · simp only [if_neg (show ¬ (2 : Nat) = 0 by omega), if_neg (show ¬ (2 : Nat) = 1 by omega), if_true] at h
    split at h
    · cases h
    · cases h
      refine ⟨⟨?_, hc, ?_⟩, rfl, ?_, ?_⟩
      · show r + 1 < H; omega
      · show (2 : Nat) < 4; omega
      · show mv W H (r + 1) c (opp 2) = .inl (r, c, opp 2)
        rw [opp2]
        unfold mv
        rw [if_pos rfl, if_neg (by omega)]
        rw [show r + 1 - 1 = r by omega]
      · left; show r + 1 ≠ r; omega
  · simp only [if_neg (show ¬ (3 : Nat) = 0 by omega), if_neg (show ¬ (3 : Nat) = 1 by omega), if_neg (show ¬ (3 : Nat) = 2 by omega)] at h
    split at h
    · cases h
    · cases h
      refine ⟨⟨hr, ?_, ?_⟩, rfl, ?_, ?_⟩
      · show c - 1 < W; omega
      · show (3 : Nat) < 4; omega
      · show mv W H r (c - 1) (opp 3) = .inl (r, c, opp 3)
        rw [opp3]
        unfold mv
        rw [if_neg (by omega), if_pos rfl, if_neg (by omega)]
        rw [show c - 1 + 1 = c by omega]
      · right; show c - 1 ≠ c; omega
theorem mv_out {W H r c d g : Nat} (hr : r < H) (hc : c < W) (hd : d < 4) (h : mv W H r c d = .inr g) : ent W H g = (r, c, opp d) ∧ g < 2 * (W + H) := by
  unfold mv at h
  rcases lt4 hd with rfl | rfl | rfl | rfl
  · simp only [if_true] at h
    split at h
    · cases h
      refine ⟨?_, by omega⟩
      unfold ent
      rw [if_pos hc]
      subst r
      rfl
    · cases h
  · simp only [if_neg (show ¬ (1 : Nat) = 0 by omega), if_true] at h
    split at h
    · cases h
      refine ⟨?_, by omega⟩
      unfold ent
      rw [if_neg (by omega), if_pos (by omega)]
      rw [show W + r - W = r by omega, show W - 1 = c by omega]
      rfl
    · cases h
  · simp only [if_neg (show ¬ (2 : Nat) = 0 by omega), if_neg (show ¬ (2 : Nat) = 1 by omega), if_true] at h
    split at h
    · cases h
      refine ⟨?_, by omega⟩
      unfold ent
      rw [if_neg (by omega), if_neg (by omega), if_pos (by omega)]
      rw [show W + H + c - W - H = c by omega, show H - 1 = r by omega]
      rfl
    · cases h
  · simp only [if_neg (show ¬ (3 : Nat) = 0 by omega), if_neg (show ¬ (3 : Nat) = 1 by omega), if_neg (show ¬ (3 : Nat) = 2 by omega)] at h
    split at h
    · cases h
      refine ⟨?_, by omega⟩
      unfold ent
      rw [if_neg (by omega), if_neg (by omega), if_neg (by omega)]
      rw [show 2 * W + H + r - 2 * W - H = r by omega]
      subst c
      rfl
    · cases h
theorem ent_in {W H g : Nat} (hW : 0 < W) (hH : 0 < H) (hg : g < 2 * (W + H)) : inS W H (ent W H g) ∧ mv W H (ent W H g).1 (ent W H g).2.1 (opp (ent W H g).2.2) = .inr g := by
  unfold ent
  by_cases h1 : g < W
  · rw [if_pos h1]
    refine ⟨⟨hH, h1, by show (2 : Nat) < 4; omega⟩, ?_⟩
    show mv W H 0 g (opp 2) = .inr g
    rw [opp2]
    unfold mv
    rw [if_pos rfl, if_pos rfl]
  · rw [if_neg h1]
    by_cases h2 : g < W + H
    · rw [if_pos h2]
      refine ⟨⟨by show g - W < H; omega, by show W - 1 < W; omega, by show (3 : Nat) < 4; omega⟩, ?_⟩
      show mv W H (g - W) (W - 1) (opp 3) = .inr g
      rw [opp3]
      unfold mv
      rw [if_neg (by omega), if_pos rfl, if_pos (by omega), show W + (g - W) = g by omega]
    · rw [if_neg h2]
      by_cases h3 : g < 2 * W + H
      · rw [if_pos h3]
        refine ⟨⟨by show H - 1 < H; omega, by show g - W - H < W; omega, by show (0 : Nat) < 4; omega⟩, ?_⟩
        show mv W H (H - 1) (g - W - H) (opp 0) = .inr g
        rw [opp0]
        unfold mv
        rw [if_neg (by omega), if_neg (by omega), if_pos rfl, if_pos (by omega), show W + H + (g - W - H) = g by omega]
      · rw [if_neg h3]
        refine ⟨⟨by show g - 2 * W - H < H; omega, hW, by show (1 : Nat) < 4; omega⟩, ?_⟩
        show mv W H (g - 2 * W - H) 0 (opp 1) = .inr g
        rw [opp1]
        unfold mv
        rw [if_neg (by omega), if_neg (by omega), if_neg (by omega), if_pos rfl, show 2 * W + H + (g - 2 * W - H) = g by omega]
section GEO
variable {W H : Nat} {C : Cel}
theorem nxt_in {s t : Pos} (hs : inS W H s) (h : nxt W H C s = .inl t) : inS W H t := (mv_in hs.1 hs.2.1 (trn_lt _ hs.2.2) h).1
/-- the way back -/
theorem nxt_rev {s t : Pos} (hs : inS W H s) (h : nxt W H C s = .inl t) : nxt W H C (rev W C t) = .inl (rev W C s) := by
  obtain ⟨h1, h2, h3, -⟩ := mv_in hs.1 hs.2.1 (trn_lt _ hs.2.2) h
  show mv W H t.1 t.2.1 (trn (byt W C t) (opp (trn (byt W C t) t.2.2))) = _
  rw [trn_opp _ h1.2.2, h2]
  exact h3
theorem nxt_inj {s s' t : Pos} (hs : inS W H s) (hs' : inS W H s') (h : nxt W H C s = .inl t) (h' : nxt W H C s' = .inl t) : s = s' := by
  obtain ⟨h1, h2, h3, -⟩ := mv_in hs.1 hs.2.1 (trn_lt _ hs.2.2) h
  obtain ⟨-, g2, g3, -⟩ := mv_in hs'.1 hs'.2.1 (trn_lt _ hs'.2.2) h'
  rw [← h2] at h3
  rw [← g2] at g3
  have e := Sum.inl.inj (h3.symm.trans g3)
  obtain ⟨r, c, d⟩ := s
  obtain ⟨r', c', d'⟩ := s'
  obtain ⟨rfl, e⟩ := Prod.mk.inj e
  obtain ⟨rfl, -⟩ := Prod.mk.inj e
  have h4 : trn (C (r * W + c)) d = trn (C (r * W + c)) d' := h2.symm.trans g2
  have h5 : d = d' := trn_inj _ hs.2.2 hs'.2.2 h4
  subst h5
  rfl
theorem rev_in {s : Pos} (hs : inS W H s) : inS W H (rev W C s) := ⟨hs.1, hs.2.1, opp_lt _⟩
theorem rev_rev {s : Pos} (hs : inS W H s) : rev W C (rev W C s) = s := by
  obtain ⟨r, c, d⟩ := s
  show (r, c, opp (trn (C (r * W + c)) (opp (trn (C (r * W + c)) d)))) = _
  rw [trn_opp _ hs.2.2, opp_opp hs.2.2]
theorem rev_ne {s : Pos} (hs : inS W H s) : rev W C s ≠ s := by
  obtain ⟨r, c, d⟩ := s
  intro e
  exact trn_nopp _ hs.2.2 (Prod.mk.inj (Prod.mk.inj e).2).2
theorem nxt_ne {s t : Pos} (hs : inS W H s) (h : nxt W H C s = .inl t) : t ≠ rev W C s := by
  obtain ⟨-, -, -, h4⟩ := mv_in hs.1 hs.2.1 (trn_lt _ hs.2.2) h
  intro e
  rw [e] at h4
  exact h4.elim (fun q => q rfl) (fun q => q rfl)
/-- out by a gate: the gate's entrance is the way back -/
theorem nxt_out {s : Pos} {g : Nat} (hs : inS W H s) (h : nxt W H C s = .inr g) : ent W H g = rev W C s ∧ g < 2 * (W + H) := mv_out hs.1 hs.2.1 (trn_lt _ hs.2.2) h
theorem nxt_of_ent {s : Pos} {g : Nat} (hW : 0 < W) (hH : 0 < H) (hg : g < 2 * (W + H)) (hs : inS W H s) (h : rev W C s = ent W H g) : nxt W H C s = .inr g := by
  have h1 := (ent_in hW hH hg).2
  rw [← h] at h1
  have h2 : mv W H s.1 s.2.1 (opp (opp (trn (byt W C s) s.2.2))) = .inr g := h1
  rw [opp_opp (trn_lt _ hs.2.2)] at h2
  exact h2
/-- nothing inside leads to a gate's entrance -/
theorem nxt_ent {s : Pos} {g : Nat} (hW : 0 < W) (hH : 0 < H) (hg : g < 2 * (W + H)) (hs : inS W H s) : nxt W H C s ≠ .inl (ent W H g) := by
  intro h
  obtain ⟨h1, h2, h3, -⟩ := mv_in hs.1 hs.2.1 (trn_lt _ hs.2.2) h
  have h4 := (ent_in hW hH hg).2
  rw [h2] at h4
  rw [h3] at h4
  cases h4
end GEO
