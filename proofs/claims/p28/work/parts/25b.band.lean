/-! ===== a band by its gate: its last place, its end; cells, directions, counts, masks ===== -/
def Bd (W H : Nat) (C : Cel) (g l : Nat) (e : Int32) : Prop := ∃ s, itp W H C g l = some s ∧ ((byt W C s = 35 ∧ e = -1) ∨ (byt W C s ≠ 35 ∧ ∃ q, nxt W H C s = .inr q ∧ e = Int32.ofNat q))
theorem Bd.none {W H : Nat} {C : Cel} {g l : Nat} {e : Int32} (h : Bd W H C g l e) : itp W H C g (l + 1) = none := by
  obtain ⟨s, h1, h2⟩ := h
  rcases h2 with ⟨h2, -⟩ | ⟨h2, q, h3, -⟩
  · simp only [itp, h1, if_pos h2]
  · simp only [itp, h1, if_neg h2, h3]
theorem it_none {W H : Nat} {C : Cel} {g i j : Nat} (h : itp W H C g i = none) (hij : i ≤ j) : itp W H C g j = none := by
  cases e : itp W H C g j with
  | none => rfl
  | some s =>
    obtain ⟨t, ht⟩ := it_pre e hij
    rw [h] at ht
    cases ht
theorem Bd.uniq {W H : Nat} {C : Cel} {g l l' : Nat} {e e' : Int32} (h : Bd W H C g l e) (h' : Bd W H C g l' e') : l = l' ∧ e = e' := by
  have n1 := h.none
  have n2 := h'.none
  obtain ⟨s, h1, h2⟩ := h
  obtain ⟨t, g1, g2⟩ := h'
  have a1 : ¬ l < l' := fun c => by rw [it_none n1 (show l + 1 ≤ l' by omega)] at g1; cases g1
  have a2 : ¬ l' < l := fun c => by rw [it_none n2 (show l' + 1 ≤ l by omega)] at h1; cases h1
  obtain rfl : l = l' := by omega
  rw [h1] at g1
  cases g1
  refine ⟨rfl, ?_⟩
  rcases h2 with ⟨h2, h3⟩ | ⟨h2, q, h3, h4⟩
  · rcases g2 with ⟨g2, g3⟩ | ⟨g2, -⟩
    · rw [h3, g3]
    · exact absurd h2 g2
  · rcases g2 with ⟨g2, -⟩ | ⟨g2, q', g3, g4⟩
    · exact absurd g2 h2
    · rw [h3] at g3
      cases g3
      rw [h4, g4]
theorem Bd.ex {W H : Nat} {C : Cel} (hW : 0 < W) (hH : 0 < H) {g : Nat} (hg : g < 2 * (W + H)) : ∃ l e, Bd W H C g l e := by
  apply Classical.byContradiction
  intro hn
  have key : ∀ i, ∃ s, itp W H C g i = some s := by
    intro i
    induction i with
    | zero => exact ⟨_, rfl⟩
    | succ i ih =>
      obtain ⟨s, hs⟩ := ih
      by_cases hb : byt W C s = 35
      · exact absurd ⟨i, -1, s, hs, Or.inl ⟨hb, rfl⟩⟩ hn
      · cases e : nxt W H C s with
        | inl t => exact ⟨t, it_succ.mpr ⟨s, hs, hb, e⟩⟩
        | inr q => exact absurd ⟨i, Int32.ofNat q, s, hs, Or.inr ⟨hb, q, e, rfl⟩⟩ hn
  obtain ⟨s, hs⟩ := key (2 * (W * H))
  have := it_bound hW hH hg hs
  omega
noncomputable def bL (W H : Nat) (C : Cel) (g : Nat) : Nat := Classical.epsilon fun l => ∃ e, Bd W H C g l e
noncomputable def bE (W H : Nat) (C : Cel) (g : Nat) : Int32 := @Classical.epsilon Int32 ⟨0⟩ fun e => Bd W H C g (bL W H C g) e
noncomputable def bN (W H : Nat) (C : Cel) (g : Nat) : Nat := bL W H C g + 1
def pS (W H : Nat) (C : Cel) (g i : Nat) : Pos := (itp W H C g i).getD (0, 0, 0)
/-- the cell by number, the direction, of a place of the way -/
def pC (W H : Nat) (C : Cel) (g i : Nat) : Nat := (pS W H C g i).1 * W + (pS W H C g i).2.1
def pD4 (W H : Nat) (C : Cel) (g i : Nat) : Nat := (pS W H C g i).2.2
def orB (f : Nat → Nat) : Nat → Int64
  | 0 => 0
  | n + 1 => orB f n ||| bitL (f n)
def twB (f : Nat → Nat) : Nat → Int64
  | 0 => 0
  | n + 1 => twB f n ||| (orB f n &&& bitL (f n))
section BND
variable {W H : Nat} {C : Cel} {g : Nat}
theorem b_spec (hW : 0 < W) (hH : 0 < H) (hg : g < 2 * (W + H)) : Bd W H C g (bL W H C g) (bE W H C g) := by
  have h := Bd.ex (C := C) hW hH hg
  have h1 : ∃ e, Bd W H C g (bL W H C g) e := Classical.epsilon_spec (p := fun l => ∃ e, Bd W H C g l e) h
  exact @Classical.epsilon_spec Int32 (fun e => Bd W H C g (bL W H C g) e) h1
theorem b_eq (hW : 0 < W) (hH : 0 < H) (hg : g < 2 * (W + H)) {l : Nat} {e : Int32} (h : Bd W H C g l e) : bN W H C g = l + 1 ∧ bE W H C g = e := by
  obtain ⟨h1, h2⟩ := (b_spec (C := C) hW hH hg).uniq h
  exact ⟨by unfold bN; rw [h1], h2⟩
theorem bN_le (hW : 0 < W) (hH : 0 < H) (hg : g < 2 * (W + H)) : bN W H C g ≤ 2 * (W * H) := by
  obtain ⟨s, h1, -⟩ := b_spec (C := C) hW hH hg
  exact it_bound hW hH hg h1
theorem it_some (hW : 0 < W) (hH : 0 < H) (hg : g < 2 * (W + H)) {i : Nat} (hi : i < bN W H C g) : itp W H C g i = some (pS W H C g i) := by
  obtain ⟨s, h1, -⟩ := b_spec (C := C) hW hH hg
  obtain ⟨t, ht⟩ := it_pre (i := i) h1 (by unfold bN at hi; omega)
  unfold pS
  rw [ht]; rfl
theorem pS_in (hW : 0 < W) (hH : 0 < H) (hg : g < 2 * (W + H)) {i : Nat} (hi : i < bN W H C g) : inS W H (pS W H C g i) := it_in hW hH hg (it_some hW hH hg hi)
theorem pC_lt (hW : 0 < W) (hH : 0 < H) (hg : g < 2 * (W + H)) {i : Nat} (hi : i < bN W H C g) : pC W H C g i < W * H := cell_lt (pS_in hW hH hg hi)
theorem pD_lt (hW : 0 < W) (hH : 0 < H) (hg : g < 2 * (W + H)) {i : Nat} (hi : i < bN W H C g) : pD4 W H C g i < 4 := (pS_in hW hH hg hi).2.2
theorem pS_of {i : Nat} {s : Pos} (h : itp W H C g i = some s) : pS W H C g i = s := by unfold pS; rw [h]; rfl
theorem pS_succ (hW : 0 < W) (hH : 0 < H) (hg : g < 2 * (W + H)) {i : Nat} (hi : i + 1 < bN W H C g) : nxt W H C (pS W H C g i) = .inl (pS W H C g (i + 1)) ∧ C (pC W H C g i) ≠ 35 := by
  obtain ⟨s, h1, h2, h3⟩ := it_succ.mp (it_some hW hH hg hi)
  rw [pS_of h1]
  refine ⟨h3, ?_⟩
  unfold pC
  rw [pS_of h1]
  exact h2
theorem bE_cases (hW : 0 < W) (hH : 0 < H) (hg : g < 2 * (W + H)) : (bE W H C g = -1 ∧ C (pC W H C g (bL W H C g)) = 35) ∨ ∃ q, bE W H C g = Int32.ofNat q ∧ endsAt W H C g q ∧ q < 2 * (W + H) ∧ nxt W H C (pS W H C g (bL W H C g)) = .inr q := by
  obtain ⟨s, h1, h2⟩ := b_spec (C := C) hW hH hg
  rcases h2 with ⟨h2, h3⟩ | ⟨h2, q, h3, h4⟩
  · left
    refine ⟨h3, ?_⟩
    unfold pC
    rw [pS_of h1]
    exact h2
  · right
    have h5 : endsAt W H C g q := ⟨_, s, h1, h2, h3⟩
    exact ⟨q, h4, h5, endsAt_lt hW hH hg h5, by rw [pS_of h1]; exact h3⟩
end BND
/-- whose number is the gate's -/
def fstG (W H : Nat) (C : Cel) (g : Nat) : Prop := ∀ e, endsAt W H C g e → g ≤ e
theorem g_ne {q : Nat} (h : q < 2 ^ 31) : Int32.ofNat q ≠ -1 := by
  intro e
  have := congrArg Int32.toInt e
  rw [oN_toInt h] at this
  have h2 : (-1 : Int32).toInt = -1 := by decide
  omega
theorem fstG_iff {W H : Nat} {C : Cel} (hW : 0 < W) (hH : 0 < H) (hb : 2 * (W + H) ≤ 28) {g : Nat} (hg : g < 2 * (W + H)) : fstG W H C g ↔ (bE W H C g = -1 ∨ Int32.ofNat g ≤ bE W H C g) := by
  rcases bE_cases (C := C) hW hH hg with ⟨h1, h2⟩ | ⟨q, h1, h2, h3, h4⟩
  · constructor
    · intro _; exact Or.inl h1
    · intro _ e he
      exfalso
      obtain ⟨i, s, k1, k2, k3⟩ := he
      obtain ⟨h5, -⟩ := (b_spec (C := C) hW hH hg).uniq (show Bd W H C g i (Int32.ofNat e) from ⟨s, k1, Or.inr ⟨k2, e, k3, rfl⟩⟩)
      rw [h5] at h2
      unfold pC at h2
      rw [pS_of k1] at h2
      exact k2 h2
  · rw [h1]
    constructor
    · intro f
      exact Or.inr ((oN_le (by omega) (by omega)).mpr (f q h2))
    · intro f e he
      obtain rfl := endsAt_one h2 he
      rcases f with f | f
      · exact absurd f (g_ne (by omega))
      · exact (oN_le (by omega) (by omega)).mp f
theorem bandFrom_iff {W H : Nat} {C : Cel} (hW : 0 < W) (hH : 0 < H) (hb : 2 * (W + H) ≤ 28) {g : Nat} (hg : g < 2 * (W + H)) : (if bE W H C g = -1 then Int32.ofNat g else if bE W H C g < Int32.ofNat g then bE W H C g else Int32.ofNat g) = Int32.ofNat g ↔ fstG W H C g := by
  rw [fstG_iff hW hH hb hg]
  by_cases h1 : bE W H C g = -1
  · rw [if_pos h1]
    exact ⟨fun _ => Or.inl h1, fun _ => rfl⟩
  · rw [if_neg h1]
    by_cases h2 : bE W H C g < Int32.ofNat g
    · rw [if_pos h2]
      constructor
      · intro e
        rw [e] at h2
        exact (Int32.lt_irrefl h2).elim
      · intro e
        exact absurd h2 (Int32.not_lt.mpr (e.resolve_left h1))
    · rw [if_neg h2]
      exact ⟨fun _ => Or.inr (Int32.not_lt.mp h2), fun _ => rfl⟩
/-- the same, to be decided -/
noncomputable def fstB (W H : Nat) (C : Cel) (g : Nat) : Bool := decide (bE W H C g = -1) || decide (Int32.ofNat g ≤ bE W H C g)
theorem fstB_iff {W H : Nat} {C : Cel} {g : Nat} : fstB W H C g = true ↔ (bE W H C g = -1 ∨ Int32.ofNat g ≤ bE W H C g) := by
  unfold fstB
  simp
/-- the lowest band that enters a cell in a row (p 1) or in a column (p 0); how often all enter it -/
def eIn (W H : Nat) (C : Cel) (p c g : Nat) : Nat → Bool
  | 0 => false
  | n + 1 => eIn W H C p c g n || (decide (pC W H C g n = c) && decide (pD4 W H C g n % 2 = p))
noncomputable def lowB (W H : Nat) (C : Cel) (p c : Nat) : Nat → Int32
  | 0 => -1
  | G + 1 => if lowB W H C p c G = -1 ∧ fstB W H C G = true ∧ eIn W H C p c G (bN W H C G) = true then Int32.ofNat G else lowB W H C p c G
noncomputable def entN (W H : Nat) (C : Cel) (c : Nat) : Nat → Nat
  | 0 => 0
  | G + 1 => entN W H C c G + (if fstB W H C G then cntB (fun i => decide (pC W H C G i = c)) (bN W H C G) else 0)
/-- whether the first n places have a cell twice -/
def crB (f : Nat → Nat) : Nat → Bool
  | 0 => false
  | n + 1 => crB f n || decide (0 < cntB (fun i => decide (f i = f n)) n)
noncomputable def nFst (W H : Nat) (C : Cel) (G : Nat) : Nat := cntB (fun g => fstB W H C g) G
noncomputable def nCrs (W H : Nat) (C : Cel) (G : Nat) : Nat := cntB (fun g => fstB W H C g && crB (pC W H C g) (bN W H C g)) G
