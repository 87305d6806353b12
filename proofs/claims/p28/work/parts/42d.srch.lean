/-! ===== the search: what its choices are; fewer of them asked for ===== -/
section SCH
variable {all : Int64} {mk : Int32 → Int64} {cand : Nat → List Int32}
theorem foldC_go {most : Nat} {ok : Int32 → Bool} {f : Int32 → SR → SR} {P : SR → Prop} (hf : ∀ g s, ok g = true → ovS most s = false → P s → P (f g s)) : ∀ (l : List Int32) (s : SR), P s → P (foldC most ok f l s) := by
  intro l
  induction l with
  | nil => exact fun s h => h
  | cons g gs ih =>
    intro s h
    unfold foldC
    split
    · exact h
    · rename_i hov
      apply ih
      split
      · rename_i hok
        exact hf g s hok (by simpa using hov) h
      · exact h
/-- what later nodes leave: nodes and choices grow, the first choice stays -/
def Gro (a s : SR) : Prop := sLk a ≤ sLk s ∧ sFd a ≤ sFd s ∧ (0 < sFd a → sFs s = sFs a)
theorem Gro.rf (s : SR) : Gro s s := ⟨Nat.le_refl _, Nat.le_refl _, fun _ => rfl⟩
theorem Gro.tr {a b s : SR} (h : Gro a b) (h2 : Gro b s) : Gro a s := ⟨Nat.le_trans h.1 h2.1, Nat.le_trans h.2.1 h2.2.1, fun q => (h2.2.2 (Nat.lt_of_lt_of_le q h.2.1)).trans (h.2.2 q)⟩
theorem Gro.stop (s : SR) : Gro s (stopS s) := ⟨Nat.le_refl _, Nat.le_refl _, fun _ => rfl⟩
theorem Gro.node (s : SR) : Gro s (nodeS s) := ⟨Nat.le_succ _, Nat.le_refl _, fun _ => rfl⟩
theorem Gro.keep (p : List Int32) (s : SR) : Gro s (keepS p s) := ⟨Nat.le_refl _, Nat.le_succ _, fun q => if_neg (by omega)⟩
theorem look_gro {most : Nat} : ∀ (n : Nat) (p : List Int32) (cov : Int64) (s : SR), Gro s (lookS all mk cand most n p cov s) := by
  intro n
  induction n with
  | zero => intro p cov s; exact Gro.stop s
  | succ n ih =>
    intro p cov s
    unfold lookS
    split
    · exact Gro.stop s
    · split
      · exact (Gro.node s).tr (Gro.keep p _)
      · exact foldC_go (P := fun s' => Gro s s') (fun g s' _ _ h => h.tr (ih _ _ s')) _ _ (Gro.node s)
/-- the fewest are no more than the first choice's; none only without runes -/
def SmI (all : Int64) (s : SR) : Prop := 0 < sFd s → sSm s ≤ (sFs s).length ∧ (sSm s = 0 → all = 0)
def covL (mk : Int32 → Int64) (p : List Int32) : Int64 := p.foldl (fun c b => c ||| mk b) 0
theorem covL_app (p : List Int32) (b : Int32) : covL mk (p ++ [b]) = covL mk p ||| mk b := by
  unfold covL; rw [List.foldl_append]; rfl
/-- bands that share no rune, each with one -/
def Dsj (mk : Int32 → Int64) (p : List Int32) : Prop := ∀ j, j < p.length → mk (p.getD j 0) ≠ 0 ∧ mk (p.getD j 0) &&& covL mk (p.take j) = 0
theorem Dsj.app {p : List Int32} {b : Int32} (h : Dsj mk p) (h1 : mk b ≠ 0) (h2 : mk b &&& covL mk p = 0) : Dsj mk (p ++ [b]) := by
  intro j hj
  by_cases e : j < p.length
  · rw [gD_app1 _ _ e, List.take_append_of_le_length (by omega)]; exact h j e
  · have : j = p.length := by simp at hj; omega
    subst this
    rw [gD_app2, List.take_left']
    · exact ⟨h1, h2⟩
    · rfl
def VF (all : Int64) (mk : Int32 → Int64) (s : SR) : Prop := 0 < sFd s → Dsj mk (sFs s) ∧ opn all (covL mk (sFs s)) = 0
theorem opn0 {a : Int64} (h : opn a 0 = 0) : a = 0 := by
  unfold opn at h
  apply bt_ext
  intro c hc
  have h1 := congrArg (fun x => bt x c) h
  rw [bt_zero] at h1 ⊢
  have h2 : bt (a &&& (0 ^^^ -1)) c = false := h1
  rw [bt_and] at h2
  have h3 : ∀ c, c < 64 → bt ((0 : Int64) ^^^ -1) c = true := by decide
  rw [h3 c hc, Bool.and_true] at h2
  exact h2
theorem keep_inv {p : List Int32} {cov : Int64} {s : SR} (hs : SmI all s ∧ VF all mk s) (hp : Dsj mk p) (hc : covL mk p = cov) (ho : opn all cov = 0) : SmI all (keepS p s) ∧ VF all mk (keepS p s) := by
  refine ⟨fun _ => ?_, fun _ => ?_⟩
  · show (if sFd s = 0 then p.length else min (sSm s) p.length) ≤ (if sFd s = 0 then p else sFs s).length ∧ ((if sFd s = 0 then p.length else min (sSm s) p.length) = 0 → all = 0)
    have h0 : p.length = 0 → all = 0 := fun e => by
      have : p = [] := List.length_eq_zero_iff.mp e
      subst this
      have hc : (0 : Int64) = cov := hc
      rw [← hc] at ho
      exact opn0 ho
    by_cases e : sFd s = 0
    · rw [if_pos e, if_pos e]
      exact ⟨Nat.le_refl _, h0⟩
    · rw [if_neg e, if_neg e]
      obtain ⟨a, b⟩ := hs.1 (by omega)
      refine ⟨by omega, fun z => ?_⟩
      by_cases q : sSm s = 0
      · exact b q
      · exact h0 (by omega)
  · show Dsj mk (if sFd s = 0 then p else sFs s) ∧ opn all (covL mk (if sFd s = 0 then p else sFs s)) = 0
    by_cases e : sFd s = 0
    · rw [if_pos e, hc]; exact ⟨hp, ho⟩
    · rw [if_neg e]; exact hs.2 (by omega)
theorem okS_ne {cov : Int64} {c : Nat} {g : Int32} (h : okS mk cov c g = true) : mk g ≠ 0 ∧ mk g &&& cov = 0 := by
  unfold okS at h
  rw [Bool.and_eq_true, decide_eq_true_iff] at h
  exact ⟨bt_ne.mpr ⟨c, bt_ltc h.1, h.1⟩, h.2⟩
theorem look_inv {most : Nat} : ∀ (n : Nat) (p : List Int32) (cov : Int64) (s : SR), Dsj mk p → covL mk p = cov → SmI all s ∧ VF all mk s → SmI all (lookS all mk cand most n p cov s) ∧ VF all mk (lookS all mk cand most n p cov s) := by
  intro n
  induction n with
  | zero => intro p cov s _ _ h; exact h
  | succ n ih =>
    intro p cov s hp hc h
    unfold lookS
    split
    · exact h
    · split
      · rename_i ho
        exact keep_inv (s := nodeS s) h hp hc ho
      · refine foldC_go (P := fun s' => SmI all s' ∧ VF all mk s') (fun g s' hok _ h' => ?_) _ _ h
        obtain ⟨a, b⟩ := okS_ne hok
        rw [← hc] at b
        exact ih _ _ s' (hp.app a b) (by rw [covL_app, hc]) h'
/-- both searches go together until the one has enough -/
def Sim (m : Nat) (s1 s2 : SR) : Prop := (s1 = s2 ∧ sFd s1 < m) ∨ (sFd s1 = m ∧ m ≤ sFd s2 ∧ sFs s1 = sFs s2)
theorem fold_sim {m1 m2 : Nat} (h1 : 1 ≤ m1) (h12 : m1 ≤ m2) {ok : Int32 → Bool} {f1 f2 : Int32 → SR → SR} (hf : ∀ g s, sFd s < m1 → Sim m1 (f1 g s) (f2 g s)) (hg : ∀ g s, Gro s (f2 g s)) : ∀ (l : List Int32) (s1 s2 : SR), Sim m1 s1 s2 → Sim m1 (foldC m1 ok f1 l s1) (foldC m2 ok f2 l s2) := by
  intro l
  induction l with
  | nil => exact fun _ _ h => h
  | cons g gs ih =>
    intro s1 s2 h
    rcases h with ⟨rfl, hl⟩ | ⟨ha, hb, hc⟩
    · cases hst : sSt s1 with
      | true =>
        have e1 : ovS m1 s1 = true := by unfold ovS; rw [hst]; rfl
        have e2 : ovS m2 s1 = true := by unfold ovS; rw [hst]; rfl
        rw [foldC_ov e1, foldC_ov e2]
        exact Or.inl ⟨rfl, hl⟩
      | false =>
        have e1 : ovS m1 s1 = false := by unfold ovS; rw [hst, decide_eq_false (by omega)]; rfl
        have e2 : ovS m2 s1 = false := by unfold ovS; rw [hst, decide_eq_false (by omega)]; rfl
        rw [foldC_cons e1, foldC_cons e2]
        apply ih
        split
        · exact hf g s1 hl
        · exact Or.inl ⟨rfl, hl⟩
    · have e1 : ovS m1 s1 = true := by unfold ovS; rw [decide_eq_true ha, Bool.or_true]
      rw [foldC_ov e1]
      have := foldC_go (most := m2) (ok := ok) (f := f2) (P := fun s' => Gro s2 s') (fun g s' _ _ h => h.tr (hg g s')) (g :: gs) s2 (Gro.rf s2)
      exact Or.inr ⟨ha, Nat.le_trans hb this.2.1, hc.trans (this.2.2 (by omega)).symm⟩
theorem look_sim {m1 m2 : Nat} (h1 : 1 ≤ m1) (h12 : m1 ≤ m2) : ∀ (n : Nat) (p : List Int32) (cov : Int64) (s : SR), sFd s < m1 → Sim m1 (lookS all mk cand m1 n p cov s) (lookS all mk cand m2 n p cov s) := by
  intro n
  induction n with
  | zero => intro p cov s h; exact Or.inl ⟨rfl, h⟩
  | succ n ih =>
    intro p cov s h
    unfold lookS
    split
    · exact Or.inl ⟨rfl, h⟩
    · split
      · have e : sFd (keepS p (nodeS s)) = sFd s + 1 := rfl
        by_cases q : sFd s + 1 < m1
        · exact Or.inl ⟨rfl, by rw [e]; exact q⟩
        · exact Or.inr ⟨by rw [e]; omega, by rw [e]; omega, rfl⟩
      · exact fold_sim h1 h12 (fun g s' hs => ih _ _ s' hs) (fun g s' => look_gro _ _ _ s') _ _ _ (Or.inl ⟨rfl, h⟩)
end SCH
section SCR
variable {W H : Nat} {C : Cel}
theorem run_sim {m : Nat} (h1 : 1 ≤ m) (h50 : m ≤ 50) : Sim m (runC W H C m) (runC W H C 50) := look_sim h1 h50 29 [] 0 _ h1
theorem run_fd {m : Nat} (h1 : 1 ≤ m) (h50 : m ≤ 50) : sFd (runC W H C m) = min m (sFd (runC W H C 50)) := by
  rcases run_sim (W := W) (H := H) (C := C) h1 h50 with ⟨a, b⟩ | ⟨a, b, -⟩
  · rw [← a]; omega
  · omega
theorem run_fs (h : 0 < sFd (runC W H C 50)) : sFs (runC W H C 1) = sFs (runC W H C 50) := by
  rcases run_sim (W := W) (H := H) (C := C) (Nat.le_refl 1) (by decide : 1 ≤ 50) with ⟨a, -⟩ | ⟨-, -, c⟩
  · rw [a]
  · exact c
theorem run_inv {m : Nat} : SmI (rmask C (W * H)) (runC W H C m) ∧ VF (rmask C (W * H)) (mkS W H C) (runC W H C m) :=
  look_inv 29 [] 0 _ (fun j hj => absurd hj (Nat.not_lt_zero j)) rfl ⟨fun h => absurd h (Nat.lt_irrefl 0), fun h => absurd h (Nat.lt_irrefl 0)⟩
theorem run_lk {m : Nat} : 1 ≤ sLk (runC W H C m) := by
  have key : ∀ (all : Int64) (mk : Int32 → Int64) (cand : Nat → List Int32) (most n : Nat) (p : List Int32) (cov : Int64), 1 ≤ sLk (lookS all mk cand most (n + 1) p cov (0, 0, false, 0, [])) := by
    intro all mk cand most n p cov
    unfold lookS
    rw [if_neg (by decide)]
    split
    · exact Nat.le_refl _
    · exact (foldC_go (P := fun s' => Gro (nodeS (0, 0, false, 0, [])) s') (fun g s' _ _ h => h.tr (look_gro _ _ _ s')) _ _ (Gro.rf _)).1
  exact key _ _ _ _ 28 _ _
/-- a band that was chosen -/
theorem mkS_ne {b : Int32} (h : mkS W H C b ≠ 0) : ∃ g, g < 28 ∧ b = Int32.ofNat g ∧ g < 2 * (W + H) ∧ fstB W H C g = true ∧ crB (pC W H C g) (bN W H C g) = false ∧ mkS W H C b = orB (pC W H C g) (bN W H C g) &&& rmask C (W * H) := by
  unfold mkS atJ at h
  by_cases h1 : b < 0
  · rw [if_pos h1] at h; exact absurd rfl h
  · rw [if_neg h1] at h
    by_cases h2 : Int32.ofNat 28 ≤ b
    · rw [if_pos h2] at h; exact absurd rfl h
    · rw [if_neg h2] at h
      obtain ⟨k1, k2⟩ := nn_nat (Int32.not_lt.mp h1)
      generalize hg : b.toNatClampNeg = g at *
      have hg28 : g < 28 := by
        have : ¬ 28 ≤ g := fun q => h2 (by rw [k1]; exact (oN_le (by decide) k2).mpr q)
        omega
      have hm : mkS W H C b = mkG W H C g := by
        unfold mkS
        rw [k1, atJ_oN hg28 (by decide)]
      unfold mkG at h
      by_cases q : g < 2 * (W + H) ∧ fstB W H C g = true ∧ crB (pC W H C g) (bN W H C g) = false
      · refine ⟨g, hg28, k1, q.1, q.2.1, q.2.2, ?_⟩
        rw [hm]; unfold mkG; rw [if_pos q]
      · rw [if_neg q] at h; exact absurd rfl h
/-- the runes of a stone, and the mask -/
theorem runes0 (h49 : W * H ≤ 49) : rmask C (W * H) = 0 ↔ cntB (fun c => isRB (C c)) (W * H) = 0 := by
  constructor
  · intro h
    apply Classical.byContradiction
    intro hn
    obtain ⟨c, h1, h2⟩ := cntB_pos.mp (Nat.pos_of_ne_zero hn)
    have h3 := bt_rmask (C := C) (n := W * H) (by omega) c
    rw [h, bt_zero, decide_eq_true h1, h2] at h3
    cases h3
  · intro h
    apply bt_ext
    intro c _
    rw [bt_rmask (by omega), bt_zero]
    by_cases q : c < W * H
    · cases e : isRB (C c) with
      | false => rw [Bool.and_false]
      | true =>
        have := cntB_pos (p := fun c => isRB (C c)) (n := W * H) |>.mpr ⟨c, q, e⟩
        omega
    · rw [decide_eq_false q]; rfl
/-- the repair's answer -/
theorem repS_val : ∀ n, n ≤ 49 → (repS W H C n = -1) ∨ ∃ c, c < n ∧ C c = 35 ∧ ((repS W H C n = Int32.ofNat (2 * c) ∧ hasC W H C c 47 = true) ∨ (repS W H C n = Int32.ofNat (2 * c + 1) ∧ hasC W H C c 92 = true)) := by
  intro n
  induction n with
  | zero => intro _; exact Or.inl rfl
  | succ n ih =>
    intro hn
    unfold repS
    rcases ih (by omega) with h | ⟨c, h1, h2, h3⟩
    · rw [if_pos h]
      by_cases e : C n = 35
      · rw [if_pos e]
        by_cases a : hasC W H C n 47 = true
        · rw [if_pos a]; exact Or.inr ⟨n, by omega, e, Or.inl ⟨rfl, a⟩⟩
        · rw [if_neg a]
          by_cases b : hasC W H C n 92 = true
          · rw [if_pos b]; exact Or.inr ⟨n, by omega, e, Or.inr ⟨rfl, b⟩⟩
          · rw [if_neg b]; exact Or.inl rfl
      · rw [if_neg e]; exact Or.inl rfl
    · have hne : repS W H C n ≠ -1 := by
        rcases h3 with ⟨h3, -⟩ | ⟨h3, -⟩ <;> rw [h3] <;> exact g_ne (by omega)
      rw [if_neg hne]
      exact Or.inr ⟨c, by omega, h2, h3⟩
end SCR
