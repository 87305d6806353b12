/-! ===== locals killed by a mask ===== -/
def kz (m : List Bool) (L : Lc) : Lc := match m, L with
  | true :: m, _ :: L => none :: kz m L
  | false :: m, x :: L => x :: kz m L
  | _, L => L
theorem kz_get : ∀ (m : List Bool) (L : Lc) (i : Nat), (kz m L)[i]? = if m[i]? = some true then (L[i]?).map fun _ => none else L[i]? := by
  intro m
  induction m with
  | nil => intro L i; cases L <;> rfl
  | cons b m ih =>
    intro L i
    cases L with
    | nil => cases b <;> simp [kz]
    | cons x L =>
      cases i with
      | zero => cases b <;> simp [kz]
      | succ i => cases b <;> simp [kz, ih]
theorem killL_get : ∀ (ks : List Nat) (L : Lc) (i : Nat), (killL L ks)[i]? = if ks.contains i then (L[i]?).map fun _ => none else L[i]? := by
  intro ks
  induction ks with
  | nil => intro L i; rfl
  | cons k ks ih =>
    intro L i
    show (killL (L.set k none) ks)[i]? = _
    rw [ih, List.getElem?_set, List.contains_cons]
    by_cases e : k = i
    · subst e
      rw [if_pos rfl]
      by_cases h : k < L.length
      · rw [if_pos h, List.getElem?_eq_getElem h]
        simp
      · rw [if_neg h, List.getElem?_eq_none (by omega)]
        simp
    · have : (i == k) = false := by simpa using fun q => e q.symm
      rw [if_neg e, this, Bool.false_or]
theorem killL_kz {L : Lc} {ks : List Nat} {m : List Bool} {n : Nat} (hn : L.length = n) (hm : ((List.range n).map fun i => ks.contains i) = m) : killL L ks = kz m L := by
  subst hm
  subst hn
  apply List.ext_getElem?
  intro i
  rw [killL_get, kz_get]
  by_cases h : i < L.length
  · rw [List.getElem?_map, List.getElem?_range h]
    simp
  · rw [List.getElem?_eq_none (by omega)]
    simp
theorem cxk {k pc : Nat} {i : Instr} {n a b c : Nat} {L : Lc} {ks : List Nat} {m : List Bool} {z : Nat} (h : cd k pc = some (i, n, a, b, c, ks)) (h1 : ks.contains 1000 = false) (hm : ((List.range z).map fun i => ks.contains i) = m) (hn : L.length = z) (h2 : kz m L = L) : CDx k pc i n a b c L := ⟨ks, h, h1, (killL_kz hn hm).trans h2⟩
theorem e_killm {d k : Nat} {Q : Post} {pc n a b c : Nat} {ks : List Nat} {L L' : Lc} {st : List Value} {u : Nat × Nat} {g : Gp} {i : Instr} {m : List Bool} {z : Nat} (hcd : cd k pc = some (i, n, a, b, c, ks)) (hf : ks.contains 1000 = false) (hm : ((List.range z).map fun i => ks.contains i) = m) (hn : L.length = z) (h1 : kz m L = L') (hn' : L'.length = z) (h2 : kz m L' = L') (h : EX (cal d) k Q pc L' st u g) : EX (cal d) k Q pc L st u g :=
  e_kill hcd hf ((killL_kz hn hm).trans h1) ((killL_kz hn' hm).trans h2) h
