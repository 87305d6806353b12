/-! ===== from the interpreter to the machine, 1: addresses, cells, locals ===== -/
/-- addresses: from where on all is new, and of each cell -/
abbrev AM : Type := Nat × (Nat → Nat)
def ad (B : AM) (b o : Nat) : Nat := if o = 0 then b else B.2 (o - 1)
def tr (B : AM) (b : Nat) (v : Value) : Value := match v with
  | .ref o => .ref (ad B b o)
  | .int x => .int x
  | .long x => .long x
  | .float x => .float x
  | .double x => .double x
  | .null => .null
  | .retAddr x => .retAddr x
def cv (ca : Nat → ClassId) (B : AM) (b : Nat) (x : AE) : va_E := match x with
  | .inl (t, n, .inl f) => .inl (ca t, n, .inl f)
  | .inl (t, n, .inr (.inl f)) => .inl (ca t, n, .inr (.inl f))
  | .inl (t, n, .inr (.inr (.inl f))) => .inl (ca t, n, .inr (.inr (.inl f)))
  | .inl (t, n, .inr (.inr (.inr (.inl f)))) => .inl (ca t, n, .inr (.inr (.inr (.inl f))))
  | .inl (t, n, .inr (.inr (.inr (.inr f)))) => .inl (ca t, n, .inr (.inr (.inr (.inr fun j => (f j).map (ad B b)))))
  | .inr (ci, fs) => .inr (ci, fs.map (tr B b))
def wof (ca : Nat → ClassId) (B : AM) (b : Nat) (hs : List AE) : va_W := hs.tail.mapIdx fun i x => (B.2 i, cv ca B b x)
theorem wof_get (ca : Nat → ClassId) (B : AM) (b : Nat) (hs : List AE) (i : Nat) : (wof ca B b hs)[i]? = (hs[i + 1]?).map fun x => (B.2 i, cv ca B b x) := by
  simp [wof, List.getElem?_mapIdx]
theorem wof_len (ca : Nat → ClassId) (B : AM) (b : Nat) (hs : List AE) : (wof ca B b hs).length = hs.length - 1 := by
  simp [wof]
theorem wof_set (ca : Nat → ClassId) (B : AM) (b : Nat) (hs : List AE) (o : Nat) (x : AE) : wof ca B b (hs.set (o + 1) x) = (wof ca B b hs).set o (B.2 o, cv ca B b x) := by
  apply List.ext_getElem?
  intro i
  rw [wof_get, List.getElem?_set, List.getElem?_set, wof_get, wof_len]
  by_cases h : o = i
  · subst h
    by_cases h2 : o + 1 < hs.length
    · rw [if_pos rfl, if_pos h2, if_pos rfl, if_pos (by omega)]
      rfl
    · rw [if_pos rfl, if_neg h2, if_pos rfl, if_neg (by omega)]
      rfl
  · rw [if_neg (by omega), if_neg h]
theorem wof_push (ca : Nat → ClassId) (B : AM) (b : Nat) (hs : List AE) (hne : 0 < hs.length) (x : AE) : wof ca B b (hs ++ [x]) = wof ca B b hs ++ [(B.2 (hs.length - 1), cv ca B b x)] := by
  apply List.ext_getElem?
  intro i
  rw [wof_get]
  by_cases h : i < hs.length - 1
  · rw [List.getElem?_append_left (by omega), List.getElem?_append_left (by rw [wof_len]; exact h), wof_get]
  · rw [List.getElem?_append_right (by omega), List.getElem?_append_right (by rw [wof_len]; omega), wof_len]
    by_cases h2 : i = hs.length - 1
    · subst h2
      rw [show hs.length - 1 + 1 - hs.length = 0 by omega, Nat.sub_self]
      rfl
    · rw [List.getElem?_eq_none (by simp; omega), List.getElem?_eq_none (by simp; omega)]
      rfl
theorem tr_cat (B : AM) (b : Nat) (v : Value) : (tr B b v).category = v.category := by cases v <;> rfl
theorem ad_succ (B : AM) (b o : Nat) : ad B b (o + 1) = B.2 o := by simp [ad]
theorem ad_zero (B : AM) (b : Nat) : ad B b 0 = b := by simp [ad]
theorem narrow_tr {B : AM} {b : Nat} {t : FieldType} {v : Value} (h : narrow t v = v) : narrow t (tr B b v) = tr B b v := by
  cases v <;> first | exact h | (cases t <;> rfl)
theorem fits_tr {B : AM} {b : Nat} {t : FieldType} {v : Value} (h : fits t v = true) : fits t (tr B b v) = true := by
  cases v <;> first | exact h | (cases t <;> first | rfl | exact h)
def AB (B : Nat) : Nat → Prop := fun q => B ≤ q
/-- the addresses of the first n cells are apart, and new -/
def BI (B : AM) (n : Nat) : Prop := (∀ i j, i + 1 < n → j + 1 < n → B.2 i = B.2 j → i = j) ∧ ∀ i, i + 1 < n → B.1 ≤ B.2 i
theorem wof_D (ca : Nat → ClassId) {B : AM} (b : Nat) {hs : List AE} (hB : BI B hs.length) : va_D (AB B.1) (wof ca B b hs) := by
  refine ⟨fun i j p q hp hq e => ?_, fun k q hq => ?_⟩
  · have li := (List.getElem?_eq_some_iff.mp hp).1
    have lj := (List.getElem?_eq_some_iff.mp hq).1
    rw [wof_len] at li lj
    rw [wof_get] at hp hq
    obtain ⟨x, -, rfl⟩ := Option.map_eq_some_iff.mp hp
    obtain ⟨y, -, rfl⟩ := Option.map_eq_some_iff.mp hq
    exact hB.1 i j (by omega) (by omega) e
  · have lk' := (List.getElem?_eq_some_iff.mp hq).1
    rw [wof_len] at lk'
    rw [wof_get] at hq
    obtain ⟨y, -, rfl⟩ := Option.map_eq_some_iff.mp hq
    exact hB.2 k (by omega)
/-! locals -/
theorem lk_set (L : Lc) (i j : Nat) (x : Option Value) : lk (L.set i x) j = if j = i then (if i < L.length then x else none) else lk L j := by
  unfold lk
  rw [List.getElem?_set]
  by_cases h : i = j
  · subst h
    rw [if_pos rfl, if_pos rfl]
    by_cases h2 : i < L.length
    · rw [if_pos h2, if_pos h2]; cases x <;> rfl
    · rw [if_neg h2, if_neg h2]
  · rw [if_neg h, if_neg (fun e => h e.symm)]
theorem lk_clrP {L : Lc} {n j : Nat} {w : Value} (h : lk (clrP L n) j = some w) : lk L j = some w ∧ ¬ (j + 1 = n ∧ w.category = 2) := by
  unfold clrP at h
  cases n with
  | zero => exact ⟨h, by omega⟩
  | succ k =>
    dsimp only at h
    cases hk : lk L k with
    | none =>
      rw [hk] at h
      dsimp only at h
      refine ⟨h, fun ⟨e, _⟩ => ?_⟩
      have : j = k := by omega
      subst this
      rw [hk] at h
      cases h
    | some v =>
      rw [hk] at h
      dsimp only at h
      split at h
      · rw [lk_set] at h
        split at h
        · split at h <;> cases h
        · rename_i h3
          exact ⟨h, fun ⟨e, _⟩ => h3 (by omega)⟩
      · rename_i h3
        refine ⟨h, fun ⟨e, e2⟩ => ?_⟩
        have : j = k := by omega
        subst this
        rw [hk] at h
        cases h
        exact h3 e2
def LH (B : AM) (b : Nat) (ls : Array Slot) (n : Nat) (L : Lc) : Prop := ls.size = n ∧ lv_wf ls ∧ ∀ (i : Nat) (v : Value), lk L i = some v → ls[i]? = some (.val (tr B b v))
def lvl (B : AM) (b : Nat) (L : Lc) : List (Nat × Value) := (List.range L.length).filterMap fun i => (lk L i).map fun v => (i, tr B b v)
theorem lk_lt {L : Lc} {i : Nat} {v : Value} (h : lk L i = some v) : i < L.length := by
  unfold lk at h
  cases hx : L[i]? with
  | none => rw [hx] at h; cases h
  | some x => exact (List.getElem?_eq_some_iff.mp hx).1
theorem lvl_mem {B : AM} {b : Nat} {L : Lc} {i : Nat} {v : Value} (h : lk L i = some v) : (i, tr B b v) ∈ lvl B b L := by
  refine List.mem_filterMap.mpr ⟨i, List.mem_range.mpr (lk_lt h), ?_⟩
  rw [h]; rfl
theorem LH.has {B : AM} {b : Nat} {ls : Array Slot} {n : Nat} {L : Lc} (h : LH B b ls n L) : lv_has ls n (lvl B b L) := by
  refine ⟨h.1, h.2.1, fun q hq => ?_⟩
  obtain ⟨i, -, hi⟩ := List.mem_filterMap.mp hq
  obtain ⟨v, hv, rfl⟩ := Option.map_eq_some_iff.mp hi
  exact h.2.2 i v hv
theorem LH.of1 {B : AM} {b : Nat} {ls : Array Slot} {n : Nat} {L : Lc} {i : Nat} {v : Value} (h : lv_has ls n ((i, tr B b v) :: (lvl B b L).filter (fun q => !(q.1 == i) && !(q.1 + 1 == i && q.2.category == 2)))) : LH B b ls n (sto1 L i v) := by
  refine ⟨h.1, h.2.1, fun j w hj => ?_⟩
  refine h.2.2 (j, tr B b w) ?_
  unfold sto1 at hj
  rw [lk_set] at hj
  split at hj
  · rename_i e
    split at hj
    · cases hj
      rw [e]; exact List.mem_cons_self
    · cases hj
  · rename_i e
    obtain ⟨h1, h2⟩ := lk_clrP hj
    refine List.mem_cons_of_mem _ (List.mem_filter.mpr ⟨lvl_mem h1, ?_⟩)
    simp only [tr_cat, Bool.and_eq_true, Bool.not_eq_true', beq_eq_false_iff_ne, ne_eq, Bool.and_eq_false_iff]
    refine ⟨e, ?_⟩
    by_cases h3 : j + 1 = i
    · exact Or.inr fun h4 => h2 ⟨h3, h4⟩
    · exact Or.inl h3
theorem LH.of2 {B : AM} {b : Nat} {ls : Array Slot} {n : Nat} {L : Lc} {i : Nat} {v : Value} (h : lv_has ls n ((i, tr B b v) :: (lvl B b L).filter (fun q => !(q.1 == i) && (!(q.1 == i + 1) && !(q.1 + 1 == i && q.2.category == 2))))) : LH B b ls n (sto2 L i v) := by
  refine ⟨h.1, h.2.1, fun j w hj => ?_⟩
  refine h.2.2 (j, tr B b w) ?_
  unfold sto2 at hj
  rw [lk_set] at hj
  split at hj
  · split at hj <;> cases hj
  · rename_i e0
    rw [lk_set] at hj
    split at hj
    · rename_i e
      split at hj
      · cases hj
        rw [e]; exact List.mem_cons_self
      · cases hj
    · rename_i e
      obtain ⟨h1, h2⟩ := lk_clrP hj
      refine List.mem_cons_of_mem _ (List.mem_filter.mpr ⟨lvl_mem h1, ?_⟩)
      simp only [tr_cat, Bool.and_eq_true, Bool.not_eq_true', beq_eq_false_iff_ne, ne_eq, Bool.and_eq_false_iff]
      refine ⟨e, e0, ?_⟩
      by_cases h3 : j + 1 = i
      · exact Or.inr fun h4 => h2 ⟨h3, h4⟩
      · exact Or.inl h3
theorem LH.kill {B : AM} {b : Nat} {ls : Array Slot} {n : Nat} {L : Lc} (h : LH B b ls n L) (ks : List Nat) : LH B b ls n (killL L ks) := by
  induction ks generalizing L with
  | nil => exact h
  | cons k t ih =>
    refine ih (L := L.set k none) ⟨h.1, h.2.1, fun i v hi => ?_⟩
    rw [lk_set] at hi
    split at hi
    · split at hi <;> cases hi
    · exact h.2.2 i v hi
/-- the locals at a method's entry -/
theorem LH.ent {B : AM} {b n : Nat} {vs : List Value} (hlen : (entS vs).length ≤ n) : LH B b ((lg_sl (vs.map (tr B b)) ++ List.replicate (n - (lg_sl (vs.map (tr B b))).length) Slot.unset).toArray) n (entL n vs) := by
  have key : ∀ ws : List Value, lg_sl (ws.map (tr B b)) = (entS ws).map fun x => match x with
      | some v => Slot.val (tr B b v)
      | none => Slot.second := by
    intro ws
    induction ws with
    | nil => rfl
    | cons w t ih =>
      simp only [lg_sl, entS, List.map_cons, List.flatMap_cons, List.map_append, tr_cat] at ih ⊢
      rw [ih]
      split <;> rfl
  have hl : (lg_sl (vs.map (tr B b))).length = (entS vs).length := by rw [key, List.length_map]
  have hE := lv_entry (vs.map (tr B b)) (n := n) (by rw [hl]; exact hlen)
  refine ⟨hE.1, hE.2.1, fun i v hi => ?_⟩
  unfold lk entL at hi
  by_cases h : i < (entS vs).length
  · rw [List.getElem?_append_left h] at hi
    rw [List.getElem?_toArray, List.getElem?_append_left (by rw [hl]; exact h), key, List.getElem?_map]
    cases hx : (entS vs)[i]? with
    | none => rw [hx] at hi; cases hi
    | some x =>
      rw [hx] at hi
      cases x with
      | none => cases hi
      | some y => cases hi; rfl
  · rw [List.getElem?_append_right (by omega)] at hi
    rw [List.getElem?_replicate] at hi
    split at hi
    · rename_i z hz; split at hz
      · cases hz
      · cases hz
    · cases hi
