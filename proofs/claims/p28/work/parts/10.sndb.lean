/-! ===== from the interpreter to the machine, 2: what a frame knows, the instructions that make no call ===== -/
def NW : List Cond := flnT.map fwd ++ mlnT.map mwd
def tys (ca : Nat → ClassId) : List (ClassId × FieldType) := [(ca 0, .int), (ca 1, .long), (ca 2, .int), (ca 3, .object "RuneBands$Stone"), (ca 4, .object "RuneBands$Words")]
def SF (D : va_G) (ca : Nat → ClassId) (s : State) : Prop := va_K D vwCl (tys ca) s ∧ (∀ w ∈ NW, va_Nw w s) ∧ va_AO "RuneBands$Stone" s ∧ va_AO "RuneBands$Words" s
/-- the mark counted down from M0 -/
def tgm (m : Nat) : Nat := if m = 0 then M0 else m
/-- while nothing is frozen the cells lie one behind another -/
def Cg (B : AM) (g : Gp) (z : Nat) : Prop := g.1 = 0 → z = B.1 + (g.2.length - 1) ∧ ∀ i, B.2 i = B.1 + i
def Mk (ge m : Nat) : Prop := tgm m ≤ tgm ge ∧ (m = 0 → ge = 0)
def uc (ge : Nat) (u : Nat × Nat) (m : Nat) : Nat := u.1 + (tgm ge - tgm m)
def us (ge : Nat) (u : Nat × Nat) (m : Nat) : Nat := u.2 + 6 * (tgm ge - tgm m)
def FrC (k w : Nat) (p : Program) (R : Room) (s : State) (m : MethodId) (args : Array Value) (meth : Method) (c : Code) (D : va_G) (ca : Nat → ClassId) (B : AM) (b Ln : Nat) (xs : Nat → Int32) (d : Nat) : Prop :=
  p.tables.exec = Jvm.exec ∧ c.code = mB k ∧ c.maxLocals = mxl k ∧ s.vm.findClass (Rn (own k)) = some m.cls ∧ (∀ w ∈ GW, w.before args s = true) ∧ SF D ca s ∧ b < B.1 ∧ B.1 ≤ s.heap.size ∧ va_X b Ln xs s s.heap ∧
  d + 8 ≤ R.frames ∧ d * 64 + 200 ≤ R.locals ∧ bc k + w ≤ R.cells ∧ bs k + 6 * w ≤ R.slots ∧ ((mN k).name = "<init>" → meth.name = "<init>")
def WD (D : va_G) (ca : Nat → ClassId) (B : AM) (b Ln : Nat) (xs : Nat → Int32) (g : Gp) (H : Heap) : Prop :=
  (∃ tl, g.2 = .inl (9, Ln, .inl xs) :: tl) ∧ va_P D vwCl (wof ca B b g.2) H ∧ BI B g.2.length
def XS (k ge : Nat) (p : Program) (l : Launch) (e : Env) (R : Room) (s : State) (m : MethodId) (args : Array Value) (below : List Frame) (meth : Method) (c : Code) (D : va_G) (ca : Nat → ClassId) (B : AM) (b Ln : Nat) (xs : Nat → Int32) (QQ : State → Prop) : XT :=
  fun pc L st u g => ∀ (H : Heap) (locs : List Loc) (ls : Array Slot), LH B b ls (mxl k) L → WD D ca B b Ln xs g H → va_S (AB B.1) s.heap H locs → Cg B g (s.heap.size + u.1) → u.1 ≤ bc k → u.2 ≤ bs k → Mk ge g.1 →
    W p l e R s m args below meth c H locs (uc ge u g.1) (us ge u g.1) QQ (F0 m pc ls (st.map (tr B b)))
theorem pI_ex {st : List Value} {K : Int32 → List Value → Prop} (h : pI st K) : ∃ x r, st = .int x :: r ∧ K x r := by
  unfold pI at h; split at h
  · exact ⟨_, _, rfl, h⟩
  · exact h.elim
theorem pJ_ex {st : List Value} {K : Int64 → List Value → Prop} (h : pJ st K) : ∃ x r, st = .long x :: r ∧ K x r := by
  unfold pJ at h; split at h
  · exact ⟨_, _, rfl, h⟩
  · exact h.elim
theorem pD_ex {st : List Value} {K : UInt64 → List Value → Prop} (h : pD st K) : ∃ x r, st = .double x :: r ∧ K x r := by
  unfold pD at h; split at h
  · exact ⟨_, _, rfl, h⟩
  · exact h.elim
theorem pR_ex {st : List Value} {K : Nat → List Value → Prop} (h : pR st K) : ∃ x r, st = .ref x :: r ∧ K x r := by
  unfold pR at h; split at h
  · exact ⟨_, _, rfl, h⟩
  · exact h.elim
theorem pV_ex {st : List Value} {K : Value → List Value → Prop} (h : pV st K) : ∃ x r, st = x :: r ∧ K x r := by
  unfold pV at h; split at h
  · exact ⟨_, _, rfl, h⟩
  · exact h.elim
theorem lI_ex {L : Lc} {n : Nat} {K : Int32 → Prop} (h : lI L n K) : ∃ x, lk L n = some (.int x) ∧ K x := by
  unfold lI at h; split at h
  · exact ⟨_, ‹_›, h⟩
  · exact h.elim
theorem lJ_ex {L : Lc} {n : Nat} {K : Int64 → Prop} (h : lJ L n K) : ∃ x, lk L n = some (.long x) ∧ K x := by
  unfold lJ at h; split at h
  · exact ⟨_, ‹_›, h⟩
  · exact h.elim
theorem lD_ex {L : Lc} {n : Nat} {K : UInt64 → Prop} (h : lD L n K) : ∃ x, lk L n = some (.double x) ∧ K x := by
  unfold lD at h; split at h
  · exact ⟨_, ‹_›, h⟩
  · exact h.elim
theorem lR_ex {L : Lc} {n : Nat} {K : Nat → Prop} (h : lR L n K) : ∃ x, lk L n = some (.ref x) ∧ K x := by
  unfold lR at h; split at h
  · exact ⟨_, ‹_›, h⟩
  · exact h.elim
theorem hO_ex {g : Gp} {a : Nat} {K : Nat → List Value → Prop} (h : hO g a K) : ∃ ci fs, g.2[a]? = some (.inr (ci, fs)) ∧ K ci fs := by
  unfold hO at h; split at h
  · exact ⟨_, _, ‹_›, h⟩
  · exact h.elim
theorem hA_ex {g : Gp} {a : Nat} {K : Nat → Nat → Prop} (h : hA g a K) : ∃ t n f, g.2[a]? = some (.inl (t, n, f)) ∧ K t n := by
  unfold hA at h; split at h
  · exact ⟨_, _, _, ‹_›, h⟩
  · exact h.elim
theorem hI_ex {g : Gp} {a : Nat} {K : Nat → Nat → (Nat → Int32) → Prop} (h : hI g a K) : ∃ t n f, g.2[a]? = some (.inl (t, n, .inl f)) ∧ K t n f := by
  unfold hI at h; split at h
  · exact ⟨_, _, _, ‹_›, h⟩
  · exact h.elim
theorem hJ_ex {g : Gp} {a : Nat} {K : Nat → Nat → (Nat → Int64) → Prop} (h : hJ g a K) : ∃ t n f, g.2[a]? = some (.inl (t, n, .inr (.inl f))) ∧ K t n f := by
  unfold hJ at h; split at h
  · exact ⟨_, _, _, ‹_›, h⟩
  · exact h.elim
theorem hQ_ex {g : Gp} {a : Nat} {K : Nat → Nat → (Nat → Option Nat) → Prop} (h : hQ g a K) : ∃ t n f, g.2[a]? = some (.inl (t, n, .inr (.inr (.inr (.inr f))))) ∧ K t n f := by
  unfold hQ at h; split at h
  · exact ⟨_, _, _, ‹_›, h⟩
  · exact h.elim
/-- a cell that is no script: its number is a successor, it stands in the world -/
theorem WD.at {D : va_G} {ca : Nat → ClassId} {B : AM} {b Ln : Nat} {xs : Nat → Int32} {g : Gp} {H : Heap} (h : WD D ca B b Ln xs g H) {o : Nat} {x : AE} (ho : g.2[o]? = some x) (hx : x ≠ .inl (9, Ln, .inl xs)) : ∃ q, o = q + 1 ∧ (wof ca B b g.2)[q]? = some (B.2 q, cv ca B b x) ∧ ad B b o = B.2 q := by
  obtain ⟨⟨tl, ht⟩, -, -⟩ := h
  cases o with
  | zero =>
    rw [ht] at ho
    exact absurd (Option.some.inj ho).symm hx
  | succ q => exact ⟨q, rfl, by rw [wof_get, ho]; rfl, ad_succ B b q⟩
theorem WD.script {D : va_G} {ca : Nat → ClassId} {B : AM} {b Ln : Nat} {xs : Nat → Int32} {g : Gp} {H : Heap} (h : WD D ca B b Ln xs g H) {o : Nat} : (o = 0 ∧ g.2[o]? = some (.inl (9, Ln, .inl xs))) ∨ ∃ q, o = q + 1 := by
  obtain ⟨⟨tl, ht⟩, -, -⟩ := h
  cases o with
  | zero => exact Or.inl ⟨rfl, by rw [ht]; rfl⟩
  | succ q => exact Or.inr ⟨q, rfl⟩
theorem WD.D {D : va_G} {ca : Nat → ClassId} {B : AM} {b Ln : Nat} {xs : Nat → Int32} {g : Gp} {H : Heap} (h : WD D ca B b Ln xs g H) : va_D (AB B.1) (wof ca B b g.2) := wof_D ca b h.2.2
theorem WD.low {D : va_G} {ca : Nat → ClassId} {B : AM} {b Ln : Nat} {xs : Nat → Int32} {g : Gp} {H : Heap} (h : WD D ca B b Ln xs g H) (hB : B.1 ≤ H.size) (hc : ∀ i, B.2 i = B.1 + i) : B.1 + (g.2.length - 1) ≤ H.size := by
  by_cases h0 : g.2.length - 1 = 0
  · rw [h0]; exact hB
  · have hl := wof_len ca B b g.2
    have hi : g.2.length - 2 < (wof ca B b g.2).length := by omega
    have hg := List.getElem?_eq_getElem hi
    have h9 := (h.2.1 _ _ hg).lt
    rw [wof_get] at hg
    obtain ⟨y, -, hy⟩ := Option.map_eq_some_iff.mp hg
    rw [← hy] at h9
    have : B.2 (g.2.length - 2) < H.size := h9
    rw [hc] at this
    omega
theorem BI.of_seq {B : AM} (hc : ∀ i, B.2 i = B.1 + i) (n : Nat) : BI B n := ⟨fun i j _ _ e => by rw [hc, hc] at e; omega, fun i _ => by rw [hc]; omega⟩
/-- a cell is written: no other changes -/
theorem WD.put {D : va_G} {ca : Nat → ClassId} {B : AM} {b Ln : Nat} {xs : Nat → Int32} {g : Gp} {H H1 : Heap} (h : WD D ca B b Ln xs g H) {q : Nat} {x : AE} (hP : va_P D vwCl ((wof ca B b g.2).set q (B.2 q, cv ca B b x)) H1) : WD D ca B b Ln xs (wr g (q + 1) x) H1 := by
  obtain ⟨⟨tl, ht⟩, -, hB⟩ := h
  refine ⟨⟨tl.set q x, by simp only [wr, ht, List.set_cons_succ]⟩, ?_, ?_⟩
  · show va_P D vwCl (wof ca B b (g.2.set (q + 1) x)) H1
    rw [wof_set]
    exact hP
  · show BI B (g.2.set (q + 1) x).length
    rw [List.length_set]
    exact hB
theorem WD.push {D : va_G} {ca : Nat → ClassId} {B : AM} {b Ln : Nat} {xs : Nat → Int32} {g : Gp} {H H1 : Heap} (h : WD D ca B b Ln xs g H) (hc : ∀ i, B.2 i = B.1 + i) {x : AE} (hP : va_P D vwCl (wof ca B b g.2 ++ [(B.2 (g.2.length - 1), cv ca B b x)]) H1) : WD D ca B b Ln xs (nw g x) H1 := by
  obtain ⟨⟨tl, ht⟩, -, -⟩ := h
  refine ⟨⟨tl ++ [x], by simp only [nw, ht, List.cons_append]⟩, ?_, BI.of_seq hc _⟩
  show va_P D vwCl (wof ca B b (g.2 ++ [x])) H1
  rw [wof_push ca B b g.2 (by rw [ht]; simp) x]
  exact hP
/-- another map that says the same of the cells that are there -/
theorem tr_eq {B B' : AM} {b : Nat} {n : Nat} (h : ∀ i, i + 1 < n → B.2 i = B'.2 i) {v : Value} (hv : ∀ o, v = .ref o → o < n) : tr B b v = tr B' b v := by
  cases v with
  | ref o =>
    have := hv o rfl
    show Value.ref (ad B b o) = Value.ref (ad B' b o)
    unfold ad
    split
    · rfl
    · rename_i h0
      have h2 : Nat.lt o n := this
      have h3 : 0 < o := Nat.pos_of_ne_zero h0
      rw [h (o - 1) (by have := Nat.sub_add_cancel h3; show Nat.lt _ _; rw [this]; exact h2)]
  | _ => rfl
