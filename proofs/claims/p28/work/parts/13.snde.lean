/-! ===== from the interpreter to the machine, 5: allotting, the ends (by program, wip/whole/gsn3.py) ===== -/
theorem cl_bnd : ∀ q ∈ clgT, q.2.2 < 9 := by decide +kernel
theorem al_bnd : ∀ q ∈ algT, q.2.2 = 3 ∨ q.2.2 = 4 := by decide +kernel
theorem ins_all : ∀ a ∈ List.range 9, a ∈ insT := by decide +kernel
theorem ini_all : ∀ a ∈ List.range 14, a ∈ iniT := by decide +kernel
theorem sp_at {j : Nat} {w : Cond} (h : spL[j]? = some w) : w ∈ GW := spL_in w (List.mem_of_getElem? h)
/-- the address of what is new -/
theorem new_q {ca : Nat → ClassId} {B : AM} {b Ln : Nat} {xs : Nat → Int32} {D : va_G} {hs : List AE} {H1 : Heap} {q : Nat} {x : va_E} {sz : Nat} (hc : ∀ i, B.2 i = B.1 + i) (hl : 0 < hs.length) (hP : va_P D vwCl (wof ca B b hs ++ [(q, x)]) H1) (hD : va_D (AB B.1) (wof ca B b hs ++ [(q, x)])) (hz : H1.size ≤ sz) (hsz : sz = B.1 + hs.length) : q = B.2 (hs.length - 1) := by
  rw [hc]
  have hlen := wof_len ca B b hs
  have e1 : (wof ca B b hs ++ [(q, x)])[hs.length - 1]? = some (q, x) := by
    rw [List.getElem?_append_right (by omega), hlen, Nat.sub_self]; rfl
  have h1 : B.1 ≤ q := hD.2 _ _ e1
  have h2 : q < H1.size := (hP _ _ e1).lt
  by_cases h3 : q = B.1 + (hs.length - 1)
  · exact h3
  · have h4 : q - B.1 < hs.length - 1 := by omega
    have h5 : q - B.1 < (wof ca B b hs).length := by omega
    have e2 : (wof ca B b hs ++ [(q, x)])[q - B.1]? = some ((wof ca B b hs)[q - B.1]) := by
      rw [List.getElem?_append_left h5, List.getElem?_eq_getElem h5]
    have e3 := List.getElem?_eq_getElem h5
    rw [wof_get] at e3
    obtain ⟨y, -, hy⟩ := Option.map_eq_some_iff.mp e3
    have h6 := hD.1 (q - B.1) (hs.length - 1) _ _ e2 e1 (by rw [← hy]; show B.2 (q - B.1) = q; rw [hc]; omega)
    omega
def rI (v : Option Value) : Instr := match v with
  | none => .return_
  | some (.int _) => .ireturn
  | some (.long _) => .lreturn
  | some (.double _) => .dreturn
  | _ => .areturn
def rOk (r : Nat) (v : Option Value) : Prop := match v with
  | none => r = 0
  | some (.int x) => r = 1 ∨ (r = 2 ∧ (x = 0 ∨ x = 1))
  | some (.long _) => r = 3
  | some (.double _) => r = 4
  | some .null => r = 5
  | some (.ref _) => r = 5
  | _ => False
section SND3
variable {k ge w : Nat} {p : Program} {l : Launch} {e : Env} {R : Room} {s : State} {m : MethodId} {args : Array Value} {below : List Frame} {meth : Method} {c : Code} {D : va_G} {ca : Nat → ClassId} {B : AM} {b Ln : Nat} {xs : Nat → Int32} {d : Nat} {QQ : State → Prop}
variable {C : CT} {Q : Post} {pc n a9 b9 c9 : Nat} {L : Lc} {st : List Value} {u : Nat × Nat} {g : Gp}

set_option maxHeartbeats 4000000 in
theorem xs_new {i : Instr} {ks : List Nat} (F : FrC k w p R s m args meth c D ca B b Ln xs d) (hok : okB k (pc, i, n, a9, b9, c9, ks) = true) (hd : decode (mB k) pc = .ok (i, n)) (hn : isTS i = false → n = ilen i) (hg : grp i = 2) (hc9 : ∀ x, i = .new x → c9 ≠ 1) (hz9 : ∀ t, i = .newarray t → g.1 = 0) (hcj : tgm ge ≤ tgm g.1 + w) (h : st1 C k Q (XS k ge p l e R s m args below meth c D ca B b Ln xs QQ) pc i n a9 b9 c9 L st u g) : XS k ge p l e R s m args below meth c D ca B b Ln xs QQ pc L st u g := by
  obtain ⟨hx, hb, hml, hown, hts, hSF, hbB, hBs, hX, hR1, hR2, hR3, hR4, hnm⟩ := F
  have hK := hSF.1
  have hAll : ∀ q, s.heap.size ≤ q → AB B.1 q := fun q hq => Nat.le_trans hBs hq
  cases i with
  | new x =>
    obtain rfl : n = 3 := hn rfl
    change (if c9 = 1 then _ else _) at h
    rw [if_neg (hc9 x rfl)] at h
    obtain ⟨hfz, hb1, hb2, h⟩ := h
    intro H locs ls hl hw hS hE h1 h2 hz0
    have hge := hz0.2 hfz
    have hc := (hE hfz).2
    have hE1 := (hE hfz).1
    have hsq : u.1 + 1 ≤ R.cells ∧ u.2 + nf a9 ≤ R.slots := by omega
    have hu0 : uc ge u g.1 = u.1 ∧ us ge u g.1 = u.2 := by unfold uc us; rw [hge, hfz]; omega
    rw [hu0.1, hu0.2]
    have hlen : 0 < g.2.length := by obtain ⟨⟨tl, ht⟩, -⟩ := hw; rw [ht]; simp
    simp only [okB, Bool.and_eq_true, Bool.or_eq_true, beq_iff_eq] at hok
    have hm := List.contains_iff_mem.mp (hok.2.resolve_left (hc9 x rfl))
    have ha : a9 < 9 := cl_bnd _ hm
    have hcl : Cond.classLink (Rn (own k)) x (Rn a9) ∈ GW := clgT_in _ hm
    have hin : Cond.instantiable (Rn a9) (nf a9) ∈ GW := insT_in a9 (ins_all a9 (List.mem_range.mpr ha))
    have hii : Cond.initialized (Rn a9) ∈ GW := iniT_in a9 (ini_all a9 (List.mem_range.mpr (by omega)))
    refine va_new (D := D) (ci := a9) (C := Rn a9) (T := TXf a9) (N := nf a9) (fs := fs0 a9) hx hb hts (ws_in ha) (fty a9) (fty_ok a9 ha) hown (hts _ hcl) (hts _ hin) (hts _ hii) hK hw.2.1 (hw.D) hS hAll (vwCl_at a9 ha) (fun j hj => ?_) (by omega) (by omega) hd fun q H1 hP1 hD1 hS1 => W_sz fun hz => ?_
    · simp [vp_V, fs0, hj]
    · have hq : q = B.2 (g.2.length - 1) := new_q (xs := xs) (Ln := Ln) hc hlen hP1 hD1 hz (by omega)
      subst hq
      have e1 : tr B b (.ref g.2.length) = .ref (B.2 (g.2.length - 1)) := by show Value.ref (ad B b _) = _; unfold ad; rw [if_neg (by omega)]
      have h3 := h H1 locs ls hl (hw.push hc (x := .inr (a9, fs0 a9)) (by show va_P D vwCl (wof ca B b g.2 ++ [(_, .inr (a9, (fs0 a9).map (tr B b)))]) H1; rw [fs0_tr]; exact hP1)) hS1 (fun e9 => ⟨by show s.heap.size + (u.1 + 1) = B.1 + ((g.2 ++ [_]).length - 1); rw [List.length_append]; simp; omega, hc⟩) hb1 hb2 hz0
      have hu1 : ∀ a c : Nat, uc ge (a, c) g.1 = a ∧ us ge (a, c) g.1 = c := fun a c => by unfold uc us; rw [hge, hfz]; omega
      rw [List.map_cons, e1] at h3
      have h3 : W p l e R s m args below meth c H1 locs (uc ge (_, _) g.1) (us ge (_, _) g.1) QQ _ := h3
      rw [(hu1 _ _).1, (hu1 _ _).2] at h3
      exact h3
  | newarray t =>
    obtain rfl : n = 2 := hn rfl
    obtain ⟨z, r, he0, hzz, hzn, ht, h8⟩ := pI_ex h
    clear h
    subst he0
    have hfz := hz9 t rfl
    rw [if_pos hfz] at h8
    obtain ⟨hb1, hb2, h⟩ := h8
    intro H locs ls hl hw hS hE h1 h2 hz0
    have hge := hz0.2 hfz
    have hc := (hE hfz).2
    have hE1 := (hE hfz).1
    have hsq : u.1 + 1 ≤ R.cells ∧ u.2 + z.toNatClampNeg ≤ R.slots := by omega
    have hu0 : uc ge u g.1 = u.1 ∧ us ge u g.1 = u.2 := by unfold uc us; rw [hge, hfz]; omega
    rw [hu0.1, hu0.2]
    have hlen : 0 < g.2.length := by obtain ⟨⟨tl, ht⟩, -⟩ := hw; rw [ht]; simp
    have e1 : tr B b (.ref g.2.length) = .ref (B.2 (g.2.length - 1)) := by show Value.ref (ad B b _) = _; unfold ad; rw [if_neg (by omega)]
    have hneg : ¬ z < 0 := fun q => Int32.lt_irrefl (Int32.lt_of_lt_of_le q hzz)
    cases t with
    | int =>
      refine va_newa (D := D) (a0 := (z.toNatClampNeg, .inl fun _ => 0)) hx hb (hts _ (sp_at (j := 7) rfl)) (ty := .int) rfl hK hw.2.1 (hw.D) hS hAll (fun cA => rfl) hneg rfl (by show z.toNatClampNeg * 4 ≤ _; omega) (by omega) (by omega) hd fun q cA H1 hK1 hP1 hD1 hS1 => W_sz fun hz => ?_
      obtain rfl := tys_name (t := 0) hK hK1 rfl
      have hq : q = B.2 (g.2.length - 1) := new_q (xs := xs) (Ln := Ln) hc hlen hP1 hD1 hz (by omega)
      subst hq
      have h3 := h H1 locs ls hl (hw.push hc (x := atNew .int z.toNatClampNeg) hP1) hS1 (fun e9 => ⟨by show s.heap.size + (u.1 + 1) = B.1 + ((g.2 ++ [_]).length - 1); rw [List.length_append]; simp; omega, hc⟩) hb1 hb2 hz0
      have hu1 : ∀ a c : Nat, uc ge (a, c) g.1 = a ∧ us ge (a, c) g.1 = c := fun a c => by unfold uc us; rw [hge, hfz]; omega
      rw [List.map_cons, e1] at h3
      have h3 : W p l e R s m args below meth c H1 locs (uc ge (_, _) g.1) (us ge (_, _) g.1) QQ _ := h3
      rw [(hu1 _ _).1, (hu1 _ _).2] at h3
      exact h3
    | long =>
      refine va_newa (D := D) (a0 := (z.toNatClampNeg, .inr (.inl fun _ => 0))) hx hb (hts _ (sp_at (j := 8) rfl)) (ty := .long) rfl hK hw.2.1 (hw.D) hS hAll (fun cA => rfl) hneg rfl (by show z.toNatClampNeg * 8 ≤ _; omega) (by omega) (by omega) hd fun q cA H1 hK1 hP1 hD1 hS1 => W_sz fun hz => ?_
      obtain rfl := tys_name (t := 1) hK hK1 rfl
      have hq : q = B.2 (g.2.length - 1) := new_q (xs := xs) (Ln := Ln) hc hlen hP1 hD1 hz (by omega)
      subst hq
      have h3 := h H1 locs ls hl (hw.push hc (x := atNew .long z.toNatClampNeg) hP1) hS1 (fun e9 => ⟨by show s.heap.size + (u.1 + 1) = B.1 + ((g.2 ++ [_]).length - 1); rw [List.length_append]; simp; omega, hc⟩) hb1 hb2 hz0
      have hu1 : ∀ a c : Nat, uc ge (a, c) g.1 = a ∧ us ge (a, c) g.1 = c := fun a c => by unfold uc us; rw [hge, hfz]; omega
      rw [List.map_cons, e1] at h3
      have h3 : W p l e R s m args below meth c H1 locs (uc ge (_, _) g.1) (us ge (_, _) g.1) QQ _ := h3
      rw [(hu1 _ _).1, (hu1 _ _).2] at h3
      exact h3
    | _ => exact absurd ht (by simp [atTag])
  | anewarray x =>
    obtain rfl : n = 3 := hn rfl
    obtain ⟨z, r, he0, hfz, hzz, hzn, hb1, hb2, h8⟩ := pI_ex h
    clear h
    subst he0
    have h := h8
    clear h8
    intro H locs ls hl hw hS hE h1 h2 hz0
    have hge := hz0.2 hfz
    have hc := (hE hfz).2
    have hE1 := (hE hfz).1
    have hsq : u.1 + 1 ≤ R.cells ∧ u.2 + z.toNatClampNeg ≤ R.slots := by omega
    have hu0 : uc ge u g.1 = u.1 ∧ us ge u g.1 = u.2 := by unfold uc us; rw [hge, hfz]; omega
    rw [hu0.1, hu0.2]
    have hlen : 0 < g.2.length := by obtain ⟨⟨tl, ht⟩, -⟩ := hw; rw [ht]; simp
    have e1 : tr B b (.ref g.2.length) = .ref (B.2 (g.2.length - 1)) := by show Value.ref (ad B b _) = _; unfold ad; rw [if_neg (by omega)]
    have hneg : ¬ z < 0 := fun q => Int32.lt_irrefl (Int32.lt_of_lt_of_le q hzz)
    simp only [okB, Bool.and_eq_true] at hok
    have hm := List.contains_iff_mem.mp hok.2
    have hcl := algT_in _ hm
    rcases al_bnd _ hm with e9 | e9
    · obtain rfl : a9 = 3 := e9
      refine va_newq (D := D) (C := "RuneBands$Stone") hx hb hown (hts _ hcl) hSF.2.2.1 hK hw.2.1 (hw.D) hS hAll hneg rfl (by omega) (by omega) (by omega) hd fun q cA H1 hK1 hP1 hD1 hS1 => W_sz fun hz => ?_
      obtain rfl := tys_name (t := 3) hK hK1 rfl
      have hq : q = B.2 (g.2.length - 1) := new_q (xs := xs) (Ln := Ln) hc hlen hP1 hD1 hz (by omega)
      subst hq
      have h3 := h H1 locs ls hl (hw.push hc (x := .inl (3, z.toNatClampNeg, .inr (.inr (.inr (.inr fun _ => none))))) hP1) hS1 (fun e9 => ⟨by show s.heap.size + (u.1 + 1) = B.1 + ((g.2 ++ [_]).length - 1); rw [List.length_append]; simp; omega, hc⟩) hb1 hb2 hz0
      have hu1 : ∀ a c : Nat, uc ge (a, c) g.1 = a ∧ us ge (a, c) g.1 = c := fun a c => by unfold uc us; rw [hge, hfz]; omega
      rw [List.map_cons, e1] at h3
      have h3 : W p l e R s m args below meth c H1 locs (uc ge (_, _) g.1) (us ge (_, _) g.1) QQ _ := h3
      rw [(hu1 _ _).1, (hu1 _ _).2] at h3
      exact h3
    · obtain rfl : a9 = 4 := e9
      refine va_newq (D := D) (C := "RuneBands$Words") hx hb hown (hts _ hcl) hSF.2.2.2 hK hw.2.1 (hw.D) hS hAll hneg rfl (by omega) (by omega) (by omega) hd fun q cA H1 hK1 hP1 hD1 hS1 => W_sz fun hz => ?_
      obtain rfl := tys_name (t := 4) hK hK1 rfl
      have hq : q = B.2 (g.2.length - 1) := new_q (xs := xs) (Ln := Ln) hc hlen hP1 hD1 hz (by omega)
      subst hq
      have h3 := h H1 locs ls hl (hw.push hc (x := .inl (4, z.toNatClampNeg, .inr (.inr (.inr (.inr fun _ => none))))) hP1) hS1 (fun e9 => ⟨by show s.heap.size + (u.1 + 1) = B.1 + ((g.2 ++ [_]).length - 1); rw [List.length_append]; simp; omega, hc⟩) hb1 hb2 hz0
      have hu1 : ∀ a c : Nat, uc ge (a, c) g.1 = a ∧ us ge (a, c) g.1 = c := fun a c => by unfold uc us; rw [hge, hfz]; omega
      rw [List.map_cons, e1] at h3
      have h3 : W p l e R s m args below meth c H1 locs (uc ge (_, _) g.1) (us ge (_, _) g.1) QQ _ := h3
      rw [(hu1 _ _).1, (hu1 _ _).2] at h3
      exact h3
  | _ => first | exact False.elim h | exact absurd hg (by simp [grp])
/-- what the end of a method asks of its surroundings -/
abbrev HRet (k ge : Nat) (p : Program) (l : Launch) (e : Env) (R : Room) (s : State) (m : MethodId) (args : Array Value) (below : List Frame) (meth : Method) (c : Code) (D : va_G) (ca : Nat → ClassId) (B : AM) (b Ln : Nat) (xs : Nat → Int32) (QQ : State → Prop) (Q : Post) : Prop :=
  ∀ (v : Option Value) (pc : Nat) (ls : Array Slot) (g : Gp) (H : Heap) (locs : List Loc) (u : Nat × Nat), Q (.inl v) g → rOk (rk k) v → decode (mB k) pc = .ok (rI v, 1) → WD D ca B b Ln xs g H → va_S (AB B.1) s.heap H locs → Cg B g (s.heap.size + u.1) → u.1 ≤ bc k → u.2 ≤ bs k → Mk ge g.1 →
    W p l e R s m args below meth c H locs (uc ge u g.1) (us ge u g.1) QQ (F0 m pc ls (v.toList.map (tr B b)))
/-- the same of a method that gives a row back -/
abbrev HRet6 (k ge : Nat) (p : Program) (l : Launch) (e : Env) (R : Room) (s : State) (m : MethodId) (args : Array Value) (below : List Frame) (meth : Method) (c : Code) (D : va_G) (ca : Nat → ClassId) (B : AM) (b Ln : Nat) (xs : Nat → Int32) (QQ : State → Prop) (Q : Post) : Prop :=
  ∀ (x : Int32) (pc : Nat) (ls : Array Slot) (g : Gp) (H : Heap) (locs : List Loc) (u : Nat × Nat), rk k = 6 → (x = 0 ∨ x = 1) → 0 < g.1 → 59 ≤ g.2.length → clo 59 (g.2.take 59) → Q (.inl (some (.int x))) (g.1, g.2.take 59) → decode (mB k) pc = .ok (.ireturn, 1) → WD D ca B b Ln xs g H → va_S (AB B.1) s.heap H locs → u.1 ≤ bc k → u.2 ≤ bs k → Mk ge g.1 →
    W p l e R s m args below meth c H locs (uc ge u g.1) (us ge u g.1) QQ (F0 m pc ls [.int x])
theorem xs_ret {i : Instr} (hret : HRet k ge p l e R s m args below meth c D ca B b Ln xs QQ Q) (hret6 : HRet6 k ge p l e R s m args below meth c D ca B b Ln xs QQ Q) (hd : decode (mB k) pc = .ok (i, n)) (hn : isTS i = false → n = ilen i) (hg : grp i = 4) (h : st1 C k Q (XS k ge p l e R s m args below meth c D ca B b Ln xs QQ) pc i n a9 b9 c9 L st u g) : XS k ge p l e R s m args below meth c D ca B b Ln xs QQ pc L st u g := by
  cases i with
  | ireturn =>
    obtain rfl : n = 1 := hn rfl
    obtain ⟨x, r, he0, he1, h8⟩ := pI_ex h
    clear h
    subst he0
    subst he1
    intro H locs ls hl hw hS hE h1 h2 hz0
    rcases h8 with ⟨hr, h⟩ | ⟨r6, r01, r0, r59, rc, h⟩
    · exact hret (some (.int x)) pc ls g H locs u h hr hd hw hS hE h1 h2 hz0
    · exact hret6 x pc ls g H locs u r6 r01 r0 r59 rc h hd hw hS h1 h2 hz0
  | lreturn =>
    obtain rfl : n = 1 := hn rfl
    obtain ⟨x, r, he0, he1, hr, h8⟩ := pJ_ex h
    clear h
    subst he0
    subst he1
    have h := h8
    clear h8
    intro H locs ls hl hw hS hE h1 h2 hz0
    exact hret (some (.long x)) pc ls g H locs u h hr hd hw hS hE h1 h2 hz0
  | dreturn =>
    obtain rfl : n = 1 := hn rfl
    obtain ⟨x, r, he0, he1, hr, h8⟩ := pD_ex h
    clear h
    subst he0
    subst he1
    have h := h8
    clear h8
    intro H locs ls hl hw hS hE h1 h2 hz0
    exact hret (some (.double x)) pc ls g H locs u h hr hd hw hS hE h1 h2 hz0
  | areturn =>
    obtain rfl : n = 1 := hn rfl
    obtain ⟨v, r, he0, he1, hr, hv, h8⟩ := pV_ex h
    clear h
    subst he0
    subst he1
    have h := h8
    clear h8
    intro H locs ls hl hw hS hE h1 h2 hz0
    rcases hv with rfl | ⟨x, rfl⟩
    · exact hret (some .null) pc ls g H locs u h hr hd hw hS hE h1 h2 hz0
    · exact hret (some (.ref x)) pc ls g H locs u h hr hd hw hS hE h1 h2 hz0
  | return_ =>
    obtain rfl : n = 1 := hn rfl
    obtain ⟨rfl, hr, h⟩ := h
    intro H locs ls hl hw hS hE h1 h2 hz0
    exact hret none pc ls g H locs u h hr hd hw hS hE h1 h2 hz0
  | _ => first | exact False.elim h | exact absurd hg (by simp [grp])
end SND3
