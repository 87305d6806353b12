/-! ===== from the interpreter to the machine, 6: the calls, the contracts by depth (by program, wip/whole/gsn4.py) ===== -/
def exn (e : Nat) : String := ["java/lang/IllegalArgumentException", "java/lang/IndexOutOfBoundsException", "java/lang/IllegalStateException"].getD e ""
def stT : List (Nat × String) := [(71, "a side is out of range"), (92, "no such cell"), (98, "not the byte of a cell"), (137, "the text is no word that can be added"), (147, "no such word"), (160, "nothing is told by this number"), (169, "no such word or letter"), (177, "no such gate"), (185, "no such gate, or the band is shorter"), (190, "no such gate or byte"), (207, "so many choices cannot be asked for"), (222, "an index is not negative"), (250, "not a byte of a text"), (253, "the text is full"), (267, "no state is saved")]
def CW : List Cond := [.castable (exn 0) (exn 0), .castable (exn 1) (exn 1), .castable (exn 2) (exn 2), .declares ⟨"java/lang/RuntimeException", "<init>", "(Ljava/lang/String;)V"⟩, .declares ⟨"java/lang/Exception", "<init>", "(Ljava/lang/String;)V"⟩, .declares ⟨"java/lang/Throwable", "<init>", "(Ljava/lang/String;)V"⟩]
def EXF (B : Nat) (U : State) : Prop := vx_Zq Bundle.tN "UNASSIGNED_STACK" Bundle.steD (AB B) U U.heap ∧ vx_Zq Bundle.tN "SUPPRESSED_SENTINEL" Bundle.listD (AB B) U U.heap ∧
  (∀ w ∈ CW, va_Nw w U) ∧ (∀ q ∈ stT, ∃ sa, vk_R RX8 q.1 q.2 sa U) ∧ va_Nc (exn 0) (exn 1) U ∧ va_Nc (exn 2) (exn 0) U
def EN (D : va_G) (ca : Nat → ClassId) (B : AM) (b Ln : Nat) (xs : Nat → Int32) (g : Gp) (U : State) : Prop :=
  SF D ca U ∧ EXF B.1 U ∧ b < B.1 ∧ B.1 ≤ U.heap.size ∧ va_X b Ln xs U U.heap ∧ WD D ca B b Ln xs g U.heap ∧ Cg B g U.heap.size
theorem fln_c : ∀ q ∈ flnT, q.2.2.2.2 = 1 := by decide +kernel
theorem mln_c : ∀ q ∈ mlnT, q.2.2.2.2 = 1 ∨ q.2.2.2.2 = 3 ∨ q.2.2.2.2 = 5 := by decide +kernel
theorem NW_form : ∀ w ∈ NW, (∃ a i r n d h, w = .fieldLinkNest a i r n d h) ∨ (∃ a i x h, w = .methodLinkNest a i x h) := by
  intro w hw
  rcases List.mem_append.mp hw with h | h
  · obtain ⟨q, hq, rfl⟩ := List.mem_map.mp h
    have hc := fln_c q hq
    obtain ⟨o, i, a, b, c⟩ := q
    obtain rfl : c = 1 := hc
    exact Or.inl ⟨_, _, _, _, _, _, rfl⟩
  · obtain ⟨q, hq, rfl⟩ := List.mem_map.mp h
    have hc := mln_c q hq
    obtain ⟨o, i, a, b, c⟩ := q
    rcases hc with hc | hc | hc
    · obtain rfl : c = 1 := hc
      exact Or.inr ⟨_, _, _, _, rfl⟩
    · obtain rfl : c = 3 := hc
      exact Or.inr ⟨_, _, _, _, rfl⟩
    · obtain rfl : c = 5 := hc
      exact Or.inr ⟨_, _, _, _, rfl⟩
theorem SF.warm {D : va_G} {ca : Nat → ClassId} {s U : State} (hW : s.WarmedH U.vm) (h : SF D ca s) : SF D ca U := by
  refine ⟨va_K.moved hW.alike h.1, fun w hw => ?_, h.2.2.1.moved hW.alike, h.2.2.2.moved hW.alike⟩
  have h1 := h.2.1 w hw
  rcases NW_form w hw with ⟨a, i, r, n, d, hh, rfl⟩ | ⟨a, i, x, hh, rfl⟩
  · exact va_Nw.warmF hW h1
  · exact va_Nw.warmM hW h1
theorem EXF.warm {B : Nat} {s U : State} (hW : s.WarmedH U.vm) (hH : ∀ q : Nat, q < s.heap.size → ¬ AB B q → U.heap[q]? = s.heap[q]?) (h : EXF B s) : EXF B U := by
  obtain ⟨h1, h2, h3, h4, h5, h6⟩ := h
  refine ⟨(vx_Zq.moved hW.alike h1).kept hH, (vx_Zq.moved hW.alike h2).kept hH, fun w hw => ?_, fun q hq => ?_, h5.moved hW.alike, h6.moved hW.alike⟩
  · have h9 := h3 w hw
    simp only [CW, List.mem_cons, List.not_mem_nil, or_false] at hw
    rcases hw with rfl | rfl | rfl | rfl | rfl | rfl <;> first | exact va_Nw.warmC hW h9 | exact va_Nw.warmD hW h9
  · obtain ⟨sa, hs⟩ := h4 q hq
    exact ⟨sa, vk_R.warm hW hs⟩
/-- what holds at a call's entry: from what the caller's frame knows -/
theorem EN.of {D : va_G} {ca : Nat → ClassId} {B : AM} {b Ln : Nat} {xs : Nat → Int32} {g : Gp} {s U : State} {locs : List Loc} (hSF : SF D ca s) (hEX : EXF B.1 s) (hbB : b < B.1) (hBs : B.1 ≤ s.heap.size) (hX : va_X b Ln xs s s.heap) (hW : s.WarmedH U.vm) (hS : va_S (AB B.1) s.heap U.heap locs) (hw : WD D ca B b Ln xs g U.heap) (hE : Cg B g U.heap.size) : EN D ca B b Ln xs g U :=
  ⟨hSF.warm hW, hEX.warm hW hS.2.1, hbB, Nat.le_trans hBs hS.1, (va_X.moved hW.alike hX).kept (hS.2.1 b (Nat.lt_of_lt_of_le hbB hBs) (Nat.not_le.mpr hbB)), hw, hE⟩
theorem EN.blind {D : va_G} {ca : Nat → ClassId} {B : AM} {b Ln : Nat} {xs : Nat → Int32} {g : Gp} {U : State} {fr : JFrame} {mk : MethodId} {a : Array Value} (h : EN D ca B b Ln xs g U) : EN D ca B b Ln xs g (U.calling fr mk a) := by
  obtain ⟨h1, h2, h3, h4, h5, h6, h7⟩ := h
  have hW : U.WarmedH (U.calling fr mk a).vm := State.WarmedH.refl U
  exact ⟨h1.warm hW, h2.warm hW fun _ _ _ => rfl, h3, h4, va_X.moved (Vm.Alike.refl U.vm) h5, h6, h7⟩
def PcM (D : va_G) (ca : Nat → ClassId) (B : AM) (b Ln : Nat) (xs : Nat → Int32) (vs : List Value) (g : Gp) : Array Value → State → Prop := fun v U => v = (vs.map (tr B b)).toArray ∧ EN D ca B b Ln xs g U
def QcM (D : va_G) (ca : Nat → ClassId) (B : AM) (b Ln : Nat) (xs : Nat → Int32) (Q : Post) : Array Value → State → Outcome → State → Prop := fun _ st o t => (∃ (v : Option Value) (g : Gp), o = .returned (v.map (tr B b)) ∧ Q (.inl v) g ∧ WD D ca B b Ln xs g t.heap) ∧ va_F (AB B.1) st t
def XcM (D : va_G) (ca : Nat → ClassId) (B : AM) (b Ln : Nat) (xs : Nat → Int32) (Q : Post) : String → State → State → Prop := fun E st t => (∃ (e : Nat) (g : Gp), E = exn e ∧ Q (.inr e) g ∧ WD D ca B b Ln xs g t.heap) ∧ va_F (AB B.1) st t
def wsM (y : Nat) : List Cond := kwd y :: GW
def rmM (y d w : Nat) : Room := { frames := d + 8, cells := bc y + w, slots := bs y + 6 * w, locals := d * 64 + 200 }
abbrev HCal (l : Launch) (C : CT) (d : Nat) : Prop := ∀ (y : Nat), y < 202 → ∀ (vs : List Value) (g : Gp) (w : Nat) (Q : Post), (w = 0 ∨ w < g.1) → (∀ o g', Q o g' → g.1 ≤ g'.1 + w ∧ g'.1 ≤ g.1) → C y vs g Q → ∀ (D : va_G) (ca : Nat → ClassId) (B : AM) (b Ln : Nat) (xs : Nat → Int32),
  vx_Met l (mN y) (wsM y) (rmM y d w) (PcM D ca B b Ln xs vs g) (QcM D ca B b Ln xs Q) (XcM D ca B b Ln xs Q) (bc y + w) (bs y + 6 * w) (AB B.1)
theorem kod_all : ∀ y ∈ List.range 202, y ∈ kodT := by decide +kernel
theorem mxl_all : ∀ y ∈ List.range 202, mxl y ≤ 40 := by decide +kernel
theorem GW_good : ∀ w ∈ GW, goodWord w = true := fun w hw => (List.mem_filter.mp hw).2
theorem GW_in {y : Nat} (hy : y < 202) : GoodIn GW (wsM y) := by
  intro w hw
  have h1 : w ∈ GW := (List.mem_cons.mp hw).elim (fun e => e ▸ kodT_in y (kod_all y (List.mem_range.mpr hy))) id
  exact ⟨h1, good_of_word (GW_good w h1)⟩
theorem wsM_code {y : Nat} (h : hhs y = []) : wsM y = Cond.code (mN y) (mB y) (mxl y) (mR y) :: GW := by unfold wsM kwd; rw [if_pos h]
theorem wsM_with {y : Nat} (h : hhs y ≠ []) : wsM y = Cond.codeWith (mN y) (mB y) (mxl y) (mR y) (hhs y) :: GW := by unfold wsM kwd; rw [if_neg h]
theorem mok_at {y : Nat} (hy : y < 203) : plainName (mN y).cls = true ∧ (mN y).cls ≠ "java/lang/invoke/MethodHandle" ∧ (mN y).cls ≠ "java/lang/invoke/VarHandle" ∧ (mN y).cls = Rn (own y) := by
  have h := mok_all y (List.mem_range.mpr hy)
  simp only [mokB, Bool.and_eq_true, decide_eq_true_eq] at h
  exact ⟨h.1.1.1.1, h.1.1.1.2, h.1.1.2, h.1.2⟩
theorem own_lt : ∀ y ∈ List.range 203, own y < 14 := by decide +kernel
theorem sel_own : ∀ y ∈ selT, own y < 9 := by decide +kernel
theorem mR_none : ∀ y ∈ List.range 202, rk y = 0 → mR y = none := by decide +kernel
theorem tg_sub {m w : Nat} (h : w = 0 ∨ w < m) : tgm (m - w) = tgm m - w ∧ w ≤ tgm m := by
  unfold tgm
  rcases h with rfl | h
  · simp
  · rw [if_neg (by omega), if_neg (by omega)]
    omega
section SND4
variable {k ge w : Nat} {p : Program} {l : Launch} {e : Env} {R : Room} {s : State} {m : MethodId} {args : Array Value} {below : List Frame} {meth : Method} {c : Code} {D : va_G} {ca : Nat → ClassId} {B : AM} {b Ln : Nat} {xs : Nat → Int32} {d : Nat} {QQ : State → Prop}
variable {C : CT} {Q : Post} {pc n a9 b9 c9 : Nat} {L : Lc} {st : List Value} {u : Nat × Nat} {g : Gp}

/-- a call that has run: by the callee's end -/
theorem my_call {Qp : Post} {locs : List Loc} {H : Heap} {ls : Array Slot} {st0 rest : List Value} {pc mc mz cells slots : Nat} {QS : State → Prop} {av : Array Value}
    (hr : vx_Run p l e R s m args below meth c H locs cells slots mc mz (F0 m pc ls st0) rest (QcM D ca B b Ln xs Qp av) (XcM D ca B b Ln xs Qp) (AB B.1)) (hS : va_S (AB B.1) s.heap H locs)
    (kx : ∀ (e9 : Nat) (g2 : Gp) (H1 : Heap) (locs1 : List Loc) (q : Addr) (ce : Cell), Qp (.inr e9) g2 → WD D ca B b Ln xs g2 H1 → va_S (AB B.1) s.heap H1 locs1 → H1[q]? = some ce → ce.vm = .none → s.vm.findClass (exn e9) = some ce.cls → vx_W p l e R s m args below meth c H1 locs1 (cells + mc) (slots + mz) QS (F0 m pc ls rest) q)
    (kk : ∀ (v : Option Value) (g2 : Gp) (H1 : Heap) (locs1 : List Loc), Qp (.inl v) g2 → WD D ca B b Ln xs g2 H1 → va_S (AB B.1) s.heap H1 locs1 → W p l e R s m args below meth c H1 locs1 (cells + mc) (slots + mz) QS (F0 m (pc + 3) ls ((v.map (tr B b)).toList ++ rest))) :
    W p l e R s m args below meth c H locs cells slots QS (F0 m pc ls st0) := by
  intro T hT X
  rcases hr T hT X with ⟨v, st₀, t, T', L, h0, X', hL, e1, e2, ⟨⟨v', g2, hv, hq, hw⟩, hF⟩, st⟩ | ⟨q, st₀, t, T', L, E, ce, h0, X', hL, e1, e2, ⟨⟨e9, g2, hE, hq, hw⟩, hF⟩, hce, hcv, hcl, st⟩
  · obtain rfl : v = v'.map (tr B b) := by injection hv
    obtain ⟨k1, k2, k3⟩ := vx_keep h0 e1 hS (fun _ _ h => h) (fun _ h => h) hL hF
    obtain ⟨t2, a1, b1⟩ := kk v' g2 T'.heap (locs ++ L) hq (by rw [e1]; exact hw) k3 T' rfl X'
    exact ⟨t2, st t2 a1, b1⟩
  · subst hE
    obtain ⟨k1, k2, k3⟩ := vx_keep h0 e1 hS (fun _ _ h => h) (fun _ h => h) hL hF
    obtain ⟨t2, a1, b1⟩ := kx e9 g2 T'.heap (locs ++ L) q ce hq (by rw [e1]; exact hw) k3 (by rw [e1]; exact hce) hcv hcl T' rfl X'
    exact ⟨t2, st.trans a1, b1⟩
abbrev HExc (k ge : Nat) (p : Program) (l : Launch) (e : Env) (R : Room) (s : State) (m : MethodId) (args : Array Value) (below : List Frame) (meth : Method) (c : Code) (D : va_G) (ca : Nat → ClassId) (B : AM) (b Ln : Nat) (xs : Nat → Int32) (QQ : State → Prop) (Q : Post) : Prop :=
  ∀ (pc : Nat) (i : Instr) (n a9 b9 c9 : Nat) (ks : List Nat), cd k pc = some (i, n, a9, b9, c9, ks) → grp i = 3 → ∀ (e9 : Nat) (r9 : Int32), hnd k e9 = some r9 →
    ∀ (g : Gp) (H : Heap) (locs : List Loc) (L : Lc) (ls : Array Slot) (rest : List Value) (q : Addr) (ce : Cell) (u : Nat × Nat), Q (.inl (some (.int r9))) g → LH B b ls (mxl k) L → WD D ca B b Ln xs g H → va_S (AB B.1) s.heap H locs → Cg B g (s.heap.size + u.1) → u.1 ≤ bc k → u.2 ≤ bs k → Mk ge g.1 →
      H[q]? = some ce → ce.vm = .none → s.vm.findClass (exn e9) = some ce.cls → vx_W p l e R s m args below meth c H locs (uc ge u g.1) (us ge u g.1) QQ (F0 m pc ls rest) q
theorem cat_sum (r : List Value) : (r.map fun v => v.category).sum ≤ 2 * r.length := by
  induction r with
  | nil => simp
  | cons v t ih =>
    have : v.category ≤ 2 := by cases v <;> simp [Value.category]
    simp only [List.map_cons, List.sum_cons, List.length_cons]
    omega
theorem cat_tr (r : List Value) (B : AM) (b : Nat) : (((r.map (tr B b)).map fun v => v.category).sum) = (r.map fun v => v.category).sum := by
  rw [List.map_map]
  congr 1
  exact List.map_congr_left fun v _ => tr_cat B b v
set_option maxHeartbeats 8000000 in
theorem xs_call {i : Instr} {ks : List Nat} (F : FrC k w p R s m args meth c D ca B b Ln xs (d + 1)) (hEX : EXF B.1 s) (hC : HCal l C d) (hNe : ∀ y vs g R, C y vs g R → ∃ o g', R o g') (hcQ : ∀ o g', Q o g' → tgm ge ≤ tgm g'.1 + w) (hex : HExc k ge p l e R s m args below meth c D ca B b Ln xs QQ Q) (hcd : cd k pc = some (i, n, a9, b9, c9, ks)) (hok : okB k (pc, i, n, a9, b9, c9, ks) = true) (hd : decode (mB k) pc = .ok (i, n)) (hn : isTS i = false → n = ilen i) (hg : grp i = 3) (h : st1 C k Q (fun pc L st u g => tgm ge ≤ tgm g.1 + w ∧ XS k ge p l e R s m args below meth c D ca B b Ln xs QQ pc L st u g) pc i n a9 b9 c9 L st u g) : XS k ge p l e R s m args below meth c D ca B b Ln xs QQ pc L st u g := by
  obtain ⟨hx, hb, hml, hown, hts, hSF, hbB, hBs, hX, hR1, hR2, hR3, hR4, hnm⟩ := F
  have hK := hSF.1
  obtain ⟨x, h3⟩ : ∃ x, i = .invokevirtual x ∨ i = .invokestatic x ∨ i = .invokespecial x := by
    cases i <;> first | exact ⟨_, Or.inl rfl⟩ | exact ⟨_, Or.inr (Or.inl rfl)⟩ | exact ⟨_, Or.inr (Or.inr rfl)⟩ | exact absurd hg (by simp [grp])
  have hn3 : n = 3 := by
    rcases h3 with rfl | rfl | rfl <;> exact hn rfl
  subst hn3
  have hh : if c9 = 6 then pR st fun _ r => r.length ≤ 4 ∧ tgm ge ≤ tgm g.1 + w ∧ XS k ge p l e R s m args below meth c D ca B b Ln xs QQ (pc + 3) L r u g
      else if c9 = 8 then pI st fun y r => pI r fun x r => r.length ≤ 4 ∧ tgm ge ≤ tgm g.1 + w ∧ XS k ge p l e R s m args below meth c D ca B b Ln xs QQ (pc + 3) L (.int (if x < y then y else x) :: r) u g
      else if c9 = 9 then pI st fun y r => pI r fun x r => r.length ≤ 4 ∧ tgm ge ≤ tgm g.1 + w ∧ XS k ge p l e R s m args below meth c D ca B b Ln xs QQ (pc + 3) L (.int (if y < x then y else x) :: r) u g else
      b9 ≤ st.length ∧ (st.drop b9).length ≤ 4 ∧ u.1 + bc a9 ≤ bc k ∧ u.2 + bs a9 ≤ bs k ∧ rcK c9 a9 g (st.take b9).reverse ∧
        ∃ w9 : Nat, (w9 = 0 ∨ w9 < g.1) ∧ C a9 (st.take b9).reverse g fun o g' => (g.1 ≤ g'.1 + w9 ∧ g'.1 ≤ g.1) ∧ (g'.1 = 0 → g.1 = 0 ∧ g'.2.length = g.2.length + bc a9) ∧ match o with
          | .inl none => tgm ge ≤ tgm (g.1 - w9) + w ∧ XS k ge p l e R s m args below meth c D ca B b Ln xs QQ (pc + 3) L (st.drop b9) (u.1 + bc a9, u.2 + bs a9) (g.1 - w9, g'.2)
          | .inl (some v) => tgm ge ≤ tgm (g.1 - w9) + w ∧ XS k ge p l e R s m args below meth c D ca B b Ln xs QQ (pc + 3) L (v :: st.drop b9) (u.1 + bc a9, u.2 + bs a9) (g.1 - w9, g'.2)
          | .inr e => match hnd k e with
            | some r => Q (.inl (some (.int r))) (g.1 - w9, g'.2)
            | none => False := by
    rcases h3 with rfl | rfl | rfl <;> exact h
  clear h
  have h := hh
  clear hh
  intro H locs ls hl hw hS hE h1 h2 hz0
  by_cases c6 : c9 = 6
  · rw [if_pos c6] at h
    subst c6
    obtain ⟨o, r, he0, hr4, h8⟩ := pR_ex h
    clear h
    subst he0
    have h := h8
    clear h8
    have hi : i = .invokespecial x ∧ mlgT.contains (own k, x, a9, b9, 6) = true := by
      rcases h3 with rfl | rfl | rfl
      · simp [okB] at hok
      · simp [okB] at hok
      · simp only [okB, Bool.and_eq_true] at hok
        exact ⟨rfl, hok.2⟩
    obtain ⟨rfl, hm⟩ := hi
    have hm := List.contains_iff_mem.mp hm
    have hlk : Cond.methodLink (Rn (own k)) x Lib.objectInit ∈ GW := mlgT_in _ hm
    refine W.objInit (g := F0 m pc ls (.ref (ad B b o) :: r.map (tr B b))) hx hb hown (hts _ hlk) (hts _ (sp_at (j := 0) rfl)) (hts _ (sp_at (j := 1) rfl)) rfl (by rw [hml]; exact hl.1) rfl hd (by omega) ?_ (h.2 H locs ls hl hw hS hE h1 h2 hz0)
    show 2 * 0 + ((r.map (tr B b)).map fun v => v.category).sum + 12 ≤ R.locals
    rw [cat_tr]
    have := cat_sum r
    omega
  rw [if_neg c6] at h
  by_cases c8 : c9 = 8
  · rw [if_pos c8] at h
    subst c8
    obtain ⟨y, r, he0, h8⟩ := pI_ex h
    clear h
    subst he0
    have h := h8
    clear h8
    obtain ⟨z, r, he0, hr4, h8⟩ := pI_ex h
    clear h
    subst he0
    have h := h8
    clear h8
    have hi : i = .invokestatic x ∧ mlgT.contains (own k, x, a9, b9, 8) = true := by
      rcases h3 with rfl | rfl | rfl
      · simp [okB] at hok
      · simp only [okB, Bool.and_eq_true] at hok
        exact ⟨rfl, hok.2⟩
      · simp [okB] at hok
    obtain ⟨rfl, hm⟩ := hi
    have hm := List.contains_iff_mem.mp hm
    have hlk : Cond.methodLink (Rn (own k)) x Lib.Math.max.name ∈ GW := mlgT_in _ hm
    refine va_mmax hx hb (by rw [hml]; exact hl.1.symm) hown (hts _ hlk) (hts _ (sp_at (j := 2) rfl)) (hts _ (sp_at (j := 4) rfl)) (hts _ (sp_at (j := 5) rfl)) (by omega) ?_ (by have := h.1; unfold uc; have := hz0.1; omega) (by have := h.1; unfold us; have := hz0.1; omega) hd (h.2 H locs ls hl hw hS hE h1 h2 hz0)
    show ((r.map (tr B b)).map fun v => v.category).sum + 13 ≤ R.locals
    rw [cat_tr]
    have := cat_sum r
    omega
  rw [if_neg c8] at h
  by_cases c10 : c9 = 9
  · rw [if_pos c10] at h
    subst c10
    obtain ⟨y, r, he0, h8⟩ := pI_ex h
    clear h
    subst he0
    have h := h8
    clear h8
    obtain ⟨z, r, he0, hr4, h8⟩ := pI_ex h
    clear h
    subst he0
    have h := h8
    clear h8
    have hi : i = .invokestatic x ∧ mlgT.contains (own k, x, a9, b9, 9) = true := by
      rcases h3 with rfl | rfl | rfl
      · simp [okB] at hok
      · simp only [okB, Bool.and_eq_true] at hok
        exact ⟨rfl, hok.2⟩
      · simp [okB] at hok
    obtain ⟨rfl, hm⟩ := hi
    have hm := List.contains_iff_mem.mp hm
    have hlk : Cond.methodLink (Rn (own k)) x Lib.Math.min.name ∈ GW := mlgT_in _ hm
    refine va_mmin hx hb (by rw [hml]; exact hl.1.symm) hown (hts _ hlk) (hts _ (sp_at (j := 3) rfl)) (hts _ (sp_at (j := 4) rfl)) (hts _ (sp_at (j := 6) rfl)) (by omega) ?_ (by have := h.1; unfold uc; have := hz0.1; omega) (by have := h.1; unfold us; have := hz0.1; omega) hd (h.2 H locs ls hl hw hS hE h1 h2 hz0)
    show ((r.map (tr B b)).map fun v => v.category).sum + 13 ≤ R.locals
    rw [cat_tr]
    have := cat_sum r
    omega
  rw [if_neg c10] at h
  obtain ⟨hbl, hr4, hb1, hb2, hrc, w9, hw9, hcal⟩ := h
  have htw : tgm (g.1 - w9) = tgm g.1 - w9 ∧ w9 ≤ tgm g.1 := tg_sub hw9
  have hcj : tgm ge ≤ tgm (g.1 - w9) + w := by
    obtain ⟨o, g', -, -, h8⟩ := hNe _ _ _ _ hcal
    cases o with
    | inl v => cases v with
      | none => exact h8.1
      | some v => exact h8.1
    | inr e =>
      dsimp only at h8
      split at h8
      · exact hcQ _ _ h8
      · exact h8.elim
  have hmk9 : Mk ge (g.1 - w9) := ⟨by rw [htw.1]; have := hz0.1; omega, fun e9 => hz0.2 (by omega)⟩
  have huc : ∀ a b : Nat, uc ge (u.1 + a, u.2 + b) (g.1 - w9) = uc ge u g.1 + (a + w9) ∧ us ge (u.1 + a, u.2 + b) (g.1 - w9) = us ge u g.1 + (b + 6 * w9) := by
    intro a b
    have := hz0.1
    unfold uc us
    rw [htw.1]
    omega
  refine W_sz fun hz => ?_
  have hEH : Cg B g H.size := fun e9 => by
    have hlow := hw.low (Nat.le_trans hBs hS.1) (hE e9).2
    have h8 := (hE e9).1
    have hu0 : uc ge u g.1 = u.1 := by unfold uc; rw [hz0.2 e9, e9]; omega
    rw [hu0] at hz
    exact ⟨by omega, (hE e9).2⟩
  have hpos : 0 < g.2.length := by obtain ⟨⟨tl, ht⟩, -⟩ := hw; rw [ht]; simp
  have hMet0 := fun h9 => hC a9 h9 (st.take b9).reverse g w9 _ hw9 (fun o g' h8 => h8.1) hcal D ca B b Ln xs
  have hent : ∀ U : State, U.heap = H → s.WarmedH U.vm → EN D ca B b Ln xs g U := fun U hU hW => EN.of hSF hEX hbB hBs hX hW (by rw [hU]; exact hS) (by rw [hU]; exact hw) (by rw [hU]; exact hEH)
  have hbld : FrameBlind (PcM D ca B b Ln xs (st.take b9).reverse g) := fun a U fr mk hq => ⟨hq.1, hq.2.blind⟩
  have hst : st.map (tr B b) = ((st.take b9).reverse.map (tr B b)).reverse ++ (st.drop b9).map (tr B b) := by
    rw [List.map_reverse, List.reverse_reverse, ← List.map_append, List.take_append_drop]
  have hW8 : 2 * (F0 m pc ls (st.map (tr B b))).monitorRoom + (((st.drop b9).map (tr B b)).map fun v => v.category).sum ≤ 8 := by
    show 2 * 0 + _ ≤ 8
    rw [cat_tr]
    have := cat_sum (st.drop b9)
    omega
  have hfin : ∀ av : Array Value, vx_Run p l e R s m args below meth c H locs (uc ge u g.1) (us ge u g.1) (bc a9 + w9) (bs a9 + 6 * w9) (F0 m pc ls (st.map (tr B b))) ((st.drop b9).map (tr B b)) (QcM D ca B b Ln xs (fun o g' => (g.1 ≤ g'.1 + w9 ∧ g'.1 ≤ g.1) ∧ (g'.1 = 0 → g.1 = 0 ∧ g'.2.length = g.2.length + bc a9) ∧ match o with
          | .inl none => tgm ge ≤ tgm (g.1 - w9) + w ∧ XS k ge p l e R s m args below meth c D ca B b Ln xs QQ (pc + 3) L (st.drop b9) (u.1 + bc a9, u.2 + bs a9) (g.1 - w9, g'.2)
          | .inl (some v) => tgm ge ≤ tgm (g.1 - w9) + w ∧ XS k ge p l e R s m args below meth c D ca B b Ln xs QQ (pc + 3) L (v :: st.drop b9) (u.1 + bc a9, u.2 + bs a9) (g.1 - w9, g'.2)
          | .inr e => match hnd k e with
            | some r => Q (.inl (some (.int r))) (g.1 - w9, g'.2)
            | none => False) av) (XcM D ca B b Ln xs (fun o g' => (g.1 ≤ g'.1 + w9 ∧ g'.1 ≤ g.1) ∧ (g'.1 = 0 → g.1 = 0 ∧ g'.2.length = g.2.length + bc a9) ∧ match o with
          | .inl none => tgm ge ≤ tgm (g.1 - w9) + w ∧ XS k ge p l e R s m args below meth c D ca B b Ln xs QQ (pc + 3) L (st.drop b9) (u.1 + bc a9, u.2 + bs a9) (g.1 - w9, g'.2)
          | .inl (some v) => tgm ge ≤ tgm (g.1 - w9) + w ∧ XS k ge p l e R s m args below meth c D ca B b Ln xs QQ (pc + 3) L (v :: st.drop b9) (u.1 + bc a9, u.2 + bs a9) (g.1 - w9, g'.2)
          | .inr e => match hnd k e with
            | some r => Q (.inl (some (.int r))) (g.1 - w9, g'.2)
            | none => False)) (AB B.1) → W p l e R s m args below meth c H locs (uc ge u g.1) (us ge u g.1) QQ (F0 m pc ls (st.map (tr B b))) := by
    intro av hr
    have hCg : ∀ g2 : Gp, ((g.1 ≤ g2.1 + w9 ∧ g2.1 ≤ g.1) ∧ (g2.1 = 0 → g.1 = 0 ∧ g2.2.length = g.2.length + bc a9)) → Cg B (g.1 - w9, g2.2) (s.heap.size + (u.1 + bc a9)) := by
      intro g2 hq e8
      have e8 : g.1 - w9 = 0 := e8
      have e7 : g.1 = 0 := by omega
      have e6 : g2.1 = 0 := by omega
      have h6 := (hq.2 e6).2
      have h5 := hE e7
      refine ⟨?_, h5.2⟩
      show s.heap.size + (u.1 + bc a9) = B.1 + (g2.2.length - 1)
      omega
    refine my_call hr hS (fun e9 g2 H1 locs1 q ce hq hw1 hS1 hce hcv hcl => ?_) (fun v g2 H1 locs1 hq hw1 hS1 => ?_)
    · obtain ⟨hq0, hq1, hq2⟩ := hq
      dsimp only at hq2
      split at hq2
      · rename_i r9 hr9
        have h9 := hex pc i 3 a9 b9 c9 ks hcd hg e9 r9 hr9 (g.1 - w9, g2.2) H1 locs1 L ls ((st.drop b9).map (tr B b)) q ce (u.1 + bc a9, u.2 + bs a9) hq2 hl hw1 hS1 (hCg g2 ⟨hq0, hq1⟩) hb1 hb2 hmk9 hce hcv hcl
        have h9 : vx_W p l e R s m args below meth c H1 locs1 (uc ge (u.1 + bc a9, u.2 + bs a9) (g.1 - w9)) (us ge (u.1 + bc a9, u.2 + bs a9) (g.1 - w9)) QQ (F0 m pc ls ((st.drop b9).map (tr B b))) q := h9
        rw [(huc _ _).1, (huc _ _).2] at h9
        exact h9
      · exact hq2.elim
    · obtain ⟨hq0, hq1, hq2⟩ := hq
      have hgo : ∀ st', XS k ge p l e R s m args below meth c D ca B b Ln xs QQ (pc + 3) L st' (u.1 + bc a9, u.2 + bs a9) (g.1 - w9, g2.2) → W p l e R s m args below meth c H1 locs1 (uc ge u g.1 + (bc a9 + w9)) (us ge u g.1 + (bs a9 + 6 * w9)) QQ (F0 m (pc + 3) ls (st'.map (tr B b))) := by
        intro st' h8
        have h9 := h8 H1 locs1 ls hl hw1 hS1 (hCg g2 ⟨hq0, hq1⟩) hb1 hb2 hmk9
        have h9 : W p l e R s m args below meth c H1 locs1 (uc ge (u.1 + bc a9, u.2 + bs a9) (g.1 - w9)) (us ge (u.1 + bc a9, u.2 + bs a9) (g.1 - w9)) QQ (F0 m (pc + 3) ls (st'.map (tr B b))) := h9
        rw [(huc _ _).1, (huc _ _).2] at h9
        exact h9
      cases v with
      | none => exact hgo _ hq2.2
      | some v => exact hgo _ hq2.2
  clear hcal hex hC
  have hword : (c9 ≠ 1 → c9 ≠ 3 → c9 ≠ 5 → (own k, x, a9, b9, c9) ∈ mlgT) ∧ (c9 = 1 ∨ c9 = 3 ∨ c9 = 5 → (own k, x, a9, b9, c9) ∈ mlnT) ∧ ((c9 = 0 ∨ c9 = 1) ∧ i = .invokevirtual x ∨ (c9 = 2 ∨ c9 = 3 ∨ c9 = 7) ∧ i = .invokestatic x ∨ (c9 = 4 ∨ c9 = 5) ∧ i = .invokespecial x) := by
    rcases h3 with rfl | rfl | rfl
    · simp only [okB, Bool.and_eq_true] at hok
      replace hok := hok.2
      split at hok
      · rename_i e1
        obtain rfl : c9 = 0 := by simpa using e1
        exact ⟨fun _ _ _ => List.contains_iff_mem.mp hok, by omega, Or.inl ⟨Or.inl rfl, rfl⟩⟩
      · simp only [Bool.and_eq_true, beq_iff_eq] at hok
        obtain ⟨rfl, hok⟩ := hok
        exact ⟨by omega, fun _ => List.contains_iff_mem.mp hok, Or.inl ⟨Or.inr rfl, rfl⟩⟩
    · simp only [okB, Bool.and_eq_true] at hok
      replace hok := hok.2
      split at hok
      · rename_i e1
        obtain rfl : c9 = 2 := by simpa using e1
        exact ⟨fun _ _ _ => List.contains_iff_mem.mp hok, by omega, Or.inr (Or.inl ⟨Or.inl rfl, rfl⟩)⟩
      · split at hok
        · rename_i e1
          exact absurd (by simpa using e1) c8
        · split at hok
          · rename_i e1
            exact absurd (by simpa using e1) c10
          · split at hok
            · rename_i e1
              obtain rfl : c9 = 7 := by simpa using e1
              exact ⟨fun _ _ _ => List.contains_iff_mem.mp hok, by omega, Or.inr (Or.inl ⟨Or.inr (Or.inr rfl), rfl⟩)⟩
            · simp only [Bool.and_eq_true, beq_iff_eq] at hok
              obtain ⟨rfl, hok⟩ := hok
              exact ⟨by omega, fun _ => List.contains_iff_mem.mp hok, Or.inr (Or.inl ⟨Or.inr (Or.inl rfl), rfl⟩)⟩
    · simp only [okB, Bool.and_eq_true] at hok
      replace hok := hok.2
      split at hok
      · rename_i e1
        exact absurd (by simpa using e1) c6
      · split at hok
        · rename_i e1
          obtain rfl : c9 = 4 := by simpa using e1
          exact ⟨fun _ _ _ => List.contains_iff_mem.mp hok, by omega, Or.inr (Or.inr ⟨Or.inl rfl, rfl⟩)⟩
        · simp only [Bool.and_eq_true, beq_iff_eq] at hok
          obtain ⟨rfl, hok⟩ := hok
          exact ⟨by omega, fun _ => List.contains_iff_mem.mp hok, Or.inr (Or.inr ⟨Or.inr rfl, rfl⟩)⟩
  clear hok h3
  obtain ⟨hg1, hn1, hkind⟩ := hword
  have hcB : calB (own k, x, a9, b9, c9) = true := by
    by_cases e1 : c9 = 1 ∨ c9 = 3 ∨ c9 = 5
    · exact caln_all _ (hn1 e1)
    · exact calg_all _ (hg1 (fun e => e1 (Or.inl e)) (fun e => e1 (Or.inr (Or.inl e))) (fun e => e1 (Or.inr (Or.inr e))))
  simp only [calB, beq_eq_false_iff_ne.mpr c6, beq_eq_false_iff_ne.mpr c8, beq_eq_false_iff_ne.mpr c10, Bool.false_or, Bool.and_eq_true, decide_eq_true_eq, beq_iff_eq] at hcB
  obtain ⟨⟨⟨⟨hlt, hnar⟩, hpar⟩, hhh⟩, hini⟩ := hcB
  have hMet := hMet0 hlt
  clear hMet0
  have hG := GW_in hlt
  have hmx := mxl_all a9 (List.mem_range.mpr hlt)
  have hmk := mok_at (Nat.lt_succ_of_lt hlt)
  have hzi : (Cond.initialized (mN a9).cls).before args s = true := by rw [hmk.2.2.2]; exact hts _ (iniT_in (own a9) (ini_all _ (List.mem_range.mpr (own_lt a9 (List.mem_range.mpr (Nat.lt_succ_of_lt hlt))))))
  have hR : (rmM a9 d w9).frames + 1 ≤ R.frames ∧ 8 + (mxl a9 + 11) + (rmM a9 d w9).locals ≤ R.locals := by
    constructor
    · show d + 8 + 1 ≤ _; omega
    · show 8 + (mxl a9 + 11) + (d * 64 + 200) ≤ _; omega
  have hf : uc ge u g.1 + (bc a9 + w9) ≤ R.cells ∧ us ge u g.1 + (bs a9 + 6 * w9) ≤ R.slots := by
    have := hz0.1
    rw [htw.1] at hcj
    unfold uc us
    omega
  have hlen9 : (st.take b9).length = b9 := by rw [List.length_take]; omega
  have hCF : CallFix p m c (mB k) (mxl k) s args GW (Rn (own k)) := ⟨hx, hb, hml, hown, hts⟩
  rcases hkind with ⟨hc01, rfl⟩ | ⟨hc237, rfl⟩ | ⟨hc45, rfl⟩
  · have hrv : rcv (st.take b9).reverse fun o => hO g o fun ci _ => ci = own a9 := by rcases hc01 with rfl | rfl <;> exact hrc
    have hex2 : ∃ o vs', (st.take b9).reverse = .ref o :: vs' ∧ hO g o fun ci _ => ci = own a9 := by
      unfold rcv at hrv
      split at hrv
      · exact ⟨_, _, ‹_›, hrv⟩
      · exact hrv.elim
    obtain ⟨o, vs', hvs, hob⟩ := hex2
    obtain ⟨ci, fs, ho, rfl⟩ := hO_ex hob
    obtain ⟨q, rfl, hq, had⟩ := hw.at ho (by simp)
    rw [hvs] at hst hMet hbld
    have hst2 : st.map (tr B b) = (vs'.map (tr B b)).reverse ++ .ref (B.2 q) :: (st.drop b9).map (tr B b) := by
      rw [hst]
      simp [tr, had]
    have hp9 : b9 ≥ 1 ∧ parB a9 (b9 - 1) = true ∧ ismT.contains a9 = true ∧ selT.contains a9 = true := by
      rcases hc01 with rfl | rfl <;> simpa [and_assoc] using hpar
    have hsel : (Cond.selects (Rn (own a9)) (mN a9) (mN a9)).before args s = true := hts _ (selT_in a9 (List.contains_iff_mem.mp hp9.2.2.2))
    have hism : (Cond.instanceMethod (mN a9)).before args s = true := hts _ (ismT_in a9 (List.contains_iff_mem.mp hp9.2.2.1))
    have hpn : (parseMethodDescriptor (mN a9).desc).map (fun d => d.parameters.length) = some (b9 - 1) := of_decide_eq_true hp9.2.1
    have ho10 : own a9 < 9 := sel_own a9 (List.contains_iff_mem.mp hp9.2.2.2)
    have hlen : (vs'.map (tr B b)).length = b9 - 1 := by
      have := congrArg List.length hvs
      rw [List.length_reverse, hlen9, List.length_cons] at this
      rw [List.length_map]; omega
    have hcode : wsM a9 = Cond.code (mN a9) (mB a9) (mxl a9) (mR a9) :: GW := wsM_code (by rcases hc01 with rfl | rfl <;> simpa using hhh)
    have hPre : PreV s H (Rn (own a9)) (B.2 q) (PcM D ca B b Ln xs (.ref (q + 1) :: vs') g) (vs'.map (tr B b)) :=
      ⟨hbld, va_recv hK hw.2.1 (vwCl_at _ ho10) hq, fun U hU hW => ⟨by simp [tr, had], hent U hU hW⟩⟩
    rcases hc01 with rfl | rfl
    · have hlk : (Cond.methodLink (Rn (own k)) x (mN a9)).before args s = true := hts _ (mlgT_in _ (hg1 (by omega) (by omega) (by omega)))
      exact hfin _ (vx_runV hCF hMet ⟨callB_of (b9 - 1) hts hG hcode rfl rfl hzi hlk ⟨hmk.2.1, hmk.2.2.1, hpn⟩ hR, hism, hsel⟩ hPre rfl hlen hl.1 hst2 hW8 hd hf)
    · have hlk : va_Nw (.methodLinkNest (Rn (own k)) x (mN a9) "RuneBands") s := hSF.2.1 _ (List.mem_append_right _ (List.mem_map.mpr ⟨_, hn1 (by omega), rfl⟩))
      exact hfin _ (vx_runVN hCF hMet ⟨va_cnB (b9 - 1) hts hG hcode rfl rfl hlk hzi ⟨hmk.2.1, hmk.2.2.1, hpn⟩ hR, hism, hsel⟩ hPre rfl hlen hl.1 hst2 hW8 hd hf)
  · have hp9 : parB a9 b9 = true ∧ staT.contains a9 = true := by
      rcases hc237 with rfl | rfl | rfl <;> simpa using hpar
    have hsta : (Cond.static (mN a9)).before args s = true := hts _ (staT_in a9 (List.contains_iff_mem.mp hp9.2))
    have hpn : (parseMethodDescriptor (mN a9).desc).map (fun d => d.parameters.length) = some b9 := of_decide_eq_true hp9.1
    have hlen : ((st.take b9).reverse.map (tr B b)).length = b9 := by rw [List.length_map, List.length_reverse, hlen9]
    have hPre : PreS s H (PcM D ca B b Ln xs (st.take b9).reverse g) ((st.take b9).reverse.map (tr B b)) :=
      ⟨hbld, fun U hU hW => ⟨rfl, hent U hU hW⟩⟩
    rcases hc237 with rfl | rfl | rfl
    · have hcode : wsM a9 = Cond.code (mN a9) (mB a9) (mxl a9) (mR a9) :: GW := wsM_code (by simpa using hhh)
      have hlk : (Cond.methodLink (Rn (own k)) x (mN a9)).before args s = true := hts _ (mlgT_in _ (hg1 (by omega) (by omega) (by omega)))
      exact hfin _ (vx_runS hCF hMet ⟨callB_of b9 hts hG hcode rfl rfl hzi hlk ⟨hmk.2.1, hmk.2.2.1, hpn⟩ hR, hsta⟩ hPre rfl hlen hl.1 hst hW8 hd hf)
    · have hcode : wsM a9 = Cond.code (mN a9) (mB a9) (mxl a9) (mR a9) :: GW := wsM_code (by simpa using hhh)
      have hlk : va_Nw (.methodLinkNest (Rn (own k)) x (mN a9) "RuneBands") s := hSF.2.1 _ (List.mem_append_right _ (List.mem_map.mpr ⟨_, hn1 (by omega), rfl⟩))
      exact hfin _ (vx_runSN hCF hMet ⟨va_cnB b9 hts hG hcode rfl rfl hlk hzi ⟨hmk.2.1, hmk.2.2.1, hpn⟩ hR, hsta, trivial⟩ hPre rfl hlen hl.1 hst hW8 hd hf)
    · have hcode : wsM a9 = Cond.codeWith (mN a9) (mB a9) (mxl a9) (mR a9) (hhs a9) :: GW := wsM_with (by simp at hhh; intro e; exact absurd e (by simpa using hhh.1))
      have hT : GoodIn GW (va_wsS (Rn (own k)) x (mN a9) (wsM a9)) := by
        intro w hw9
        unfold va_wsS at hw9
        rcases List.mem_append.mp hw9 with h9 | h9
        · simp only [List.mem_cons, List.not_mem_nil, or_false] at h9
          have hin : w ∈ GW := by
            rcases h9 with rfl | rfl | rfl
            · exact mlgT_in _ (hg1 (by omega) (by omega) (by omega))
            · exact staT_in a9 (List.contains_iff_mem.mp hp9.2)
            · rw [hmk.2.2.2]; exact iniT_in (own a9) (ini_all _ (List.mem_range.mpr (own_lt a9 (List.mem_range.mpr (Nat.lt_succ_of_lt hlt)))))
          exact ⟨hin, good_of_word (GW_good w hin)⟩
        · exact hG w h9
      exact hfin _ (vx_runSX hCF hMet (vx_cwSW b9 hts hT hcode rfl rfl ⟨hmk.2.1, hmk.2.2.1, hpn⟩ hR) hPre rfl hlen hl.1 hst hW8 hd hf)
  · have hrv : rcv (st.take b9).reverse fun _ => True := by rcases hc45 with rfl | rfl <;> exact hrc
    have hex2 : ∃ o vs', (st.take b9).reverse = .ref o :: vs' := by
      unfold rcv at hrv
      split at hrv
      · exact ⟨_, _, ‹_›⟩
      · exact hrv.elim
    obtain ⟨o, vs', hvs⟩ := hex2
    rw [hvs] at hst hMet hbld
    have hst2 : st.map (tr B b) = (vs'.map (tr B b)).reverse ++ .ref (ad B b o) :: (st.drop b9).map (tr B b) := by
      rw [hst]
      simp [tr]
    have hp9 : b9 ≥ 1 ∧ parB a9 (b9 - 1) = true ∧ ismT.contains a9 = true := by
      rcases hc45 with rfl | rfl <;> simpa [and_assoc] using hpar
    have hi9 : (mN a9).name = "<init>" ∧ rk a9 = 0 := by
      rcases hc45 with rfl | rfl <;> simpa using hini
    have hism : (Cond.instanceMethod (mN a9)).before args s = true := hts _ (ismT_in a9 (List.contains_iff_mem.mp hp9.2.2))
    have hpn : (parseMethodDescriptor (mN a9).desc).map (fun d => d.parameters.length) = some (b9 - 1) := of_decide_eq_true hp9.2.1
    have hlen : (vs'.map (tr B b)).length = b9 - 1 := by
      have := congrArg List.length hvs
      rw [List.length_reverse, hlen9, List.length_cons] at this
      rw [List.length_map]; omega
    have hcode : wsM a9 = Cond.code (mN a9) (mB a9) (mxl a9) none :: GW := by
      rw [← mR_none a9 (List.mem_range.mpr hlt) hi9.2]
      exact wsM_code (by rcases hc45 with rfl | rfl <;> simpa using hhh)
    have hPre : PreS s H (PcM D ca B b Ln xs (.ref o :: vs') g) (.ref (ad B b o) :: vs'.map (tr B b)) :=
      ⟨hbld, fun U hU hW => ⟨rfl, hent U hU hW⟩⟩
    rcases hc45 with rfl | rfl
    · have hlk : (Cond.methodLink (Rn (own k)) x (mN a9)).before args s = true := hts _ (mlgT_in _ (hg1 (by omega) (by omega) (by omega)))
      exact hfin _ (vx_runI hCF hMet ⟨callB_of (b9 - 1) hts hG hcode rfl rfl hzi hlk ⟨hmk.2.1, hmk.2.2.1, hpn⟩ hR, hi9.1, hism⟩ hPre rfl hlen hl.1 hst2 hW8 hd hf)
    · have hlk : va_Nw (.methodLinkNest (Rn (own k)) x (mN a9) "RuneBands") s := hSF.2.1 _ (List.mem_append_right _ (List.mem_map.mpr ⟨_, hn1 (by omega), rfl⟩))
      exact hfin _ (vx_runIN hCF hMet ⟨va_cnB (b9 - 1) hts hG hcode rfl rfl hlk hzi ⟨hmk.2.1, hmk.2.2.1, hpn⟩ hR, hi9.1, hism⟩ hPre rfl hlen hl.1 hst2 hW8 hd hf)
end SND4
