/-! ===== from the interpreter to the machine, 8: the contracts by depth (by program, wip/whole/gsn6.py) ===== -/
theorem rk_v : ∀ y ∈ List.range 202, (rk y = 1 → mR y = some .int) ∧ (rk y = 2 → mR y = some .boolean) ∧ (rk y = 3 → mR y = some .long) ∧ (rk y = 4 → mR y = some .double) ∧ (rk y = 6 → mR y = some .boolean) := by decide +kernel
def isOb (t : Option FieldType) : Bool := match t with
  | some (.object _) => true
  | _ => false
theorem rk_o : ∀ y ∈ List.range 202, rk y = 5 → isOb (mR y) = true := by decide +kernel
theorem isOb_ex {t : Option FieldType} (h : isOb t = true) : ∃ n, t = some (.object n) := by
  unfold isOb at h
  split at h
  · exact ⟨_, rfl⟩
  · cases h
theorem xk_0 : ∀ w ∈ [Cond.classLink RX8 69 (exn 0), Cond.initialized (exn 0)], w ∈ lw_tbl ∧ goodWord w = true := by decide +kernel
theorem xk_1 : ∀ w ∈ [Cond.classLink RX8 90 (exn 1), Cond.initialized (exn 1)], w ∈ lw_tbl ∧ goodWord w = true := by decide +kernel
theorem xk_2 : ∀ w ∈ [Cond.classLink RX8 135 (exn 2), Cond.initialized (exn 2)], w ∈ lw_tbl ∧ goodWord w = true := by decide +kernel
theorem xf_all : (∀ e ∈ List.range 3, Bundle.fit (exn e) = true) ∧ ∀ n ∈ ["java/lang/RuntimeException", "java/lang/Exception"], Bundle.fit n = true := by decide +kernel
theorem thr_w (e : Nat) (he : e < 3) : ∀ ik ic, ik = [69, 90, 135].getD e 0 → ic = [73, 94, 139].getD e 0 →
    (∀ w ∈ [Cond.classLink RX8 ik (exn e), Cond.initialized (exn e)], w ∈ lw_tbl ∧ goodWord w = true) ∧ (∀ w ∈ (vx_atS RX8 ic (exn e) ["java/lang/RuntimeException", "java/lang/Exception"]).filter goodWord, w ∈ lw_tbl) ∧ (∀ w ∈ (vx_atS RX8 ic (exn e) ["java/lang/RuntimeException", "java/lang/Exception"]).filter (fun w => !goodWord w), w ∈ CW) ∧ (∀ w ∈ vx_atS RX8 ic (exn e) ["java/lang/RuntimeException", "java/lang/Exception"], vx_ot w = true) := by
  match e, he with
  | 0, _ => rintro _ _ rfl rfl; exact ⟨xk_0, xw_0, xn_0, xg_0⟩
  | 1, _ => rintro _ _ rfl rfl; exact ⟨xk_1, xw_1, xn_1, xg_1⟩
  | 2, _ => rintro _ _ rfl rfl; exact ⟨xk_2, xw_2, xn_2, xg_2⟩
theorem CW_use {s : State} {args : Array Value} (h : ∀ w ∈ CW, va_Nw w s) : ∀ w ∈ CW, w.before args s = true := fun w hw => va_Nw.use (by simp only [CW, List.mem_cons, List.not_mem_nil, or_false] at hw; rcases hw with rfl | rfl | rfl | rfl | rfl | rfl <;> rfl) (h w hw)
theorem GW_of {w : Cond} (h1 : w ∈ lw_tbl) (h2 : goodWord w = true) : w ∈ GW := List.mem_filter.mpr ⟨h1, h2⟩
section SND6
variable {k ge w : Nat} {p : Program} {l : Launch} {e : Env} {R : Room} {s : State} {m : MethodId} {args : Array Value} {below : List Frame} {meth : Method} {c : Code} {D : va_G} {ca : Nat → ClassId} {B : AM} {b Ln : Nat} {xs : Nat → Int32} {d : Nat} {QQ : State → Prop}
variable {C : CT} {Q : Post} {pc n a9 b9 c9 : Nat} {L : Lc} {st : List Value} {u : Nat × Nat} {g : Gp}

theorem HRet_of (hk : k < 202) (hx : p.tables.exec = Jvm.exec) (hb : c.code = mB k) (hr : meth.sig.returnType = mR k) (hlocks : meth.locks = false) {Qp : Post} (hcQ : ∀ o g', Qp o g' → tgm ge ≤ tgm g'.1 + w) :
    HRet k ge p l e R s m args below meth c D ca B b Ln xs (vx_MQ below (QcM D ca B b Ln xs Qp) (XcM D ca B b Ln xs Qp) args s (bc k + w) (bs k + 6 * w) (AB B.1)) Qp := by
  intro v pc ls g H locs u hq hrk hd hw hS hE h1 h2 hz0
  have hc9 := hcQ _ _ hq
  refine W.widen (k := bc k + w) (n := bs k + 6 * w) (by unfold uc; omega) (by unfold us; omega) (vx_ret ?_)
  have hv := rk_v k (List.mem_range.mpr hk)
  have hQ : ∀ t : State, t.heap = H → s.WarmedH t.vm → QcM D ca B b Ln xs Qp args s (.returned (v.map (tr B b))) t := fun t ht _ => ⟨⟨v, g, rfl, hq, by rw [ht]; exact hw⟩, hS.F ht⟩
  cases v with
  | none => exact W.vret hx hb (hr.trans (mR_none k (List.mem_range.mpr hk) hrk)) hQ hS.2.2 hd hlocks
  | some v =>
    cases v with
    | int x =>
      rcases hrk with h9 | ⟨h9, h01⟩
      · exact W.iret hx hb (hr.trans (hv.1 h9)) hQ hS.2.2 hd hlocks
      · exact W.zret hx hb (hr.trans (hv.2.1 h9)) (by rcases h01 with rfl | rfl <;> rfl) hQ hS.2.2 hd hlocks
    | long x => exact W.lret hx hb (hr.trans (hv.2.2.1 hrk)) hQ hS.2.2 hd hlocks
    | double x => exact W.dret hx hb (hr.trans (hv.2.2.2.1 hrk)) hQ hS.2.2 hd hlocks
    | null =>
      obtain ⟨n, hn⟩ := isOb_ex (rk_o k (List.mem_range.mpr hk) hrk)
      exact W.aret hx hb (hr.trans hn) (Or.inl ⟨n, rfl⟩) (Or.inl rfl) hQ hS.2.2 hd hlocks
    | ref x =>
      obtain ⟨n, hn⟩ := isOb_ex (rk_o k (List.mem_range.mpr hk) hrk)
      exact W.aret hx hb (hr.trans hn) (Or.inl ⟨n, rfl⟩) (Or.inr ⟨_, rfl⟩) hQ hS.2.2 hd hlocks
    | float x => exact hrk.elim
    | retAddr x => exact hrk.elim
theorem HRet6_of (hk : k < 202) (hx : p.tables.exec = Jvm.exec) (hb : c.code = mB k) (hr : meth.sig.returnType = mR k) (hlocks : meth.locks = false) {Qp : Post} {B9 : AM} (hB9 : BOK k B9 B) (hcQ : ∀ o g', Qp o g' → tgm ge ≤ tgm g'.1 + w) :
    HRet6 k ge p l e R s m args below meth c D ca B9 b Ln xs (vx_MQ below (QcM D ca B b Ln xs Qp) (XcM D ca B b Ln xs Qp) args s (bc k + w) (bs k + 6 * w) (AB B.1)) Qp := by
  intro x pc ls g H locs u h6 h01 h0 h59 hcl hq hd hw hS h1 h2 hz0
  rw [hB9.1] at hS
  have hc9 : tgm ge ≤ tgm g.1 + w := hcQ _ (g.1, g.2.take 59) hq
  refine W.widen (k := bc k + w) (n := bs k + 6 * w) (by unfold uc; omega) (by unfold us; omega) (vx_ret ?_)
  have hv := rk_v k (List.mem_range.mpr hk)
  obtain ⟨⟨tl, htl⟩, hP, hI⟩ := hw
  have hlen : (g.2.take 59).length = 59 := by rw [List.length_take]; omega
  have hw' : WD D ca B b Ln xs (g.1, g.2.take 59) H := by
    refine ⟨⟨tl.take 58, ?_⟩, fun i q hi => ?_, ?_⟩
    · show g.2.take 59 = _
      rw [htl]; rfl
    · have hi : (wof ca B b (g.2.take 59))[i]? = some q := hi
      have hlt := (List.getElem?_eq_some_iff.mp hi).1
      rw [wof_len, hlen] at hlt
      refine hP i q ?_
      rw [← hi, wof_get, wof_get, List.getElem?_take, if_pos (by omega), hB9.2.2 i (by omega)]
      cases e : g.2[i + 1]? with
      | none => rfl
      | some x9 =>
        rw [Option.map_some, Option.map_some, cv_clo (ca := ca) (b := b) (n := 59) (B := B9) (B' := B) (fun j hj => hB9.2.2 j (by omega)) (hcl x9 ?_)]
        refine List.mem_of_getElem? (i := i + 1) ?_
        rw [List.getElem?_take, if_pos (by omega), e]
    · show BI B (g.2.take 59).length
      rw [hlen]
      refine ⟨fun i j hi hj e9 => hI.1 i j (by omega) (by omega) (by rw [hB9.2.2 i (by omega), hB9.2.2 j (by omega)]; exact e9), fun i hi => ?_⟩
      rw [← hB9.1, ← hB9.2.2 i (by omega)]
      exact hI.2 i (by omega)
  have hQ : ∀ t : State, t.heap = H → s.WarmedH t.vm → QcM D ca B b Ln xs Qp args s (.returned (some (.int x))) t := fun t ht _ => ⟨⟨some (.int x), _, rfl, hq, by rw [ht]; exact hw'⟩, hS.F ht⟩
  exact W.zret hx hb (hr.trans (hv.2.2.2.2 h6)) (by rcases h01 with rfl | rfl <;> rfl) hQ hS.2.2 hd hlocks
theorem HThr_of (F : FrC k w p R s m args meth c D ca B b Ln xs (d + 1)) (hRc : R.cells = bc k + w) (hRs : R.slots = bs k + 6 * w) (hEX : EXF B.1 s) (hl : l.stackTraces = false) (hlocks : meth.locks = false) (htab : hhs k = [] → ∀ x ∈ c.exceptionTable.toList, False) {Qp : Post} (hcQ : ∀ o g', Qp o g' → tgm ge ≤ tgm g'.1 + w) :
    HThr k ge p l e R s m args below meth c D ca B b Ln xs (vx_MQ below (QcM D ca B b Ln xs Qp) (XcM D ca B b Ln xs Qp) args s (bc k + w) (bs k + 6 * w) (AB B.1)) Qp := by
  obtain ⟨hx, hb, hml, hown, hts, hSF, hbB, hBs, hX, hR1, hR2, hR3, hR4, hnm⟩ := F
  intro pc x n e9 b9 ks hcd g H locs L ls st u hq hfz hlen hlh hw hS h1' h2' hz0
  have hc9 : tgm ge ≤ tgm (g.1 - 1) + w := hcQ _ _ hq
  rw [(tg_sub (Or.inr (by omega) : (1 : Nat) = 0 ∨ 1 < g.1)).1] at hc9
  have hm9 := hz0.1
  have ht1 : 1 ≤ tgm g.1 := (tg_sub (Or.inr (by omega) : (1 : Nat) = 0 ∨ 1 < g.1)).2
  have h1 : uc ge u g.1 + 1 ≤ bc k + w := by unfold uc; omega
  have h2 : us ge u g.1 + 6 ≤ bs k + 6 * w := by unfold us; omega
  generalize uc ge u g.1 = u1 at *
  generalize us ge u g.1 = u2 at *
  obtain ⟨is, ic, wz, ht⟩ := th_at hcd
  have hB := th_all _ ht
  simp only [thB, Bool.and_eq_true, decide_eq_true_eq, List.isEmpty_iff] at hB
  obtain ⟨⟨⟨⟨⟨⟨⟨⟨⟨h8, -⟩, he⟩, hic⟩, hik⟩, d0⟩, d3⟩, hst⟩, hhe⟩, hdd⟩ := hB
  obtain ⟨hkw, hxw, hxn, hxg⟩ := thr_w e9 he x ic hik hic
  have hRn : Rn (own k) = RX8 := by rw [h8]; rfl
  rw [hRn] at hown
  obtain ⟨q, hqs, hqi⟩ := List.any_eq_true.mp hst
  obtain ⟨i0, tx⟩ := q
  obtain rfl : i0 = is := by simpa using hqi
  obtain ⟨sa, hsa⟩ := hEX.2.2.2.1 _ hqs
  have hk0 := hkw _ List.mem_cons_self
  have hk1 := hkw _ (List.mem_cons_of_mem _ List.mem_cons_self)
  have hat : ∀ w ∈ vx_atS RX8 ic (exn e9) ["java/lang/RuntimeException", "java/lang/Exception"], w.before args s = true := vx_hat (fun w hw9 => hts w (GW_of (hxw w hw9) (List.mem_filter.mp hw9).2)) hxn (CW_use hEX.2.2.1)
  have hgood : ∀ w ∈ Cond.classLink RX8 x (exn e9) :: Cond.initialized (exn e9) :: vx_atS RX8 ic (exn e9) ["java/lang/RuntimeException", "java/lang/Exception"], vx_ot w = true := by
    intro w hw9
    rcases List.mem_cons.mp hw9 with rfl | hw9
    · simp [vx_ot, hk0.2]
    · rcases List.mem_cons.mp hw9 with rfl | hw9
      · simp [vx_ot, hk1.2]
      · exact hxg w hw9
  have hcs := cat_sum st
  have hX9 : ∀ t : State, s.vm.Alike t.vm → H.size ≤ t.heap.size → (∀ q : Nat, q < H.size → t.heap[q]? = H[q]?) → XcM D ca B b Ln xs Qp (exn e9) s t := by
    intro t _ hz hk
    refine ⟨⟨e9, (g.1 - 1, g.2), rfl, hq, hw.1, hw.2.1.kept fun k9 q9 hq9 => hk _ (hw.2.1 k9 q9 hq9).lt, hw.2.2⟩, Nat.le_trans hS.1 hz, fun q h3 h4 => ?_⟩
    rw [hk q (Nat.lt_of_lt_of_le h3 hS.1)]
    exact hS.2.1 q h3 h4
  have hRf : (["java/lang/RuntimeException", "java/lang/Exception"] : List String).length + 3 < R.frames := by show 2 + 3 < R.frames; omega
  have hRl : (((st.map (tr B b)).map fun v => v.category).sum) + (13 * ((["java/lang/RuntimeException", "java/lang/Exception"] : List String).length + 1) + 43) ≤ R.locals := by
    rw [cat_tr]
    show _ + (13 * (2 + 1) + 43) ≤ _
    omega
  by_cases hw0 : wz = 0
  · rw [if_pos hw0] at hdd
    simp only [Bool.and_eq_true, decide_eq_true_eq] at hdd
    exact vx_throwS hx hb hl hown (xf_all.1 e9 (List.mem_range.mpr he)) xf_all.2 (hts _ (GW_of hk0.1 hk0.2)) (hts _ (GW_of hk1.1 hk1.2)) hsa hat hgood hEX.1 hEX.2.1 hS (hlh.1.trans hml.symm) d0 d3 hdd.1.1 hdd.1.2 hdd.2 (fun x9 hx9 => (htab hhe x9 hx9).elim) hRf hRl (by omega) (by omega) hlocks hX9 hS.2.2 h1 h2
  · rw [if_neg hw0] at hdd
    simp only [Bool.and_eq_true, decide_eq_true_eq] at hdd
    exact vx_throwSW hx hb hl hown (xf_all.1 e9 (List.mem_range.mpr he)) xf_all.2 (hts _ (GW_of hk0.1 hk0.2)) (hts _ (GW_of hk1.1 hk1.2)) hsa hat hgood hEX.1 hEX.2.1 hS (hlh.1.trans hml.symm) d0 d3 hdd.1.1 hdd.1.2 hdd.2 (fun x9 hx9 => (htab hhe x9 hx9).elim) hRf hRl (by omega) (by omega) hlocks hX9 hS.2.2 h1 h2
end SND6
/-- handlers: method, exception, answer, place, the class' link, the local, its form, its place in the table, the answer's constant -/
def hT : List (Nat × Nat × Int32 × Nat × Nat × Nat × Nat × Nat × Nat) := [(132, 0, (-5000001), 10, 15, 4, 1, 0, 17), (133, 1, (-5000003), 10, 21, 4, 1, 0, 23), (133, 0, (-5000001), 15, 15, 4, 1, 1, 17), (134, 2, (-5000002), 8, 28, 2, 0, 0, 30), (135, 1, (-5000003), 9, 21, 3, 0, 0, 23), (136, 1, (-5000003), 10, 21, 4, 1, 0, 23), (136, 0, (-5000001), 15, 15, 4, 1, 1, 17), (137, 0, (-5000001), 9, 15, 3, 0, 0, 17), (138, 1, (-5000003), 10, 21, 4, 1, 0, 23), (139, 1, (-5000003), 10, 21, 4, 1, 0, 23), (139, 0, (-5000001), 15, 15, 4, 1, 1, 17), (140, 1, (-5000003), 10, 21, 4, 1, 0, 23), (141, 1, (-5000003), 10, 21, 4, 1, 0, 23), (142, 1, (-5000003), 9, 21, 3, 0, 0, 23), (143, 1, (-5000003), 9, 21, 3, 0, 0, 23), (144, 0, (-5000001), 9, 15, 3, 0, 0, 17), (145, 0, (-5000001), 9, 15, 3, 0, 0, 17), (146, 1, (-5000003), 9, 21, 3, 0, 0, 23), (147, 0, (-5000001), 9, 15, 3, 0, 0, 17), (147, 2, (-5000002), 13, 28, 3, 0, 1, 30), (148, 2, (-5000002), 8, 28, 2, 0, 0, 30)]
def cnm (ci : Nat) : Nat := if ci = 15 then 0 else if ci = 21 then 1 else 2
theorem cnm_w : ∀ ci ∈ [15, 21, 28], Cond.classLink RL ci (exn (cnm ci)) ∈ lw_tbl ∧ goodWord (Cond.classLink RL ci (exn (cnm ci))) = true := by decide +kernel
def grB (q : Nat × Instr × Nat × Nat × Nat × Nat × List Nat) : Bool := grp q.2.1 == 3
def hcB (t : Nat × Nat × Int32 × Nat × Nat × Nat × Nat × Nat × Nat) : Bool := match t with
  | (k, e, r, hp, ci, j, w, ps, cx) => decide (own k = 10) && [15, 21, 28].contains ci && decide (cnm ci = e) && decide (j < mxl k) && decide (rk k = 1) && decide (k < 202) &&
    (match (hhs k)[ps]? with
      | some (s0, e0, h0, c0) => decide (h0 = hp) && decide (c0 = ci) && (cdL.getD k []).all (fun q => !grB q || (decide (s0 ≤ q.1) && decide (q.1 < e0)))
      | none => false) &&
    ((hhs k).take ps).all (fun z => [15, 21, 28].contains z.2.2.2 && (decide (e = 0 ∧ cnm z.2.2.2 = 1) || decide (e = 2 ∧ cnm z.2.2.2 = 0))) &&
    (if w = 0 then (j < 4 && decide (decode (mB k) hp = .ok (.astore_n (Fin.ofNat 4 j), 1)) && decide (decode (mB k) (hp + 1) = .ok (.ldc cx, 2)) && decide (decode (mB k) (hp + 1 + 2) = .ok (.ireturn, 1)))
     else (decide (decode (mB k) hp = .ok (.astore j, 2)) && decide (decode (mB k) (hp + 2) = .ok (.ldc cx, 2)) && decide (decode (mB k) (hp + 2 + 2) = .ok (.ireturn, 1)))) &&
    (match icgT.find? fun q => q.1 == 10 && q.2.1 == cx with
      | some q => decide (icv q.2.2 = r)
      | none => false)
theorem hc_all : ∀ t ∈ hT, hcB t = true := by decide +kernel
def hnB (k : Nat) : Bool := (hndL.getD k []).all fun q => hT.any fun t => t.1 == k && t.2.1 == q.1 && decide (t.2.2.1 = q.2)
theorem hn_all : ∀ k ∈ List.range 203, hnB k = true := by decide +kernel
theorem hnd_at {k e : Nat} {r : Int32} (h : hnd k e = some r) : ∃ hp ci j w ps cx, (k, e, r, hp, ci, j, w, ps, cx) ∈ hT := by
  unfold hnd at h
  obtain ⟨q, hq, rfl⟩ := Option.map_eq_some_iff.mp h
  have h1 := List.mem_of_find?_eq_some hq
  have h2 : q.1 = e := by simpa using List.find?_some hq
  have hk : k < 203 := by
    by_cases hk : k < 203
    · exact hk
    · rw [List.getD_eq_getElem?_getD, List.getElem?_eq_none (by show 202 + 1 ≤ k; omega)] at h1
      cases h1
  have h3 := List.all_eq_true.mp (hn_all k (List.mem_range.mpr hk)) q h1
  obtain ⟨t, ht, h4⟩ := List.any_eq_true.mp h3
  obtain ⟨k', e', r', hp, ci, j, w, ps, cx⟩ := t
  simp only [Bool.and_eq_true, beq_iff_eq, decide_eq_true_eq] at h4
  obtain ⟨⟨rfl, rfl⟩, rfl⟩ := h4
  subst h2
  exact ⟨hp, ci, j, w, ps, cx, ht⟩
