/-! ===== the law's entry: from the interpreter's word on the law's code to the walk of the law ===== -/
theorem NW_tbl : ∀ w ∈ NW, w ∈ lw_tbl := by
  intro w hw
  rcases List.mem_append.mp hw with h | h
  · obtain ⟨q, hq, rfl⟩ := List.mem_map.mp h
    exact flnT_in q hq
  · obtain ⟨q, hq, rfl⟩ := List.mem_map.mp h
    exact mlnT_in q hq
theorem CW_tbl : ∀ w ∈ CW, w ∈ lw_tbl := by decide +kernel
theorem aow_tbl : ∀ w ∈ [Cond.arrayOver (.object "RuneBands$Stone"), Cond.arrayOver (.object "RuneBands$Words"), Cond.laysStatic Bundle.tN "UNASSIGNED_STACK" Bundle.steD, Cond.laysStatic Bundle.tN "SUPPRESSED_SENTINEL" Bundle.listD, Cond.initialized Bundle.tN], w ∈ lw_tbl := by decide +kernel
theorem str_tbl : ∀ q ∈ stT, Cond.stringRef RX8 q.1 q.2 ∈ lw_tbl := by decide +kernel
theorem nar_1 : ∀ w ∈ [Cond.isRef (.static Bundle.tN "UNASSIGNED_STACK" Bundle.steD), Cond.isRef (.static Bundle.tN "SUPPRESSED_SENTINEL" Bundle.listD), Cond.not (.castable (exn 0) (exn 1)), Cond.not (.castable (exn 2) (exn 0))], w ∈ flatC (Jvm.Cond.and given_1 narrow_1) := by decide +kernel
theorem nar_2 : ∀ q ∈ stT, Cond.exactly (.string RX8 q.1) "java/lang/String" ∈ flatC (Jvm.Cond.and given_1 narrow_1) := by decide +kernel
theorem K_all {s : State} {args : Array Value} (hts : ∀ w ∈ lw_tbl, w.before args s = true) : ∃ (D : va_G) (ca : Nat → ClassId), SF D ca s := by
  have hgw : ∀ w ∈ GW, w.before args s = true := fun w hw => hts w (List.mem_filter.mp hw).1
  have hk : ∀ a : Nat, ∃ q : ClassId × (Nat → Nat), a < 9 → u_Kn s (Rn a) (TXf a) (nf a) q.1 q.2 := by
    intro a
    by_cases ha : a < 9
    · obtain ⟨cC, iS, h⟩ := u_known (C := Rn a) (T := TXf a) (N := nf a) (n := nf a) hgw (ws_in ha) (hgw _ (insT_in a (ins_all a (List.mem_range.mpr ha))))
      exact ⟨(cC, iS), fun _ => h⟩
    · exact ⟨(0, fun _ => 0), fun h => absurd h ha⟩
  obtain ⟨f, hf⟩ := Classical.axiomOfChoice hk
  obtain ⟨c0, k0, p0, a1, a2, a3⟩ := Cond.arrayClass_spec (hts (.arrayClass .int) (List.mem_filter.mp (sp_at (j := 7) rfl)).1)
  obtain ⟨c1, k1, p1, b1, b2, b3⟩ := Cond.arrayClass_spec (hts (.arrayClass .long) (List.mem_filter.mp (sp_at (j := 8) rfl)).1)
  obtain ⟨c2, k2, p2, d1, d2, d3⟩ := Cond.arrayClass_spec (hts (.arrayClass .int) (List.mem_filter.mp (sp_at (j := 9) rfl)).1)
  have hS := hts _ (aow_tbl _ List.mem_cons_self)
  have hW := hts _ (aow_tbl _ (List.mem_cons_of_mem _ List.mem_cons_self))
  obtain ⟨p3, c3, k3, e0, -, e2, e3, e4⟩ := Cond.arrayOver_spec hS
  obtain ⟨p4, c4, k4, f0, -, f2, f3, f4⟩ := Cond.arrayOver_spec hW
  refine ⟨(fun a => (f a).1, fun a => (f a).2), fun t => [c0, c1, c2, c3, c4].getD t 0, ⟨fun c q hq => ?_, fun k q hq => ?_⟩, fun w hw => ?_, va_AO.of hS, va_AO.of hW⟩
  · have hc : c < 9 := (List.getElem?_eq_some_iff.mp hq).1
    rw [vwCl_at c hc] at hq
    cases hq
    exact hf c hc
  · match k, hq with
    | 0, hq => cases hq; exact ⟨fun N z => ⟨(fun k h => by cases h), k0, a2, p0, a3⟩, a1⟩
    | 1, hq => cases hq; exact ⟨fun N z => ⟨(fun k h => by cases h), k1, b2, p1, b3⟩, b1⟩
    | 2, hq => cases hq; exact ⟨fun N z => ⟨(fun k h => by cases h), k2, d2, p2, d3⟩, d1⟩
    | 3, hq => cases hq; exact ⟨fun N z => ⟨(fun k h => by cases h), k3, e2, p3, e3⟩, k3, p3, e2, e3, e0, e4⟩
    | 4, hq => cases hq; exact ⟨fun N z => ⟨(fun k h => by cases h), k4, f2, p4, f3⟩, k4, p4, f2, f3, f0, f4⟩
    | k + 5, hq => simp [tys] at hq
  · have h1 := hts w (NW_tbl w hw)
    rcases NW_form w hw with ⟨a, i, r, n, dd, hh, rfl⟩ | ⟨a, i, x, hh, rfl⟩ <;> exact va_Nw.of rfl h1
theorem EXF_start {s : State} {args : Array Value} (hts : ∀ w ∈ lw_tbl, w.before args s = true) (hgv : (Jvm.Cond.and given_1 narrow_1).before args s = true) : EXF s.heap.size s := by
  have hn := flat_of_before _ hgv
  have hA : ∀ a : Nat, a < s.heap.size → ¬ AB s.heap.size a := fun a ha => Nat.not_le.mpr ha
  have m1 : ∀ {w : Cond} {l : List Cond}, w ∈ w :: l := List.mem_cons_self
  have hi := hts _ (aow_tbl (Cond.initialized Bundle.tN) (by simp))
  refine ⟨vx_Zqof (hts _ (aow_tbl _ (by simp))) hi (hn _ (nar_1 _ (by simp))) hA, vx_Zqof (hts _ (aow_tbl _ (by simp))) hi (hn _ (nar_1 _ (by simp))) hA, fun w hw => ?_, fun q hq => ?_, va_Nc.of (hn _ (nar_1 _ (by simp))), va_Nc.of (hn _ (nar_1 _ (by simp)))⟩
  · have h1 := hts w (CW_tbl w hw)
    simp only [CW, List.mem_cons, List.not_mem_nil, or_false] at hw
    rcases hw with rfl | rfl | rfl | rfl | rfl | rfl <;> exact va_Nw.of rfl h1
  · obtain ⟨a, c, cell, k, q1, -⟩ := Cond.exactly_spec (hn _ (nar_2 q hq))
    exact ⟨a, vk_R.of (hts _ (str_tbl q hq)) q1⟩
def scr (L : Nat) (xs : Nat → Int32) : List AE := [.inl (9, L, .inl xs)]
/-- the units that the law may use -/
def W0 : Nat := 700000
theorem law_sound {p : Program} {e : Env} {s : State} {m : MethodId} {below : List Frame} {meth : Method} {c : Code} (l : Launch) (hflags : l.flags = flags0) {b L : Nat} {xs : Nat → Int32} (C0 : lw_At p s m meth c b L xs)
    (hE : EX (cal 60) 202 (fun o _ => o = .inl (some (.int 1))) 0 (entL 10 [.ref 0]) [] (0, 0) (0, scr L xs)) : W p l e room_1 s m #[Value.ref b] below meth c s.heap [] 0 0 (lw_Z below #[Value.ref b] s) (entryFrame m ([Value.ref b] : List Value).toArray 10) := by
  obtain ⟨hx, hb, hr, hml, hown, hts, hX, hbl, hlocks, hgv⟩ := id C0
  have hl : l.stackTraces = false := by
    unfold Launch.stackTraces
    rw [hflags]
    decide +kernel
  have hgw : ∀ w ∈ GW, w.before #[Value.ref b] s = true := fun w hw => hts w (List.mem_filter.mp hw).1
  obtain ⟨D, ca, hSF⟩ := K_all hts
  have hEX := EXF_start hts hgv
  let B0 : AM := (s.heap.size, fun i => s.heap.size + i)
  have F : FrC 202 W0 p room_1 s m #[Value.ref b] meth c D ca B0 b L xs (60 + 1) :=
    ⟨hx, hb, hml, hown, hgw, hSF, hbl, Nat.le_refl _, hX, Nat.le_of_ble_eq_true rfl, Nat.le_of_ble_eq_true rfl, Nat.le_of_ble_eq_true rfl, Nat.le_of_ble_eq_true rfl, fun h => absurd h (by decide +kernel)⟩
  have htg : ∀ m : Nat, tgm 0 ≤ tgm m + W0 := by
    intro m
    show M0 ≤ _
    unfold tgm M0 W0
    split <;> omega
  have hret : HRet 202 0 p l e room_1 s m #[Value.ref b] below meth c D ca B0 b L xs (lw_Z below #[Value.ref b] s) (fun o _ => o = .inl (some (.int 1))) := by
    intro v pc ls g H locs u hq hrk hd hw hS hE h1 h2 hz0
    have hv : v = some (.int 1) := Sum.inl.inj hq
    subst hv
    have h8 := htg g.1
    have b1 : bc 202 = 58 := rfl
    have b2 : bs 202 = 4830 := rfl
    rw [b1] at h1
    rw [b2] at h2
    refine va_forget hS.2.2 (W.widen (k := 730532) (n := 6909587) (by unfold uc; unfold W0 at h8; omega) (by unfold us; unfold W0 at h8; omega) (W.base ?_))
    exact lw_ret (Drawn.sameBut.refl s.drawn lw_cs) hx hb hr hlocks hd
  have hret6 : ∀ B9, BOK 202 B9 B0 → HRet6 202 0 p l e room_1 s m #[Value.ref b] below meth c D ca B9 b L xs (lw_Z below #[Value.ref b] s) (fun o _ => o = .inl (some (.int 1))) := by
    intro B9 hB9 x pc ls g H locs u h6
    exact absurd h6 (by decide)
  have hthr : HThr 202 0 p l e room_1 s m #[Value.ref b] below meth c D ca B0 b L xs (lw_Z below #[Value.ref b] s) (fun o _ => o = .inl (some (.int 1))) := by
    intro pc x n e9 b9 ks hcd g H locs L9 ls st u hq
    cases hq
  have hx6 : ∀ e9 r9, hnd 202 e9 = some r9 → rk 202 ≠ 6 := fun _ _ _ => by decide
  have hex : HExc 202 0 p l e room_1 s m #[Value.ref b] below meth c D ca B0 b L xs (lw_Z below #[Value.ref b] s) (fun o _ => o = .inl (some (.int 1))) := by
    intro pc i n a9 b9 c9 ks hcd hg e9 r9 hr9
    obtain ⟨hp, ci, j, w, ps, cx, ht⟩ := hnd_at hr9
    have hB := hc_all _ ht
    simp only [hcB, Bool.and_eq_true, decide_eq_true_eq] at hB
    obtain ⟨⟨⟨⟨⟨⟨⟨⟨⟨-, -⟩, -⟩, -⟩, -⟩, hk⟩, -⟩, -⟩, -⟩, -⟩ := hB
    exact absurd hk (by decide)
  have hall := xs_all F hEX (met_sound l hl 60) (cal_mono 60) (cal_ne 60) (fun o g' _ => htg g'.1) hret hret6 hthr hex hx6 hE
  have e1 : ([.ref 0] : List Value).map (tr B0 b) = [.ref b] := by simp [tr, ad]
  have h9 := hall s.heap [] _ (LH.ent (B := B0) (b := b) (n := 10) (vs := [.ref 0]) (by decide)) ⟨⟨[], rfl⟩, fun k q hq => by simp [wof, scr] at hq, ⟨fun i j hi => by simp [scr] at hi, fun i hi => by simp [scr] at hi⟩⟩ va_S.rf (fun _ => ⟨rfl, fun _ => rfl⟩) (Nat.zero_le _) (Nat.zero_le _) ⟨Nat.le_refl _, fun e9 => e9⟩
  have e0 : uc 0 (0, 0) (0, scr L xs).1 = 0 ∧ us 0 (0, 0) (0, scr L xs).1 = 0 := by
    show uc 0 (0, 0) 0 = 0 ∧ us 0 (0, 0) 0 = 0
    unfold uc us; omega
  rw [e0.1, e0.2, e1] at h9
  rw [lg_entry_eq]
  exact h9
