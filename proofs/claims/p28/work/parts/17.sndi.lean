/-! ===== from the interpreter to the machine, 9: handlers; a method's contract, by depth ===== -/
theorem exn_cnm (ci : Nat) : cnm ci < 3 := by
  unfold cnm
  split
  · decide
  · split <;> decide
theorem CW_cast {s : State} {args : Array Value} (h : ∀ w ∈ CW, va_Nw w s) (e : Nat) (he : e < 3) : (Cond.castable (exn e) (exn e)).before args s = true := by
  match e, he with
  | 0, _ => exact va_Nw.use rfl (h _ List.mem_cons_self)
  | 1, _ => exact va_Nw.use rfl (h _ (List.mem_cons_of_mem _ List.mem_cons_self))
  | 2, _ => exact va_Nw.use rfl (h _ (List.mem_cons_of_mem _ (List.mem_cons_of_mem _ List.mem_cons_self)))
theorem tab_split {l : List (Nat × Nat × Nat × Nat)} {ps : Nat} {x : Nat × Nat × Nat × Nat} (h : l[ps]? = some x) : tableOf l = tableOf (l.take ps) ++ ⟨x.1, x.2.1, x.2.2.1, x.2.2.2⟩ :: tableOf (l.drop (ps + 1)) := by
  obtain ⟨hlt, he⟩ := List.getElem?_eq_some_iff.mp h
  have h1 : l.take ps ++ x :: l.drop (ps + 1) = l := by
    rw [← he, ← List.drop_eq_getElem_cons hlt, List.take_append_drop]
  unfold tableOf
  conv => lhs; rw [← h1]
  rw [List.map_append, List.map_cons]
section SND7
variable {k ge w : Nat} {p : Program} {l : Launch} {e : Env} {R : Room} {s : State} {m : MethodId} {args : Array Value} {below : List Frame} {meth : Method} {c : Code} {D : va_G} {ca : Nat → ClassId} {B : AM} {b Ln : Nat} {xs : Nat → Int32} {d : Nat} {QQ : State → Prop} {Q : Post}
theorem HExc_of (F : FrC k w p R s m args meth c D ca B b Ln xs (d + 1)) (hEX : EXF B.1 s) (hret : HRet k ge p l e R s m args below meth c D ca B b Ln xs QQ Q) (htab : hhs k ≠ [] → c.exceptionTable.toList = tableOf (hhs k)) :
    HExc k ge p l e R s m args below meth c D ca B b Ln xs QQ Q := by
  obtain ⟨hx, hb, hml, hown, hts, hSF, hbB, hBs, hX, hR1, hR2, hR3, hR4, hnm⟩ := F
  intro pc i n a9 b9 c9 ks hcd hg e9 r9 hr9 g H locs L ls rest q ce u hq hlh hw hS hE h1 h2 hz0 hce hcv hcl
  obtain ⟨hp, ci, j, wz, ps, cx, ht⟩ := hnd_at hr9
  have hB := hc_all _ ht
  simp only [hcB, Bool.and_eq_true, decide_eq_true_eq] at hB
  obtain ⟨⟨⟨⟨⟨⟨⟨⟨⟨h10, hci⟩, hcn⟩, hj⟩, hrk⟩, hk⟩, hps⟩, hpre⟩, hdd⟩, hcx⟩ := hB
  have hRn : Rn (own k) = RL := by rw [h10]; rfl
  have hkx : Cond.constant RL cx r9 ∈ GW := by
    split at hcx
    · rename_i qx hqx
      have hm := List.mem_of_find?_eq_some hqx
      have hp9 := List.find?_some hqx
      obtain ⟨o9, i9, a8⟩ := qx
      simp only [Bool.and_eq_true, beq_iff_eq] at hp9
      obtain ⟨rfl, rfl⟩ := hp9
      have h8 := icgT_in _ hm
      have hcx : icv a8 = r9 := of_decide_eq_true hcx
      have h8 : Cond.constant (Rn 10) i9 (icv a8) ∈ GW := h8
      rw [hcx] at h8
      exact h8
    · cases hcx
  rw [hRn] at hown
  split at hps
  · rename_i s0 e0 h0 c0 hge
    simp only [Bool.and_eq_true, decide_eq_true_eq] at hps
    obtain ⟨⟨rfl, rfl⟩, hall⟩ := hps
    have hne : hhs k ≠ [] := by intro e1; rw [e1] at hge; simp at hge
    have hcov := List.all_eq_true.mp hall _ (cd_mem hcd)
    simp only [grB, hg, beq_self_eq_true, Bool.not_true, Bool.false_or, Bool.and_eq_true] at hcov
    have hcw := cnm_w c0 (by simpa using hci)
    refine vx_catch (own := RL) (name := exn (cnm c0)) (E := exn e9) hown (tableOf ((hhs k).take ps)) ⟨s0, e0, h0, c0⟩ (tableOf ((hhs k).drop (ps + 1))) ((htab hne).trans (tab_split hge)) ?_ ?_ ?_ (hts _ (GW_of hcw.1 hcw.2)) ?_ hce hcv hcl ?_
    · intro z hz
      obtain ⟨z', hz', rfl⟩ := List.mem_map.mp hz
      have h9 := List.all_eq_true.mp hpre z' hz'
      simp only [Bool.and_eq_true, Bool.or_eq_true, decide_eq_true_eq] at h9
      have hcz := cnm_w z'.2.2.2 (by simpa using h9.1)
      refine Or.inr ⟨?_, exn (cnm z'.2.2.2), hts _ (GW_of hcz.1 hcz.2), ?_⟩
      · have h8 := h9.1
        intro e1
        have e2 : z'.2.2.2 = 0 := e1
        rw [e2] at h8
        exact absurd h8 (by decide)
      · rcases h9.2 with ⟨e1, e2⟩ | ⟨e1, e2⟩
        · rw [e1, e2]; exact hEX.2.2.2.2.1
        · rw [e1, e2]; exact hEX.2.2.2.2.2
    · exact Bool.and_eq_true_iff.mpr hcov
    · intro e1
      have e2 : c0 = 0 := e1
      rw [e2] at hci
      exact absurd hci (by decide)
    · rw [hcn]
      exact CW_cast hEX.2.2.1 e9 (hcn ▸ exn_cnm c0)
    · show W p l e R s m args below meth c H locs (uc ge u g.1) (us ge u g.1) QQ (F0 m h0 ls [.ref q])
      by_cases hw0 : wz = 0
      · rw [if_pos hw0] at hdd
        simp only [Bool.and_eq_true, decide_eq_true_eq] at hdd
        refine lv_astore_n (i := j) hx hb hdd.1.1.2 ?_ hlh.has hj rfl (fun ls1 hl1 => lv_ldc hx hb hown (hts _ hkx) hdd.1.2 (hret (some (.int r9)) (h0 + 1 + 2) ls1 g H locs u hq (Or.inl hrk) hdd.2 hw hS hE h1 h2 hz0))
        show j % 4 = j
        have := hdd.1.1.1
        omega
      · rw [if_neg hw0] at hdd
        simp only [Bool.and_eq_true, decide_eq_true_eq] at hdd
        exact lv_astore hx hb hdd.1.1 hlh.has hj rfl (fun ls1 hl1 => lv_ldc hx hb hown (hts _ hkx) hdd.1.2 (hret (some (.int r9)) (h0 + 2 + 2) ls1 g H locs u hq (Or.inl hrk) hdd.2 hw hS hE h1 h2 hz0))
  · cases hps
theorem met_body (hl : l.stackTraces = false) (ih : HCal l (cal d) d) {y : Nat} (hy : y < 202) {vs : List Value} {g : Gp} {w : Nat} (hw0 : w = 0 ∨ w < g.1) (hQm : ∀ o g', Q o g' → g.1 ≤ g'.1 + w ∧ g'.1 ≤ g.1) (h : cal (d + 1) y vs g Q) {s₁ : State} (BL : BodyLoose p l (mN y) (headSpec (wsM y) (rmM y (d + 1) w)) (mB y) (mxl y) (mR y) e s m args below meth c s₁) (hml : c.maxLocals = mxl y)
    (ht1 : hhs y = [] → ∀ x ∈ c.exceptionTable.toList, False) (ht2 : hhs y ≠ [] → c.exceptionTable.toList = tableOf (hhs y)) (hv : PcM D ca B b Ln xs vs g args s) :
    W p l e (headSpec (wsM y) (rmM y (d + 1) w)).room s m args below meth c s.heap [] 0 0 (vx_MQ below (QcM D ca B b Ln xs Q) (XcM D ca B b Ln xs Q) args s (bc y + w) (bs y + 6 * w) (AB B.1)) (entryFrame m args (mxl y)) := by
  obtain ⟨rfl, hSF, hEX, hbB, hBs, hX, hW, hE0⟩ := hv
  have hmk := mok_at (Nat.lt_succ_of_lt hy)
  have hown : s.vm.findClass (Rn (own y)) = some m.cls := by rw [← hmk.2.2.2]; exact findClass_of_methodNamed BL.named
  have hts : ∀ w ∈ GW, w.before (vs.map (tr B b)).toArray s = true := fun w hw => atoms_spec (ws := wsM y) BL.pre w (List.mem_cons_of_mem _ hw)
  have F : FrC y w p (headSpec (wsM y) (rmM y (d + 1) w)).room s m (vs.map (tr B b)).toArray meth c D ca B b Ln xs (d + 1) :=
    ⟨BL.exec, BL.bytes, hml, hown, hts, hSF, hbB, hBs, hX, Nat.le_refl _, Nat.le_refl _, Nat.le_refl _, Nat.le_refl _, fun h9 => (name_of_methodNamed BL.named BL.method).1.trans h9⟩
  have hcQ : ∀ o g', Q o g' → tgm g.1 ≤ tgm g'.1 + w := by
    intro o g' h9
    obtain ⟨q1, q2⟩ := hQm o g' h9
    unfold tgm
    rcases hw0 with rfl | hw0
    · have : g'.1 = g.1 := by omega
      rw [this]; omega
    · rw [if_neg (by omega), if_neg (by omega)]; omega
  have hret := HRet_of (l := l) (e := e) (R := (headSpec (wsM y) (rmM y (d + 1) w)).room) (s := s) (m := m) (args := (vs.map (tr B b)).toArray) (below := below) (D := D) (ca := ca) (B := B) (b := b) (Ln := Ln) (xs := xs) hy BL.exec BL.bytes BL.returns BL.notSynchronized (Qp := Q) hcQ
  have hret6 := fun (B9 : AM) (hB9 : BOK y B9 B) => HRet6_of (l := l) (e := e) (R := (headSpec (wsM y) (rmM y (d + 1) w)).room) (s := s) (m := m) (args := (vs.map (tr B b)).toArray) (below := below) (D := D) (ca := ca) (B := B) (b := b) (Ln := Ln) (xs := xs) hy BL.exec BL.bytes BL.returns BL.notSynchronized (Qp := Q) hB9 hcQ
  have hx6 : ∀ e9 r9, hnd y e9 = some r9 → rk y ≠ 6 := by
    intro e9 r9 hr9
    obtain ⟨hp, ci, j, wz, ps, cx, ht⟩ := hnd_at hr9
    have hB := hc_all _ ht
    simp only [hcB, Bool.and_eq_true, decide_eq_true_eq] at hB
    have := hB.1.1.1.1.1.2
    omega
  have hall := xs_all F hEX ih (cal_mono d) (cal_ne d) hcQ hret hret6 (HThr_of F rfl rfl hEX hl BL.notSynchronized ht1 hcQ) (HExc_of F hEX hret ht2) hx6 h.2.2
  rw [lg_entry_eq]
  have h9 := hall s.heap [] _ (LH.ent h.1) hW va_S.rf (by rw [Nat.add_zero]; exact hE0) (Nat.zero_le _) (Nat.zero_le _) ⟨Nat.le_refl _, fun e9 => e9⟩
  have e0 : uc g.1 (0, 0) g.1 = 0 ∧ us g.1 (0, 0) g.1 = 0 := by unfold uc us; omega
  rw [e0.1, e0.2] at h9
  exact h9
end SND7
/-- what the interpreter says of a call holds on the machine -/
theorem met_sound (l : Launch) (hl : l.stackTraces = false) : ∀ d : Nat, HCal l (cal d) d := by
  intro d
  induction d with
  | zero => exact fun y _ vs g w Q _ _ h => h.elim
  | succ d ih =>
    intro y hy vs g w Q hw0 hQm h D ca B b Ln xs
    have hmk := mok_at (Nat.lt_succ_of_lt hy)
    by_cases hh : hhs y = []
    · refine vx_ofW hmk.1 (wsM_code hh) ?_
      intro p e s m args below meth c s₁ BL hml htb hv
      exact met_body hl ih hy hw0 hQm h BL hml (fun _ => htb) (fun h9 => absurd hh h9) hv
    · refine vx_ofWH hmk.1 (wsM_with hh) ?_
      intro p e s m args below meth c s₁ BL hml hv
      exact met_body hl ih hy hw0 hQm h BL hml (fun h9 => absurd h9 hh) (fun _ => vx_table (x := mN y) BL (atoms_spec (ws := wsM y) BL.pre _ (by rw [wsM_with hh]; exact List.mem_cons_self))) hv
