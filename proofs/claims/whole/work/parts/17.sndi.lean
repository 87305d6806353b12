/-! ===== from the interpreter to the machine, 9: handlers; a method's contract, by depth ===== -/
theorem exn_cnm (ci : Nat) : cnm ci < 3 := by
  unfold cnm
  split
  · decide
  · split <;> decide
theorem CW_cast {s : State} {args : Array Value} (h : ∀ w ∈ CW, va_Nw w s) (e : Nat) (he : e < 3) : (Cond.castable (exn e) (exn e)).before args s = true := by
  match e, he with
  | 0, _ => exact va_Nw.use rfl (h _ List.mem_cons_self)
  | 1, _ => exact va_Nw.use rfl (h _ (List.mem_cons_of_mem _ List.mem_cons_self))
  | 2, _ => exact va_Nw.use rfl (h _ (List.mem_cons_of_mem _ (List.mem_cons_of_mem _ List.mem_cons_self)))
theorem tab_split {l : List (Nat × Nat × Nat × Nat)} {ps : Nat} {x : Nat × Nat × Nat × Nat} (h : l[ps]? = some x) : tableOf l = tableOf (l.take ps) ++ ⟨x.1, x.2.1, x.2.2.1, x.2.2.2⟩ :: tableOf (l.drop (ps + 1)) := by
  obtain ⟨hlt, he⟩ := List.getElem?_eq_some_iff.mp h
  have h1 : l.take ps ++ x :: l.drop (ps + 1) = l := by
    rw [← he, ← List.drop_eq_getElem_cons hlt, List.take_append_drop]
  unfold tableOf
  conv => lhs; rw [← h1]
  rw [List.map_append, List.map_cons]
section SND7
variable {k : Nat} {p : Program} {l : Launch} {e : Env} {R : Room} {s : State} {m : MethodId} {args : Array Value} {below : List Frame} {meth : Method} {c : Code} {D : va_G} {ca : Nat → ClassId} {B b Ln : Nat} {xs : Nat → Int32} {d : Nat} {QQ : State → Prop} {Q : Post}
theorem HExc_of (F : FrC k p R s m args meth c D ca B b Ln xs (d + 1)) (hEX : EXF B s) (hret : HRet k p l e R s m args below meth c D ca B b Ln xs QQ Q) (htab : hhs k ≠ [] → c.exceptionTable.toList = tableOf (hhs k)) :
    HExc k p l e R s m args below meth c D ca B b Ln xs QQ Q := by
  obtain ⟨hx, hb, hml, hown, hts, hSF, hbB, hBs, hX, hR1, hR2, hR3, hR4, hnm⟩ := F
  intro pc i n a9 b9 c9 ks hcd hg e9 r9 hr9 g H locs L ls rest q ce u hq hlh hw hS hE h1 h2 hce hcv hcl
  obtain ⟨hp, ci, j, w, ps, ht⟩ := hnd_at hr9
  have hB := hc_all _ ht
  simp only [hcB, Bool.and_eq_true, decide_eq_true_eq] at hB
  obtain ⟨⟨⟨⟨⟨⟨⟨⟨h10, hci⟩, hcn⟩, hj⟩, hrk⟩, hk⟩, hps⟩, hpre⟩, hdd⟩ := hB
  have hRn : Rn (own k) = RL := by rw [h10]; rfl
  rw [hRn] at hown
  split at hps
  · rename_i s0 e0 h0 c0 hge
    simp only [Bool.and_eq_true, decide_eq_true_eq] at hps
    obtain ⟨⟨rfl, rfl⟩, hall⟩ := hps
    have hne : hhs k ≠ [] := by intro e1; rw [e1] at hge; simp at hge
    have hcov := List.all_eq_true.mp hall _ (cd_mem hcd)
    simp only [grB, hg, beq_self_eq_true, Bool.not_true, Bool.false_or, Bool.and_eq_true] at hcov
    have hcw := cnm_w c0 (by simpa using hci)
    refine vx_catch (own := RL) (name := exn (cnm c0)) (E := exn e9) hown (tableOf ((hhs k).take ps)) ⟨s0, e0, h0, c0⟩ (tableOf ((hhs k).drop (ps + 1))) ((htab hne).trans (tab_split hge)) ?_ ?_ ?_ (hts _ (GW_of hcw.1 hcw.2)) ?_ hce hcv hcl ?_
    · intro z hz
      obtain ⟨z', hz', rfl⟩ := List.mem_map.mp hz
      have h9 := List.all_eq_true.mp hpre z' hz'
      simp only [Bool.and_eq_true, Bool.or_eq_true, decide_eq_true_eq] at h9
      have hcz := cnm_w z'.2.2.2 (by simpa using h9.1)
      refine Or.inr ⟨?_, exn (cnm z'.2.2.2), hts _ (GW_of hcz.1 hcz.2), ?_⟩
      · have h8 := h9.1
        intro e1
        have e2 : z'.2.2.2 = 0 := e1
        rw [e2] at h8
        exact absurd h8 (by decide)
      · rcases h9.2 with ⟨e1, e2⟩ | ⟨e1, e2⟩
        · rw [e1, e2]; exact hEX.2.2.2.2.1
        · rw [e1, e2]; exact hEX.2.2.2.2.2
    · exact Bool.and_eq_true_iff.mpr hcov
    · intro e1
      have e2 : c0 = 0 := e1
      rw [e2] at hci
      exact absurd hci (by decide)
    · rw [hcn]
      exact CW_cast hEX.2.2.1 e9 (hcn ▸ exn_cnm c0)
    · show W p l e R s m args below meth c H locs u.1 u.2 QQ (F0 m h0 ls [.ref q])
      have hr : Int32.ofInt r9.toInt = r9 := Int32.ofInt_toInt r9
      by_cases hw0 : w = 0
      · rw [if_pos hw0] at hdd
        simp only [Bool.and_eq_true, decide_eq_true_eq] at hdd
        refine lv_astore_n (i := j) hx hb hdd.1.1.2 ?_ hlh.has hj rfl (fun ls1 hl1 => lv_iconst hx hb hdd.1.2 hr (hret (some (.int r9)) (h0 + 1 + 1) ls1 g H locs u hq (Or.inl hrk) hdd.2 hw hS hE h1 h2))
        show j % 4 = j
        have := hdd.1.1.1
        omega
      · rw [if_neg hw0] at hdd
        simp only [Bool.and_eq_true, decide_eq_true_eq] at hdd
        exact lv_astore hx hb hdd.1.1 hlh.has hj rfl (fun ls1 hl1 => lv_iconst hx hb hdd.1.2 hr (hret (some (.int r9)) (h0 + 2 + 1) ls1 g H locs u hq (Or.inl hrk) hdd.2 hw hS hE h1 h2))
  · cases hps
theorem met_body (hl : l.stackTraces = false) (ih : HCal l (cal d) d) {y : Nat} (hy : y < 219) {vs : List Value} {g : Gp} (h : cal (d + 1) y vs g Q) {s₁ : State} (BL : BodyLoose p l (mN y) (headSpec (wsM y) (rmM y (d + 1))) (mB y) (mxl y) (mR y) e s m args below meth c s₁) (hml : c.maxLocals = mxl y)
    (ht1 : hhs y = [] → ∀ x ∈ c.exceptionTable.toList, False) (ht2 : hhs y ≠ [] → c.exceptionTable.toList = tableOf (hhs y)) (hv : PcM D ca B b Ln xs vs g args s) :
    W p l e (headSpec (wsM y) (rmM y (d + 1))).room s m args below meth c s.heap [] 0 0 (vx_MQ below (QcM D ca B b Ln xs Q) (XcM D ca B b Ln xs Q) args s (bc y) (bs y) (AB B)) (entryFrame m args (mxl y)) := by
  obtain ⟨rfl, hSF, hEX, hbB, hBs, hX, hW, hE0⟩ := hv
  have hmk := mok_at (Nat.lt_succ_of_lt hy)
  have hown : s.vm.findClass (Rn (own y)) = some m.cls := by rw [← hmk.2.2.2]; exact findClass_of_methodNamed BL.named
  have hts : ∀ w ∈ GW, w.before (vs.map (tr B b)).toArray s = true := fun w hw => atoms_spec (ws := wsM y) BL.pre w (List.mem_cons_of_mem _ hw)
  have F : FrC y p (headSpec (wsM y) (rmM y (d + 1))).room s m (vs.map (tr B b)).toArray meth c D ca B b Ln xs (d + 1) :=
    ⟨BL.exec, BL.bytes, hml, hown, hts, hSF, hbB, hBs, hX, Nat.le_refl _, Nat.le_refl _, Nat.le_refl _, Nat.le_refl _, fun h9 => (name_of_methodNamed BL.named BL.method).1.trans h9⟩
  have hret := HRet_of (l := l) (e := e) (R := (headSpec (wsM y) (rmM y (d + 1))).room) (s := s) (m := m) (args := (vs.map (tr B b)).toArray) (below := below) (D := D) (ca := ca) (B := B) (b := b) (Ln := Ln) (xs := xs) hy BL.exec BL.bytes BL.returns BL.notSynchronized (Qp := Q)
  have hall := xs_all F hEX ih hret (HThr_of F rfl rfl hEX hl BL.notSynchronized ht1) (HExc_of F hEX hret ht2) h.2.2
  rw [lg_entry_eq]
  exact hall s.heap [] _ (LH.ent h.1) hW va_S.rf (fun e9 => by show s.heap.size + 0 = _; rw [hE0 e9]; omega) (Nat.zero_le _) (Nat.zero_le _)
end SND7
/-- what the interpreter says of a call holds on the machine -/
theorem met_sound (l : Launch) (hl : l.stackTraces = false) : ∀ d : Nat, HCal l (cal d) d := by
  intro d
  induction d with
  | zero => exact fun y _ vs g Q h => h.elim
  | succ d ih =>
    intro y hy vs g Q h D ca B b Ln xs
    have hmk := mok_at (Nat.lt_succ_of_lt hy)
    by_cases hh : hhs y = []
    · refine vx_ofW hmk.1 (wsM_code hh) ?_
      intro p e s m args below meth c s₁ BL hml htb hv
      exact met_body hl ih hy h BL hml (fun _ => htb) (fun h9 => absurd hh h9) hv
    · refine vx_ofWH hmk.1 (wsM_with hh) ?_
      intro p e s m args below meth c s₁ BL hml hv
      exact met_body hl ih hy h BL hml (fun h9 => absurd h9 hh) (fun _ => vx_table (x := mN y) BL (atoms_spec (ws := wsM y) BL.pre _ (by rw [wsM_with hh]; exact List.mem_cons_self))) hv
