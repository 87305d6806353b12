/-! ===== from the interpreter to the machine, 4: the heap, allotting, the ends (by program, wip/whole/gsn2.py) ===== -/
theorem vwCl_at : ∀ a : Nat, a < 9 → vwCl[a]? = some (Rn a, TXf a, nf a)
  | 0, _ => rfl
  | 1, _ => rfl
  | 2, _ => rfl
  | 3, _ => rfl
  | 4, _ => rfl
  | 5, _ => rfl
  | 6, _ => rfl
  | 7, _ => rfl
  | 8, _ => rfl
  | n + 9, h => by omega
theorem fty_ok : ∀ a : Nat, a < 9 → ∀ j : Nat, j < nf a → parseFieldDescriptor (TXf a j).2.2.1 = some (fty a j)
  | 0, _ => tyX0_ok
  | 1, _ => tyX1_ok
  | 2, _ => tyX2_ok
  | 3, _ => tyX3_ok
  | 4, _ => tyX4_ok
  | 5, _ => tyX5_ok
  | 6, _ => tyX6_ok
  | 7, _ => tyX7_ok
  | 8, _ => tyX8_ok
  | n + 9, h => by omega
theorem fnm_ok : ∀ a : Nat, a < 9 → ∀ i, i < nf a → ∀ j, j < nf a → i ≠ j → (TXf a i).2.1 ≠ (TXf a j).2.1
  | 0, _ => nmX0
  | 1, _ => nmX1
  | 2, _ => nmX2
  | 3, _ => nmX3
  | 4, _ => nmX4
  | 5, _ => nmX5
  | 6, _ => nmX6
  | 7, _ => nmX7
  | 8, _ => nmX8
  | n + 9, h => by omega
theorem flg_bnd : ∀ q ∈ flgT, q.2.2.1 < 9 ∧ q.2.2.2.1 < nf q.2.2.1 := by decide +kernel
theorem fln_bnd : ∀ q ∈ flnT, q.2.2.1 < 9 ∧ q.2.2.2.1 < nf q.2.2.1 := by decide +kernel
theorem lay_all : ∀ a ∈ List.range 9, ∀ j ∈ List.range (nf a), (a, j) ∈ layT := by decide +kernel
theorem ws_in {a : Nat} (ha : a < 9) : ∀ w ∈ u_ws (Rn a) (TXf a) (nf a), w ∈ GW := by
  intro w hw
  unfold u_ws at hw
  obtain ⟨j, hj, rfl⟩ := List.mem_map.mp hw
  exact layT_in (a, j) (lay_all a (List.mem_range.mpr ha) j hj)
theorem tr_def (B : AM) (b : Nat) (t : FieldType) : tr B b (defaultValue t) = defaultValue t := by cases t <;> rfl
theorem fs0_tr (B : AM) (b a : Nat) : (fs0 a).map (tr B b) = fs0 a := by
  unfold fs0
  rw [List.map_map]
  exact List.map_congr_left fun j _ => tr_def B b _
theorem W_sz {p : Program} {l : Launch} {e : Env} {R : Room} {s : State} {m : MethodId} {args : Array Value} {below : List Frame} {meth : Method} {c : Code} {H : Heap} {locs : List Loc} {cells slots : Nat} {Q : State → Prop} {g : JFrame}
    (h : H.size ≤ s.heap.size + cells → W p l e R s m args below meth c H locs cells slots Q g) : W p l e R s m args below meth c H locs cells slots Q g := by
  intro T hT X
  have h1 : (T.setVm s.vm).heap.size ≤ s.heap.size + cells := X.same.2.2.1
  have h2 : T.heap.size ≤ s.heap.size + cells := h1
  rw [hT] at h2
  exact h h2 T hT X
theorem cv_set {ca : Nat → ClassId} {B : AM} {b ci j : Nat} {fs : List Value} {v : Value} : cv ca B b (.inr (ci, fs.set j v)) = .inr (ci, (fs.map (tr B b)).set j (tr B b v)) := by
  simp [cv, List.map_set]
theorem tys_name {ca : Nat → ClassId} {D : va_G} {s : State} {cA : ClassId} {ty : FieldType} {t : Nat} (hK : va_K D vwCl (tys ca) s) (h9 : va_K D vwCl (tys ca ++ [(cA, ty)]) s) (ht : (tys ca)[t]? = some (ca t, ty)) : cA = ca t := by
  have h1 := (hK.2 t _ ht).2
  have h2 := (h9.2 5 (cA, ty) rfl).2
  cases ty with
  | object C =>
    obtain ⟨-, -, -, -, -, f1⟩ := h1
    obtain ⟨-, -, -, -, -, f2⟩ := h2
    exact Option.some.inj (f2.symm.trans f1)
  | _ => exact Option.some.inj (Eq.trans (Eq.symm (h2 : s.vm.findClass _ = some cA)) h1)
theorem Cg.set {B : AM} {g : Gp} {z o : Nat} {x : AE} (h : Cg B g z) : Cg B (wr g o x) z := fun e => by
  have h1 := h e
  refine ⟨?_, h1.2⟩
  show z = B.1 + ((g.2.set o x).length - 1)
  rw [List.length_set]
  exact h1.1
section SND2
variable {k ge w : Nat} {p : Program} {l : Launch} {e : Env} {R : Room} {s : State} {m : MethodId} {args : Array Value} {below : List Frame} {meth : Method} {c : Code} {D : va_G} {ca : Nat → ClassId} {B : AM} {b Ln : Nat} {xs : Nat → Int32} {d : Nat} {QQ : State → Prop}
variable {C : CT} {Q : Post} {pc n a9 b9 c9 : Nat} {L : Lc} {st : List Value} {u : Nat × Nat} {g : Gp}

set_option maxHeartbeats 4000000 in
theorem xs_heap {i : Instr} {ks : List Nat} (F : FrC k w p R s m args meth c D ca B b Ln xs d) (hok : okB k (pc, i, n, a9, b9, c9, ks) = true) (hd : decode (mB k) pc = .ok (i, n)) (hn : isTS i = false → n = ilen i) (hg : grp i = 1) (h : st1 C k Q (XS k ge p l e R s m args below meth c D ca B b Ln xs QQ) pc i n a9 b9 c9 L st u g) : XS k ge p l e R s m args below meth c D ca B b Ln xs QQ pc L st u g := by
  obtain ⟨hx, hb, hml, hown, hts, hSF, hbB, hBs, hX, hR1, hR2, hR3, hR4, hnm⟩ := F
  have hK := hSF.1
  cases i with
  | getfield x =>
    obtain rfl : n = 3 := hn rfl
    obtain ⟨o, r, he0, h8⟩ := pR_ex h
    clear h
    subst he0
    have h := h8
    clear h8
    obtain ⟨ci, fs, ho, he0, h8⟩ := hO_ex h
    clear h
    subst he0
    have h := h8
    clear h8
    split at h
    · rename_i v hv
      intro H locs ls hl hw hS hE h1 h2 hz0
      obtain ⟨q, rfl, hq, had⟩ := hw.at ho (by simp)
      have h3 := h H locs ls hl hw hS hE h1 h2 hz0
      show W _ _ _ _ _ _ _ _ _ _ _ _ _ _ _ (F0 m pc ls (.ref (ad B b (q + 1)) :: r.map (tr B b)))
      rw [had]
      have hv1 : (fs.map (tr B b))[b9]? = some (tr B b v) := by rw [List.getElem?_map, hv]; rfl
      simp only [okB, Bool.and_eq_true] at hok
      have hok := hok.2
      split at hok
      · have hm := List.contains_iff_mem.mp hok
        have hbd := flg_bnd _ hm
        have hwd : Cond.fieldLink (Rn (own k)) x (TXf ci b9).1 (TXf ci b9).2.1 (TXf ci b9).2.2.1 ∈ GW := flgT_in _ hm
        exact va_get (D := D) (ci := ci) (v := tr B b v) (C := Rn ci) (T := TXf ci) (N := nf ci) hx hb hts (ws_in hbd.1) hown hK hw.2.1 q hq (vwCl_at ci hbd.1) b9 hbd.2 (hts _ hwd) (fun _ h9 => h9) hv1 hd h3
      · have hm := List.contains_iff_mem.mp hok
        have hbd := fln_bnd _ hm
        have hwd : Cond.fieldLinkNest (Rn (own k)) x (TXf ci b9).1 (TXf ci b9).2.1 (TXf ci b9).2.2.1 "RuneBands" ∈ NW := List.mem_append_left _ (List.mem_map.mpr ⟨_, hm, rfl⟩)
        exact va_getN (D := D) (ci := ci) (v := tr B b v) (C := Rn ci) (T := TXf ci) (N := nf ci) hx hb hts (ws_in hbd.1) hown hK hw.2.1 q hq (vwCl_at ci hbd.1) b9 hbd.2 (va_Nw.use rfl (hSF.2.1 _ hwd)) (fun _ h9 => h9) hv1 hd h3
    · exact h.elim
  | putfield x =>
    obtain rfl : n = 3 := hn rfl
    obtain ⟨v, r, he0, h8⟩ := pV_ex h
    clear h
    subst he0
    have h := h8
    clear h8
    obtain ⟨o, r, he0, h8⟩ := pR_ex h
    clear h
    subst he0
    have h := h8
    clear h8
    obtain ⟨ci, fs, ho, he0, hbl, hnr, hft, h8⟩ := hO_ex h
    clear h
    subst he0
    have h := h8
    clear h8
    intro H locs ls hl hw hS hE h1 h2 hz0
    obtain ⟨q, rfl, hq, had⟩ := hw.at ho (by simp)
    show W _ _ _ _ _ _ _ _ _ _ _ _ _ _ _ (F0 m pc ls (tr B b v :: .ref (ad B b (q + 1)) :: r.map (tr B b)))
    rw [had]
    have hlen : b9 < (fs.map (tr B b)).length := by rw [List.length_map]; exact hbl
    have kk : ∀ (H1 : Heap) (locs1 : List Loc), va_P D vwCl ((wof ca B b g.2).set q (B.2 q, .inr (ci, (fs.map (tr B b)).set b9 (tr B b v)))) H1 → va_D (AB B.1) ((wof ca B b g.2).set q (B.2 q, .inr (ci, (fs.map (tr B b)).set b9 (tr B b v)))) → va_S (AB B.1) s.heap H1 locs1 → W p l e R s m args below meth c H1 locs1 (uc ge u g.1) (us ge u g.1) QQ (F0 m (pc + 3) ls (r.map (tr B b))) := by
      intro H1 locs1 hP1 _ hS1
      rw [← cv_set (ca := ca)] at hP1
      exact h H1 locs1 ls hl (hw.put hP1) hS1 (Cg.set hE) h1 h2 hz0
    simp only [okB, Bool.and_eq_true] at hok
    have hok2 := hok.2.2
    have hok := hok.2.1
    split at hok
    · rename_i hc0
      have hm := List.contains_iff_mem.mp hok
      have hbd := flg_bnd _ hm
      have hwd : Cond.fieldLink (Rn (own k)) x (TXf ci b9).1 (TXf ci b9).2.1 (TXf ci b9).2.2.1 ∈ GW := flgT_in _ hm
      cases hfin : (TXf ci b9).2.2.2 with
      | false => exact va_put (D := D) (ci := ci) (v := tr B b v) (ty := fty ci b9) (C := Rn ci) (T := TXf ci) (N := nf ci) hx hb hts (ws_in hbd.1) (fty ci) (fty_ok ci hbd.1) (fnm_ok ci hbd.1) hown hK hw.2.1 (hw.D) hS q hq (vwCl_at ci hbd.1) b9 hbd.2 (hts _ hwd) (fun _ h9 => h9) hfin (fty_ok ci hbd.1 b9 hbd.2) (narrow_tr hnr) (fits_tr hft) hlen hd kk
      | true =>
        rw [hfin] at hok2
        simp only [Bool.not_true, Bool.false_or, Bool.and_eq_true, beq_iff_eq] at hok2
        exact va_putF (D := D) (ci := ci) (v := tr B b v) (ty := fty ci b9) (C := Rn ci) (T := TXf ci) (N := nf ci) hx hb hts (ws_in hbd.1) (fty ci) (fty_ok ci hbd.1) (fnm_ok ci hbd.1) hown hK hw.2.1 (hw.D) hS q hq (vwCl_at ci hbd.1) b9 hbd.2 (hts _ hwd) (fun _ h9 => h9) hfin (hnm hok2.1.2) hok2.2 (fty_ok ci hbd.1 b9 hbd.2) (narrow_tr hnr) (fits_tr hft) hlen hd kk
    · rename_i hc0
      have hm := List.contains_iff_mem.mp hok
      have hbd := fln_bnd _ hm
      have hwd : Cond.fieldLinkNest (Rn (own k)) x (TXf ci b9).1 (TXf ci b9).2.1 (TXf ci b9).2.2.1 "RuneBands" ∈ NW := List.mem_append_left _ (List.mem_map.mpr ⟨_, hm, rfl⟩)
      have hfin : (TXf ci b9).2.2.2 = false := by
        cases hfin : (TXf ci b9).2.2.2 with
        | false => rfl
        | true =>
          rw [hfin] at hok2
          simp only [Bool.not_true, Bool.false_or, Bool.and_eq_true] at hok2
          exact absurd hok2.1.1 hc0
      exact va_putN (D := D) (ci := ci) (v := tr B b v) (ty := fty ci b9) (C := Rn ci) (T := TXf ci) (N := nf ci) hx hb hts (ws_in hbd.1) (fty ci) (fty_ok ci hbd.1) (fnm_ok ci hbd.1) hown hK hw.2.1 (hw.D) hS q hq (vwCl_at ci hbd.1) b9 hbd.2 (va_Nw.use rfl (hSF.2.1 _ hwd)) (fun _ h9 => h9) hfin (fty_ok ci hbd.1 b9 hbd.2) (narrow_tr hnr) (fits_tr hft) hlen hd kk
  | iaload =>
    obtain rfl : n = 1 := hn rfl
    obtain ⟨i, r, he0, h8⟩ := pI_ex h
    clear h
    subst he0
    have h := h8
    clear h8
    obtain ⟨o, r, he0, h8⟩ := pR_ex h
    clear h
    subst he0
    have h := h8
    clear h8
    obtain ⟨t, n', f, ho, ht, hin, h⟩ := hI_ex h
    intro H locs ls hl hw hS hE h1 h2 hz0
    have h3 := h H locs ls hl hw hS hE h1 h2 hz0
    show W _ _ _ _ _ _ _ _ _ _ _ _ _ _ _ (F0 m pc ls (.int i :: .ref (ad B b o) :: r.map (tr B b)))
    rcases hw.script (o := o) with ⟨rfl, hs0⟩ | ⟨q, rfl⟩
    · rw [hs0] at ho
      cases ho
      rw [ad_zero]
      exact va_sld (A := AB B.1) hx hb hX (Nat.lt_of_lt_of_le hbB hBs) (Nat.not_le.mpr hbB) hS hin hd h3
    · rcases ht with rfl | ⟨-, h0⟩
      · obtain ⟨q', e1, hq, had⟩ := hw.at ho (by simp)
        rw [had]
        exact va_iald (D := D) hx hb hK hw.2.1 q' 0 hq rfl hin hd h3
      · exact absurd h0 (Nat.succ_ne_zero q)
  | laload =>
    obtain rfl : n = 1 := hn rfl
    obtain ⟨i, r, he0, h8⟩ := pI_ex h
    clear h
    subst he0
    have h := h8
    clear h8
    obtain ⟨o, r, he0, h8⟩ := pR_ex h
    clear h
    subst he0
    have h := h8
    clear h8
    obtain ⟨t, n', f, ho, he0, hin, h8⟩ := hJ_ex h
    clear h
    subst he0
    have h := h8
    clear h8
    intro H locs ls hl hw hS hE h1 h2 hz0
    have h3 := h H locs ls hl hw hS hE h1 h2 hz0
    obtain ⟨q, rfl, hq, had⟩ := hw.at ho (by simp)
    show W _ _ _ _ _ _ _ _ _ _ _ _ _ _ _ (F0 m pc ls (.int i :: .ref (ad B b (q + 1)) :: r.map (tr B b)))
    rw [had]
    exact va_lald (D := D) hx hb hK hw.2.1 q 1 hq rfl hin hd h3
  | aaload =>
    obtain rfl : n = 1 := hn rfl
    obtain ⟨i, r, he0, h8⟩ := pI_ex h
    clear h
    subst he0
    have h := h8
    clear h8
    obtain ⟨o, r, he0, h8⟩ := pR_ex h
    clear h
    subst he0
    have h := h8
    clear h8
    obtain ⟨t, n', f, ho, ht, hin, h⟩ := hQ_ex h
    intro H locs ls hl hw hS hE h1 h2 hz0
    have h3 := h H locs ls hl hw hS hE h1 h2 hz0
    obtain ⟨q, rfl, hq, had⟩ := hw.at ho (by simp)
    show W _ _ _ _ _ _ _ _ _ _ _ _ _ _ _ (F0 m pc ls (.int i :: .ref (ad B b (q + 1)) :: r.map (tr B b)))
    rw [had]
    have e1 : tr B b (va_rf (f i.toNatClampNeg)) = va_rf ((f i.toNatClampNeg).map (ad B b)) := by cases f i.toNatClampNeg <;> rfl
    have h4 : W p l e R s m args below meth c H locs (uc ge u g.1) (us ge u g.1) QQ (F0 m (pc + 1) ls (va_rf ((f i.toNatClampNeg).map (ad B b)) :: r.map (tr B b))) := by
      rw [← e1]; exact h3
    rcases ht with rfl | rfl
    · exact va_aldq (D := D) hx hb hK hw.2.1 q 3 hq rfl hin hd h4
    · exact va_aldq (D := D) hx hb hK hw.2.1 q 4 hq rfl hin hd h4
  | iastore =>
    obtain rfl : n = 1 := hn rfl
    obtain ⟨x, r, he0, h8⟩ := pI_ex h
    clear h
    subst he0
    have h := h8
    clear h8
    obtain ⟨i, r, he0, h8⟩ := pI_ex h
    clear h
    subst he0
    have h := h8
    clear h8
    obtain ⟨o, r, he0, h8⟩ := pR_ex h
    clear h
    subst he0
    have h := h8
    clear h8
    obtain ⟨t, n', f, ho, he0, hin, h8⟩ := hI_ex h
    clear h
    subst he0
    have h := h8
    clear h8
    intro H locs ls hl hw hS hE h1 h2 hz0
    obtain ⟨q, rfl, hq, had⟩ := hw.at ho (by simp)
    show W _ _ _ _ _ _ _ _ _ _ _ _ _ _ _ (F0 m pc ls (.int x :: .int i :: .ref (ad B b (q + 1)) :: r.map (tr B b)))
    rw [had]
    exact va_iast (D := D) hx hb hK hw.2.1 (hw.D) hS q 0 hq rfl hin hd fun H1 locs1 hP1 _ hS1 => h H1 locs1 ls hl (hw.put (x := .inl (0, n', .inl (upd f i.toNatClampNeg x))) hP1) hS1 (Cg.set hE) h1 h2 hz0
  | lastore =>
    obtain rfl : n = 1 := hn rfl
    obtain ⟨x, r, he0, h8⟩ := pJ_ex h
    clear h
    subst he0
    have h := h8
    clear h8
    obtain ⟨i, r, he0, h8⟩ := pI_ex h
    clear h
    subst he0
    have h := h8
    clear h8
    obtain ⟨o, r, he0, h8⟩ := pR_ex h
    clear h
    subst he0
    have h := h8
    clear h8
    obtain ⟨t, n', f, ho, he0, hin, h8⟩ := hJ_ex h
    clear h
    subst he0
    have h := h8
    clear h8
    intro H locs ls hl hw hS hE h1 h2 hz0
    obtain ⟨q, rfl, hq, had⟩ := hw.at ho (by simp)
    show W _ _ _ _ _ _ _ _ _ _ _ _ _ _ _ (F0 m pc ls (.long x :: .int i :: .ref (ad B b (q + 1)) :: r.map (tr B b)))
    rw [had]
    exact va_last (D := D) hx hb hK hw.2.1 (hw.D) hS q 1 hq rfl hin hd fun H1 locs1 hP1 _ hS1 => h H1 locs1 ls hl (hw.put (x := .inl (1, n', .inr (.inl (vp_updL f i.toNatClampNeg x)))) hP1) hS1 (Cg.set hE) h1 h2 hz0
  | aastore =>
    obtain rfl : n = 1 := hn rfl
    obtain ⟨x, r, he0, h8⟩ := pR_ex h
    clear h
    subst he0
    have h := h8
    clear h8
    obtain ⟨i, r, he0, h8⟩ := pI_ex h
    clear h
    subst he0
    have h := h8
    clear h8
    obtain ⟨o, r, he0, h8⟩ := pR_ex h
    clear h
    subst he0
    have h := h8
    clear h8
    obtain ⟨t, n', f, ho, h⟩ := hQ_ex h
    obtain ⟨ci, vs, hox, ht, hin, h⟩ := hO_ex h
    intro H locs ls hl hw hS hE h1 h2 hz0
    obtain ⟨q, rfl, hq, had⟩ := hw.at ho (by simp)
    obtain ⟨qx, rfl, hqx, hadx⟩ := hw.at hox (by simp)
    show W _ _ _ _ _ _ _ _ _ _ _ _ _ _ _ (F0 m pc ls (.ref (ad B b (qx + 1)) :: .int i :: .ref (ad B b (q + 1)) :: r.map (tr B b)))
    have e1 : cv ca B b (.inl (t, n', .inr (.inr (.inr (.inr (va_up f i.toNatClampNeg (some (qx + 1)))))))) = .inl (ca t, n', .inr (.inr (.inr (.inr (va_up (fun j => (f j).map (ad B b)) i.toNatClampNeg (some (ad B b (qx + 1)))))))) := by
      simp only [cv]
      congr 7
      funext j
      unfold va_up
      split <;> rfl
    rw [had]
    rw [hadx] at e1 ⊢
    have kk : ∀ (H1 : Heap) (locs1 : List Loc), va_P D vwCl ((wof ca B b g.2).set q (B.2 q, .inl (ca t, n', .inr (.inr (.inr (.inr (va_up (fun j => (f j).map (ad B b)) i.toNatClampNeg (some (B.2 qx))))))))) H1 → va_D (AB B.1) ((wof ca B b g.2).set q (B.2 q, .inl (ca t, n', .inr (.inr (.inr (.inr (va_up (fun j => (f j).map (ad B b)) i.toNatClampNeg (some (B.2 qx))))))))) → va_S (AB B.1) s.heap H1 locs1 → W p l e R s m args below meth c H1 locs1 (uc ge u g.1) (us ge u g.1) QQ (F0 m (pc + 1) ls (r.map (tr B b))) := by
      intro H1 locs1 hP1 _ hS1
      rw [← e1] at hP1
      exact h H1 locs1 ls hl (hw.put hP1) hS1 (Cg.set hE) h1 h2 hz0
    rcases ht with ⟨rfl, rfl⟩ | ⟨rfl, rfl⟩
    · exact va_astq (D := D) (r := (Rn 5, TXf 5, nf 5)) hx hb hK hw.2.1 (hw.D) hS q 3 qx 5 hq rfl hqx rfl hin hd kk
    · exact va_astq (D := D) (r := (Rn 7, TXf 7, nf 7)) hx hb hK hw.2.1 (hw.D) hS q 4 qx 7 hq rfl hqx rfl hin hd kk
  | arraylength =>
    obtain rfl : n = 1 := hn rfl
    obtain ⟨o, r, he0, h8⟩ := pR_ex h
    clear h
    subst he0
    have h := h8
    clear h8
    obtain ⟨t, n', f, ho, ht, h⟩ := hA_ex h
    intro H locs ls hl hw hS hE h1 h2 hz0
    have h3 := h H locs ls hl hw hS hE h1 h2 hz0
    show W _ _ _ _ _ _ _ _ _ _ _ _ _ _ _ (F0 m pc ls (.ref (ad B b o) :: r.map (tr B b)))
    rcases hw.script (o := o) with ⟨rfl, hs0⟩ | ⟨q, rfl⟩
    · rw [hs0] at ho
      cases ho
      rw [ad_zero]
      exact va_slen (A := AB B.1) hx hb hX (Nat.lt_of_lt_of_le hbB hBs) (Nat.not_le.mpr hbB) hS hd h3
    · have ht : t < 5 := ht.resolve_right (Nat.succ_ne_zero q)
      obtain ⟨q', e1, hq, had⟩ := hw.at ho (by intro e9; cases e9; omega)
      rw [had]
      have hcv : ∃ x : vp_A, x.1 = n' ∧ cv ca B b (.inl (t, n', f)) = .inl (ca t, x) := by
        rcases f with f | f | f | f | f <;> exact ⟨_, rfl, rfl⟩
      obtain ⟨x, hx1, hx2⟩ := hcv
      rw [hx2] at hq
      subst hx1
      match t, ht with
      | 0, _ => exact va_alen (D := D) hx hb hK hw.2.1 q' 0 hq rfl rfl hd h3
      | 1, _ => exact va_alen (D := D) hx hb hK hw.2.1 q' 1 hq rfl rfl hd h3
      | 2, _ => exact va_alen (D := D) hx hb hK hw.2.1 q' 2 hq rfl rfl hd h3
      | 3, _ => exact va_alen (D := D) hx hb hK hw.2.1 q' 3 hq rfl rfl hd h3
      | 4, _ => exact va_alen (D := D) hx hb hK hw.2.1 q' 4 hq rfl rfl hd h3
  | _ => first | exact False.elim h | exact absurd hg (by simp [grp])
end SND2
