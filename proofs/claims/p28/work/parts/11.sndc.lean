/-! ===== from the interpreter to the machine, 3: the instructions without heap and call (by program, wip/whole/gsnd.py) ===== -/
def grp (i : Instr) : Nat := match i with
  | .getfield _ | .putfield _ | .iaload | .baload | .laload | .aaload | .iastore | .bastore | .lastore | .aastore | .arraylength => 1
  | .new _ | .newarray _ | .anewarray _ => 2
  | .invokevirtual _ | .invokestatic _ | .invokespecial _ => 3
  | .ireturn | .lreturn | .dreturn | .areturn | .return_ => 4
  | _ => 0
def jOk (pc : Nat) (i : Instr) : Bool := match i with
  | .goto o => tgOk pc o
  | .ifCond _ o => tgOk pc o
  | .if_icmp _ o => tgOk pc o
  | .ifnull o => tgOk pc o
  | .tableswitch d _ _ offs => tgOk pc d && offs.all (tgOk pc)
  | _ => true
theorem tg_eq {pc : Nat} {o : Int} (h : tgOk pc o = true) : (pc : Int) + o = (tg pc o : Int) := by
  unfold tgOk at h
  have h1 : 0 ≤ (pc : Int) + o := of_decide_eq_true h
  unfold tg
  exact (Int.toNat_of_nonneg h1).symm
theorem if_t {b : Prop} [Decidable b] {x y : Prop} (h : if b then x else y) (hb : b) : x := by rwa [if_pos hb] at h
theorem if_f {b : Prop} [Decidable b] {x y : Prop} (h : if b then x else y) (hb : ¬ b) : y := by rwa [if_neg hb] at h
section SND1
variable {k ge w : Nat} {p : Program} {l : Launch} {e : Env} {R : Room} {s : State} {m : MethodId} {args : Array Value} {below : List Frame} {meth : Method} {c : Code} {D : va_G} {ca : Nat → ClassId} {B : AM} {b Ln : Nat} {xs : Nat → Int32} {d : Nat} {QQ : State → Prop}
variable {C : CT} {Q : Post} {pc n a9 b9 c9 : Nat} {L : Lc} {st : List Value} {u : Nat × Nat} {g : Gp}

set_option maxHeartbeats 4000000 in
theorem xs_simple {i : Instr} (F : FrC k w p R s m args meth c D ca B b Ln xs d) (hd : decode (mB k) pc = .ok (i, n)) (hn : isTS i = false → n = ilen i) (hj : jOk pc i = true) (hll : ∀ x, i = .ldc2_w x → Cond.constantLong (Rn (own k)) x (lcv a9) ∈ GW) (hic : ∀ x, i = .ldc x → Cond.constant (Rn (own k)) x (icv a9) ∈ GW) (hg : grp i = 0) (h : st1 C k Q (XS k ge p l e R s m args below meth c D ca B b Ln xs QQ) pc i n a9 b9 c9 L st u g) : XS k ge p l e R s m args below meth c D ca B b Ln xs QQ pc L st u g := by
  obtain ⟨hx, hb, hml, hown, hts, hSF, hbB, hBs, hX, hR1, hR2, hR3, hR4, hnm⟩ := F
  cases i with
  | iload_n j =>
    obtain rfl : n = 1 := hn rfl
    obtain ⟨x, hk, h⟩ := lI_ex h
    intro H locs ls hl hw hS hE h1 h2 hz0
    exact lv_iload_n hx hb hd rfl (hl.2.2 _ _ hk) (h H locs ls hl hw hS hE h1 h2 hz0)
  | iload j =>
    obtain rfl : n = 2 := hn rfl
    obtain ⟨x, hk, h⟩ := lI_ex h
    intro H locs ls hl hw hS hE h1 h2 hz0
    exact lv_iload hx hb hd (hl.2.2 _ _ hk) (h H locs ls hl hw hS hE h1 h2 hz0)
  | lload_n j =>
    obtain rfl : n = 1 := hn rfl
    obtain ⟨x, hk, h⟩ := lJ_ex h
    intro H locs ls hl hw hS hE h1 h2 hz0
    exact lv_lload_n hx hb hd rfl (hl.2.2 _ _ hk) (h H locs ls hl hw hS hE h1 h2 hz0)
  | lload j =>
    obtain rfl : n = 2 := hn rfl
    obtain ⟨x, hk, h⟩ := lJ_ex h
    intro H locs ls hl hw hS hE h1 h2 hz0
    exact lv_lload hx hb hd (hl.2.2 _ _ hk) (h H locs ls hl hw hS hE h1 h2 hz0)
  | aload_n j =>
    obtain rfl : n = 1 := hn rfl
    obtain ⟨x, hk, h⟩ := lR_ex h
    intro H locs ls hl hw hS hE h1 h2 hz0
    exact lv_aload_n hx hb hd rfl (hl.2.2 _ _ hk) (h H locs ls hl hw hS hE h1 h2 hz0)
  | aload j =>
    obtain rfl : n = 2 := hn rfl
    obtain ⟨x, hk, h⟩ := lR_ex h
    intro H locs ls hl hw hS hE h1 h2 hz0
    exact lv_aload hx hb hd (hl.2.2 _ _ hk) (h H locs ls hl hw hS hE h1 h2 hz0)
  | dload j =>
    obtain rfl : n = 2 := hn rfl
    obtain ⟨x, hk, h⟩ := lD_ex h
    intro H locs ls hl hw hS hE h1 h2 hz0
    exact lv_dload hx hb hd (hl.2.2 _ _ hk) (h H locs ls hl hw hS hE h1 h2 hz0)
  | istore_n j =>
    obtain rfl : n = 1 := hn rfl
    obtain ⟨x, r, he0, hj, h8⟩ := pI_ex h
    clear h
    subst he0
    have h := h8
    clear h8
    intro H locs ls hl hw hS hE h1 h2 hz0
    exact lv_istore_n hx hb hd rfl hl.has hj rfl (fun ls1 hl1 => h H locs ls1 (LH.of1 (v := .int x) hl1) hw hS hE h1 h2 hz0)
  | istore j =>
    obtain rfl : n = 2 := hn rfl
    obtain ⟨x, r, he0, hj, h8⟩ := pI_ex h
    clear h
    subst he0
    have h := h8
    clear h8
    intro H locs ls hl hw hS hE h1 h2 hz0
    exact lv_istore hx hb hd hl.has hj rfl (fun ls1 hl1 => h H locs ls1 (LH.of1 (v := .int x) hl1) hw hS hE h1 h2 hz0)
  | lstore_n j =>
    obtain rfl : n = 1 := hn rfl
    obtain ⟨x, r, he0, hj, h8⟩ := pJ_ex h
    clear h
    subst he0
    have h := h8
    clear h8
    intro H locs ls hl hw hS hE h1 h2 hz0
    exact lv_lstore_n hx hb hd rfl hl.has hj rfl (fun ls1 hl1 => h H locs ls1 (LH.of2 (v := .long x) hl1) hw hS hE h1 h2 hz0)
  | lstore j =>
    obtain rfl : n = 2 := hn rfl
    obtain ⟨x, r, he0, hj, h8⟩ := pJ_ex h
    clear h
    subst he0
    have h := h8
    clear h8
    intro H locs ls hl hw hS hE h1 h2 hz0
    exact lv_lstore hx hb hd hl.has hj rfl (fun ls1 hl1 => h H locs ls1 (LH.of2 (v := .long x) hl1) hw hS hE h1 h2 hz0)
  | astore_n j =>
    obtain rfl : n = 1 := hn rfl
    obtain ⟨x, r, he0, hj, h8⟩ := pR_ex h
    clear h
    subst he0
    have h := h8
    clear h8
    intro H locs ls hl hw hS hE h1 h2 hz0
    exact lv_astore_n hx hb hd rfl hl.has hj rfl (fun ls1 hl1 => h H locs ls1 (LH.of1 (v := .ref x) hl1) hw hS hE h1 h2 hz0)
  | astore j =>
    obtain rfl : n = 2 := hn rfl
    obtain ⟨x, r, he0, hj, h8⟩ := pR_ex h
    clear h
    subst he0
    have h := h8
    clear h8
    intro H locs ls hl hw hS hE h1 h2 hz0
    exact lv_astore hx hb hd hl.has hj rfl (fun ls1 hl1 => h H locs ls1 (LH.of1 (v := .ref x) hl1) hw hS hE h1 h2 hz0)
  | dstore j =>
    obtain rfl : n = 2 := hn rfl
    obtain ⟨x, r, he0, hj, h8⟩ := pD_ex h
    clear h
    subst he0
    have h := h8
    clear h8
    intro H locs ls hl hw hS hE h1 h2 hz0
    exact lv_dstore hx hb hd hl.has hj rfl (fun ls1 hl1 => h H locs ls1 (LH.of2 (v := .double x) hl1) hw hS hE h1 h2 hz0)
  | iinc j dl =>
    obtain rfl : n = 3 := hn rfl
    obtain ⟨x, hk, hj, h⟩ := lI_ex h
    intro H locs ls hl hw hS hE h1 h2 hz0
    obtain ⟨q, hq⟩ := List.getElem?_of_mem (lvl_mem (B := B) (b := b) hk)
    exact lv_iinc hx hb hd hl.has hq rfl hj rfl (fun ls1 hl1 => h H locs ls1 (LH.of1 (v := .int (x + Int32.ofInt dl)) hl1) hw hS hE h1 h2 hz0)
  | iconst dl =>
    obtain rfl : n = 1 := hn rfl
    intro H locs ls hl hw hS hE h1 h2 hz0
    exact lv_iconst hx hb hd rfl (h H locs ls hl hw hS hE h1 h2 hz0)
  | bipush dl =>
    obtain rfl : n = 2 := hn rfl
    intro H locs ls hl hw hS hE h1 h2 hz0
    exact lv_bipush hx hb hd rfl (h H locs ls hl hw hS hE h1 h2 hz0)
  | sipush dl =>
    obtain rfl : n = 3 := hn rfl
    intro H locs ls hl hw hS hE h1 h2 hz0
    exact lv_sipush hx hb hd rfl (h H locs ls hl hw hS hE h1 h2 hz0)
  | lconst dl =>
    obtain rfl : n = 1 := hn rfl
    intro H locs ls hl hw hS hE h1 h2 hz0
    exact lv_lconst hx hb hd rfl (h H locs ls hl hw hS hE h1 h2 hz0)
  | ldc2_w x =>
    obtain rfl : n = 3 := hn rfl
    intro H locs ls hl hw hS hE h1 h2 hz0
    exact lv_ldc2 hx hb hown (hts _ (hll x rfl)) hd (h H locs ls hl hw hS hE h1 h2 hz0)
  | dconst dl =>
    obtain rfl : n = 1 := hn rfl
    change (if dl = 1 then _ else _) at h
    split at h
    · rename_i e1
      subst e1
      intro H locs ls hl hw hS hE h1 h2 hz0
      exact lv_dconst1 hx hb hd (h H locs ls hl hw hS hE h1 h2 hz0)
    · split at h
      · rename_i e1
        subst e1
        intro H locs ls hl hw hS hE h1 h2 hz0
        exact lv_dconst0 hx hb hd (h H locs ls hl hw hS hE h1 h2 hz0)
      · exact h.elim
  | ldc x =>
    obtain rfl : n = 2 := hn rfl
    intro H locs ls hl hw hS hE h1 h2 hz0
    exact lv_ldc hx hb hown (hts _ (hic x rfl)) hd (h H locs ls hl hw hS hE h1 h2 hz0)
  | ineg =>
    obtain rfl : n = 1 := hn rfl
    obtain ⟨x, r, he0, h8⟩ := pI_ex h
    clear h
    subst he0
    have h := h8
    clear h8
    intro H locs ls hl hw hS hE h1 h2 hz0
    exact lv_ineg hx hb hd (h H locs ls hl hw hS hE h1 h2 hz0)
  | ixor =>
    obtain rfl : n = 1 := hn rfl
    obtain ⟨y, r, he0, h8⟩ := pI_ex h
    clear h
    subst he0
    have h := h8
    clear h8
    obtain ⟨x, r, he0, h8⟩ := pI_ex h
    clear h
    subst he0
    have h := h8
    clear h8
    intro H locs ls hl hw hS hE h1 h2 hz0
    exact lv_ixor hx hb hd (h H locs ls hl hw hS hE h1 h2 hz0)
  | ishr =>
    obtain rfl : n = 1 := hn rfl
    obtain ⟨y, r, he0, h8⟩ := pI_ex h
    clear h
    subst he0
    have h := h8
    clear h8
    obtain ⟨x, r, he0, h8⟩ := pI_ex h
    clear h
    subst he0
    have h := h8
    clear h8
    intro H locs ls hl hw hS hE h1 h2 hz0
    exact lv_ishr hx hb hd (h H locs ls hl hw hS hE h1 h2 hz0)
  | iushr =>
    obtain rfl : n = 1 := hn rfl
    obtain ⟨y, r, he0, h8⟩ := pI_ex h
    clear h
    subst he0
    have h := h8
    clear h8
    obtain ⟨x, r, he0, h8⟩ := pI_ex h
    clear h
    subst he0
    have h := h8
    clear h8
    intro H locs ls hl hw hS hE h1 h2 hz0
    exact lv_iushr hx hb hd rfl (h H locs ls hl hw hS hE h1 h2 hz0)
  | aconst_null =>
    obtain rfl : n = 1 := hn rfl
    intro H locs ls hl hw hS hE h1 h2 hz0
    exact lv_null hx hb hd (h H locs ls hl hw hS hE h1 h2 hz0)
  | iadd =>
    obtain rfl : n = 1 := hn rfl
    obtain ⟨y, r, he0, h8⟩ := pI_ex h
    clear h
    subst he0
    have h := h8
    clear h8
    obtain ⟨x, r, he0, h8⟩ := pI_ex h
    clear h
    subst he0
    have h := h8
    clear h8
    intro H locs ls hl hw hS hE h1 h2 hz0
    exact lv_iadd hx hb hd (h H locs ls hl hw hS hE h1 h2 hz0)
  | isub =>
    obtain rfl : n = 1 := hn rfl
    obtain ⟨y, r, he0, h8⟩ := pI_ex h
    clear h
    subst he0
    have h := h8
    clear h8
    obtain ⟨x, r, he0, h8⟩ := pI_ex h
    clear h
    subst he0
    have h := h8
    clear h8
    intro H locs ls hl hw hS hE h1 h2 hz0
    exact lv_isub hx hb hd (h H locs ls hl hw hS hE h1 h2 hz0)
  | imul =>
    obtain rfl : n = 1 := hn rfl
    obtain ⟨y, r, he0, h8⟩ := pI_ex h
    clear h
    subst he0
    have h := h8
    clear h8
    obtain ⟨x, r, he0, h8⟩ := pI_ex h
    clear h
    subst he0
    have h := h8
    clear h8
    intro H locs ls hl hw hS hE h1 h2 hz0
    exact lv_imul hx hb hd (h H locs ls hl hw hS hE h1 h2 hz0)
  | iand =>
    obtain rfl : n = 1 := hn rfl
    obtain ⟨y, r, he0, h8⟩ := pI_ex h
    clear h
    subst he0
    have h := h8
    clear h8
    obtain ⟨x, r, he0, h8⟩ := pI_ex h
    clear h
    subst he0
    have h := h8
    clear h8
    intro H locs ls hl hw hS hE h1 h2 hz0
    exact lv_iand hx hb hd (h H locs ls hl hw hS hE h1 h2 hz0)
  | idiv =>
    obtain rfl : n = 1 := hn rfl
    obtain ⟨y, r, he0, h8⟩ := pI_ex h
    clear h
    subst he0
    have h := h8
    clear h8
    obtain ⟨x, r, he0, hne, h8⟩ := pI_ex h
    clear h
    subst he0
    have h := h8
    clear h8
    intro H locs ls hl hw hS hE h1 h2 hz0
    exact lv_idiv hx hb hd hne (h H locs ls hl hw hS hE h1 h2 hz0)
  | irem =>
    obtain rfl : n = 1 := hn rfl
    obtain ⟨y, r, he0, h8⟩ := pI_ex h
    clear h
    subst he0
    have h := h8
    clear h8
    obtain ⟨x, r, he0, hne, h8⟩ := pI_ex h
    clear h
    subst he0
    have h := h8
    clear h8
    intro H locs ls hl hw hS hE h1 h2 hz0
    exact lv_irem hx hb hd hne (h H locs ls hl hw hS hE h1 h2 hz0)
  | ladd =>
    obtain rfl : n = 1 := hn rfl
    obtain ⟨y, r, he0, h8⟩ := pJ_ex h
    clear h
    subst he0
    have h := h8
    clear h8
    obtain ⟨x, r, he0, h8⟩ := pJ_ex h
    clear h
    subst he0
    have h := h8
    clear h8
    intro H locs ls hl hw hS hE h1 h2 hz0
    exact lv_ladd hx hb hd (h H locs ls hl hw hS hE h1 h2 hz0)
  | lsub =>
    obtain rfl : n = 1 := hn rfl
    obtain ⟨y, r, he0, h8⟩ := pJ_ex h
    clear h
    subst he0
    have h := h8
    clear h8
    obtain ⟨x, r, he0, h8⟩ := pJ_ex h
    clear h
    subst he0
    have h := h8
    clear h8
    intro H locs ls hl hw hS hE h1 h2 hz0
    exact lv_lsub hx hb hd (h H locs ls hl hw hS hE h1 h2 hz0)
  | lmul =>
    obtain rfl : n = 1 := hn rfl
    obtain ⟨y, r, he0, h8⟩ := pJ_ex h
    clear h
    subst he0
    have h := h8
    clear h8
    obtain ⟨x, r, he0, h8⟩ := pJ_ex h
    clear h
    subst he0
    have h := h8
    clear h8
    intro H locs ls hl hw hS hE h1 h2 hz0
    exact lv_lmul hx hb hd (h H locs ls hl hw hS hE h1 h2 hz0)
  | land =>
    obtain rfl : n = 1 := hn rfl
    obtain ⟨y, r, he0, h8⟩ := pJ_ex h
    clear h
    subst he0
    have h := h8
    clear h8
    obtain ⟨x, r, he0, h8⟩ := pJ_ex h
    clear h
    subst he0
    have h := h8
    clear h8
    intro H locs ls hl hw hS hE h1 h2 hz0
    exact lv_land hx hb hd (h H locs ls hl hw hS hE h1 h2 hz0)
  | lor =>
    obtain rfl : n = 1 := hn rfl
    obtain ⟨y, r, he0, h8⟩ := pJ_ex h
    clear h
    subst he0
    have h := h8
    clear h8
    obtain ⟨x, r, he0, h8⟩ := pJ_ex h
    clear h
    subst he0
    have h := h8
    clear h8
    intro H locs ls hl hw hS hE h1 h2 hz0
    exact lv_lor hx hb hd (h H locs ls hl hw hS hE h1 h2 hz0)
  | lxor =>
    obtain rfl : n = 1 := hn rfl
    obtain ⟨y, r, he0, h8⟩ := pJ_ex h
    clear h
    subst he0
    have h := h8
    clear h8
    obtain ⟨x, r, he0, h8⟩ := pJ_ex h
    clear h
    subst he0
    have h := h8
    clear h8
    intro H locs ls hl hw hS hE h1 h2 hz0
    exact lv_lxor hx hb hd (h H locs ls hl hw hS hE h1 h2 hz0)
  | lneg =>
    obtain rfl : n = 1 := hn rfl
    obtain ⟨x, r, he0, h8⟩ := pJ_ex h
    clear h
    subst he0
    have h := h8
    clear h8
    intro H locs ls hl hw hS hE h1 h2 hz0
    exact lv_lneg hx hb hd (h H locs ls hl hw hS hE h1 h2 hz0)
  | lshl =>
    obtain rfl : n = 1 := hn rfl
    obtain ⟨y, r, he0, h8⟩ := pI_ex h
    clear h
    subst he0
    have h := h8
    clear h8
    obtain ⟨x, r, he0, h8⟩ := pJ_ex h
    clear h
    subst he0
    have h := h8
    clear h8
    intro H locs ls hl hw hS hE h1 h2 hz0
    exact lv_lshl hx hb hd rfl (h H locs ls hl hw hS hE h1 h2 hz0)
  | lshr =>
    obtain rfl : n = 1 := hn rfl
    obtain ⟨y, r, he0, h8⟩ := pI_ex h
    clear h
    subst he0
    have h := h8
    clear h8
    obtain ⟨x, r, he0, h8⟩ := pJ_ex h
    clear h
    subst he0
    have h := h8
    clear h8
    intro H locs ls hl hw hS hE h1 h2 hz0
    exact lv_lshr hx hb hd rfl (h H locs ls hl hw hS hE h1 h2 hz0)
  | lushr =>
    obtain rfl : n = 1 := hn rfl
    obtain ⟨y, r, he0, h8⟩ := pI_ex h
    clear h
    subst he0
    have h := h8
    clear h8
    obtain ⟨x, r, he0, h8⟩ := pJ_ex h
    clear h
    subst he0
    have h := h8
    clear h8
    intro H locs ls hl hw hS hE h1 h2 hz0
    exact lv_lushr hx hb hd rfl (h H locs ls hl hw hS hE h1 h2 hz0)
  | i2l =>
    obtain rfl : n = 1 := hn rfl
    obtain ⟨x, r, he0, h8⟩ := pI_ex h
    clear h
    subst he0
    have h := h8
    clear h8
    intro H locs ls hl hw hS hE h1 h2 hz0
    exact lv_i2l hx hb hd rfl (h H locs ls hl hw hS hE h1 h2 hz0)
  | l2i =>
    obtain rfl : n = 1 := hn rfl
    obtain ⟨x, r, he0, h8⟩ := pJ_ex h
    clear h
    subst he0
    have h := h8
    clear h8
    intro H locs ls hl hw hS hE h1 h2 hz0
    exact lv_l2i hx hb hd rfl (h H locs ls hl hw hS hE h1 h2 hz0)
  | i2d =>
    obtain rfl : n = 1 := hn rfl
    obtain ⟨x, r, he0, h8⟩ := pI_ex h
    clear h
    subst he0
    have h := h8
    clear h8
    intro H locs ls hl hw hS hE h1 h2 hz0
    exact lv_i2d hx hb hd (h H locs ls hl hw hS hE h1 h2 hz0)
  | ddiv =>
    obtain rfl : n = 1 := hn rfl
    obtain ⟨y, r, he0, h8⟩ := pD_ex h
    clear h
    subst he0
    have h := h8
    clear h8
    obtain ⟨x, r, he0, hne, h8⟩ := pD_ex h
    clear h
    subst he0
    have h := h8
    clear h8
    intro H locs ls hl hw hS hE h1 h2 hz0
    exact lv_ddiv hx hb hd hne (h H locs ls hl hw hS hE h1 h2 hz0)
  | lcmp =>
    obtain rfl : n = 1 := hn rfl
    obtain ⟨y, r, he0, h8⟩ := pJ_ex h
    clear h
    subst he0
    have h := h8
    clear h8
    obtain ⟨x, r, he0, h8⟩ := pJ_ex h
    clear h
    subst he0
    have h := h8
    clear h8
    intro H locs ls hl hw hS hE h1 h2 hz0
    exact W.lcmp hx hb hd (h H locs ls hl hw hS hE h1 h2 hz0)
  | dcmp o =>
    obtain rfl : n = 1 := hn rfl
    obtain ⟨y, r, he0, h8⟩ := pD_ex h
    clear h
    subst he0
    have h := h8
    clear h8
    obtain ⟨x, r, he0, h8⟩ := pD_ex h
    clear h
    subst he0
    have h := h8
    clear h8
    intro H locs ls hl hw hS hE h1 h2 hz0
    exact lv_dcmp hx hb hd (h H locs ls hl hw hS hE h1 h2 hz0)
  | dup =>
    obtain rfl : n = 1 := hn rfl
    obtain ⟨v, r, he0, hv, h8⟩ := pV_ex h
    clear h
    subst he0
    have h := h8
    clear h8
    intro H locs ls hl hw hS hE h1 h2 hz0
    exact lv_dup hx hb hd (by rw [tr_cat]; exact hv) (h H locs ls hl hw hS hE h1 h2 hz0)
  | dup2 =>
    obtain rfl : n = 1 := hn rfl
    obtain ⟨v, r, he0, h8⟩ := pV_ex h
    clear h
    subst he0
    have h := h8
    clear h8
    obtain ⟨w, r, he0, hv, hw9, h8⟩ := pV_ex h
    clear h
    subst he0
    have h := h8
    clear h8
    intro H locs ls hl hw hS hE h1 h2 hz0
    exact lv_dup2_11 hx hb hd (by rw [tr_cat]; exact hv) (by rw [tr_cat]; exact hw9) (h H locs ls hl hw hS hE h1 h2 hz0)
  | goto o =>
    obtain rfl : n = 3 := hn rfl
    intro H locs ls hl hw hS hE h1 h2 hz0
    exact lv_goto hx hb hd (tg_eq hj) (h H locs ls hl hw hS hE h1 h2 hz0)
  | ifCond q o =>
    obtain rfl : n = 3 := hn rfl
    obtain ⟨x, r, he0, h8⟩ := pI_ex h
    clear h
    subst he0
    have h := h8
    clear h8
    intro H locs ls hl hw hS hE h1 h2 hz0
    cases q with
    | eq => exact lv_if_eq hx hb hd (tg_eq hj) (fun e1 => (if_t h e1) H locs ls hl hw hS hE h1 h2 hz0) (fun e1 => (if_f h e1) H locs ls hl hw hS hE h1 h2 hz0)
    | ne => exact lv_if_ne hx hb hd (tg_eq hj) (fun e1 => (if_f h e1) H locs ls hl hw hS hE h1 h2 hz0) (fun e1 => (if_t h e1) H locs ls hl hw hS hE h1 h2 hz0)
    | lt => exact lv_if_lt hx hb hd (tg_eq hj) (fun e1 => (if_t h e1) H locs ls hl hw hS hE h1 h2 hz0) (fun e1 => (if_f h e1) H locs ls hl hw hS hE h1 h2 hz0)
    | ge => exact lv_if_ge hx hb hd (tg_eq hj) (fun e1 => (if_t h e1) H locs ls hl hw hS hE h1 h2 hz0) (fun e1 => (if_f h e1) H locs ls hl hw hS hE h1 h2 hz0)
    | gt => exact lv_if_gt hx hb hd (tg_eq hj) (fun e1 => (if_t h e1) H locs ls hl hw hS hE h1 h2 hz0) (fun e1 => (if_f h e1) H locs ls hl hw hS hE h1 h2 hz0)
    | le => exact lv_if_le hx hb hd (tg_eq hj) (fun e1 => (if_t h e1) H locs ls hl hw hS hE h1 h2 hz0) (fun e1 => (if_f h e1) H locs ls hl hw hS hE h1 h2 hz0)
  | if_icmp q o =>
    obtain rfl : n = 3 := hn rfl
    obtain ⟨y, r, he0, h8⟩ := pI_ex h
    clear h
    subst he0
    have h := h8
    clear h8
    obtain ⟨x, r, he0, h8⟩ := pI_ex h
    clear h
    subst he0
    have h := h8
    clear h8
    intro H locs ls hl hw hS hE h1 h2 hz0
    cases q with
    | eq => exact lv_icmp_eq hx hb hd (tg_eq hj) (fun e1 => (if_t h e1) H locs ls hl hw hS hE h1 h2 hz0) (fun e1 => (if_f h e1) H locs ls hl hw hS hE h1 h2 hz0)
    | ne => exact lv_icmp_ne hx hb hd (tg_eq hj) (fun e1 => (if_f h e1) H locs ls hl hw hS hE h1 h2 hz0) (fun e1 => (if_t h e1) H locs ls hl hw hS hE h1 h2 hz0)
    | lt => exact lv_icmp_lt hx hb hd (tg_eq hj) (fun e1 => (if_t h e1) H locs ls hl hw hS hE h1 h2 hz0) (fun e1 => (if_f h e1) H locs ls hl hw hS hE h1 h2 hz0)
    | ge => exact lv_icmp_ge hx hb hd (tg_eq hj) (fun e1 => (if_t h e1) H locs ls hl hw hS hE h1 h2 hz0) (fun e1 => (if_f h e1) H locs ls hl hw hS hE h1 h2 hz0)
    | gt => exact lv_icmp_gt hx hb hd (tg_eq hj) (fun e1 => (if_t h e1) H locs ls hl hw hS hE h1 h2 hz0) (fun e1 => (if_f h e1) H locs ls hl hw hS hE h1 h2 hz0)
    | le => exact lv_icmp_le hx hb hd (tg_eq hj) (fun e1 => (if_t h e1) H locs ls hl hw hS hE h1 h2 hz0) (fun e1 => (if_f h e1) H locs ls hl hw hS hE h1 h2 hz0)
  | ifnull o =>
    obtain rfl : n = 3 := hn rfl
    obtain ⟨v, r, he0, h8⟩ := pV_ex h
    clear h
    subst he0
    have h := h8
    clear h8
    intro H locs ls hl hw hS hE h1 h2 hz0
    cases v with
    | null => exact lv_ifnullN hx hb hd (tg_eq hj) (h H locs ls hl hw hS hE h1 h2 hz0)
    | ref x => exact lv_ifnull hx hb hd (h H locs ls hl hw hS hE h1 h2 hz0)
    | _ => exact False.elim h
  | tableswitch df lo hi offs =>
    obtain ⟨x, r, he0, h8⟩ := pI_ex h
    clear h
    subst he0
    have h := h8
    clear h8
    intro H locs ls hl hw hS hE h1 h2 hz0
    have hj' : tgOk pc df = true ∧ offs.all (tgOk pc) = true := by
      have := hj
      simp only [jOk, Bool.and_eq_true] at this
      exact this
    split at h
    · rename_i e1
      exact lv_tableOut hx hb hd e1 (tg_eq hj'.1) (h H locs ls hl hw hS hE h1 h2 hz0)
    · rename_i e1
      split at h
      · rename_i o ho
        refine lv_tableIn hx hb hd (fun q => e1 (Or.inl q)) (fun q => e1 (Or.inr q)) ho (tg_eq ?_) (h H locs ls hl hw hS hE h1 h2 hz0)
        exact (Array.all_eq_true_iff_forall_mem.mp hj'.2) o (Array.mem_of_getElem? ho)
      · exact h.elim
  | _ => first | exact False.elim h | exact absurd hg (by simp [grp])
end SND1
