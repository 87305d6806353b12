section
-- ===== PART A: goes FIRST, ahead of the names: the tables' words, and 'selects' of the private methods out of them =====
/-- a private method of a class that the tables say can be made, by its rows of tables_1 -/
def lw_okq (q : MethodName × Nat) : Prop := (q.1.cls ≠ "java/lang/invoke/MethodHandle" ∧ q.1.cls ≠ "java/lang/invoke/VarHandle") ∧ Cond.instantiable q.1.cls q.2 ∈ tables_1 ∧ Cond.privateMethod q.1 ∈ tables_1 ∧ Cond.instanceMethod q.1 ∈ tables_1
theorem lw_p0 : lw_okq (⟨"RuneBands$Bands", "forget", "()V"⟩, 13) := ⟨⟨by decide +kernel, by decide +kernel⟩, List.mem_of_getElem? (i := 102) (by decide +kernel), List.mem_of_getElem? (i := 250) (by decide +kernel), List.mem_of_getElem? (i := 251) (by decide +kernel)⟩
theorem lw_p1 : lw_okq (⟨"RuneBands$Bands", "follow", "(LRuneBands$Stone;I)V"⟩, 13) := ⟨⟨by decide +kernel, by decide +kernel⟩, List.mem_of_getElem? (i := 102) (by decide +kernel), List.mem_of_getElem? (i := 262) (by decide +kernel), List.mem_of_getElem? (i := 263) (by decide +kernel)⟩
theorem lw_p2 : lw_okq (⟨"RuneBands$Cursor", "stand", "(III)V"⟩, 3) := ⟨⟨by decide +kernel, by decide +kernel⟩, List.mem_of_getElem? (i := 108) (by decide +kernel), List.mem_of_getElem? (i := 270) (by decide +kernel), List.mem_of_getElem? (i := 271) (by decide +kernel)⟩
theorem lw_p3 : lw_okq (⟨"RuneBands$Bands", "note", "(III)V"⟩, 13) := ⟨⟨by decide +kernel, by decide +kernel⟩, List.mem_of_getElem? (i := 102) (by decide +kernel), List.mem_of_getElem? (i := 285) (by decide +kernel), List.mem_of_getElem? (i := 286) (by decide +kernel)⟩
theorem lw_p4 : lw_okq (⟨"RuneBands$Cursor", "directionBehind", "(I)I"⟩, 3) := ⟨⟨by decide +kernel, by decide +kernel⟩, List.mem_of_getElem? (i := 108) (by decide +kernel), List.mem_of_getElem? (i := 315) (by decide +kernel), List.mem_of_getElem? (i := 316) (by decide +kernel)⟩
theorem lw_p5 : lw_okq (⟨"RuneBands$Bands", "countBand", "(LRuneBands$Stone;I)V"⟩, 13) := ⟨⟨by decide +kernel, by decide +kernel⟩, List.mem_of_getElem? (i := 102) (by decide +kernel), List.mem_of_getElem? (i := 330) (by decide +kernel), List.mem_of_getElem? (i := 331) (by decide +kernel)⟩
theorem lw_p6 : lw_okq (⟨"RuneBands$Bands", "noteEntry", "([III)V"⟩, 13) := ⟨⟨by decide +kernel, by decide +kernel⟩, List.mem_of_getElem? (i := 102) (by decide +kernel), List.mem_of_getElem? (i := 346) (by decide +kernel), List.mem_of_getElem? (i := 347) (by decide +kernel)⟩
theorem lw_p7 : lw_okq (⟨"java/lang/Throwable", "fillInStackTrace", "(I)Ljava/lang/Throwable;"⟩, 6) := ⟨⟨by decide +kernel, by decide +kernel⟩, List.mem_of_getElem? (i := 429) (by decide +kernel), List.mem_of_getElem? (i := 427) (by decide +kernel), List.mem_of_getElem? (i := 428) (by decide +kernel)⟩
theorem lw_p8 : lw_okq (⟨"RuneBands$History", "stoneAt", "(I)LRuneBands$Stone;"⟩, 4) := ⟨⟨by decide +kernel, by decide +kernel⟩, List.mem_of_getElem? (i := 76) (by decide +kernel), List.mem_of_getElem? (i := 466) (by decide +kernel), List.mem_of_getElem? (i := 467) (by decide +kernel)⟩
theorem lw_p9 : lw_okq (⟨"RuneBands$History", "wordsAt", "(I)LRuneBands$Words;"⟩, 4) := ⟨⟨by decide +kernel, by decide +kernel⟩, List.mem_of_getElem? (i := 76) (by decide +kernel), List.mem_of_getElem? (i := 470) (by decide +kernel), List.mem_of_getElem? (i := 471) (by decide +kernel)⟩
theorem lw_p10 : lw_okq (⟨"RuneBands", "numberOf", "(I)I"⟩, 8) := ⟨⟨by decide +kernel, by decide +kernel⟩, List.mem_of_getElem? (i := 20) (by decide +kernel), List.mem_of_getElem? (i := 519) (by decide +kernel), List.mem_of_getElem? (i := 520) (by decide +kernel)⟩
theorem lw_p11 : lw_okq (⟨"RuneBands", "cellFact", "(II)I"⟩, 8) := ⟨⟨by decide +kernel, by decide +kernel⟩, List.mem_of_getElem? (i := 20) (by decide +kernel), List.mem_of_getElem? (i := 587) (by decide +kernel), List.mem_of_getElem? (i := 588) (by decide +kernel)⟩
theorem lw_p12 : lw_okq (⟨"RuneBands", "bandFact", "(II)I"⟩, 8) := ⟨⟨by decide +kernel, by decide +kernel⟩, List.mem_of_getElem? (i := 20) (by decide +kernel), List.mem_of_getElem? (i := 621) (by decide +kernel), List.mem_of_getElem? (i := 622) (by decide +kernel)⟩
theorem lw_p13 : lw_okq (⟨"RuneBands", "scoreOf", "(I)I"⟩, 8) := ⟨⟨by decide +kernel, by decide +kernel⟩, List.mem_of_getElem? (i := 20) (by decide +kernel), List.mem_of_getElem? (i := 648) (by decide +kernel), List.mem_of_getElem? (i := 649) (by decide +kernel)⟩
theorem lw_p14 : lw_okq (⟨"RuneBands$Reading", "takeCell", "(I)V"⟩, 3) := ⟨⟨by decide +kernel, by decide +kernel⟩, List.mem_of_getElem? (i := 215) (by decide +kernel), List.mem_of_getElem? (i := 659) (by decide +kernel), List.mem_of_getElem? (i := 660) (by decide +kernel)⟩
theorem lw_p15 : lw_okq (⟨"RuneBands$Reading", "addLetter", "(I)V"⟩, 3) := ⟨⟨by decide +kernel, by decide +kernel⟩, List.mem_of_getElem? (i := 215) (by decide +kernel), List.mem_of_getElem? (i := 664) (by decide +kernel), List.mem_of_getElem? (i := 665) (by decide +kernel)⟩
def lw_privs_1 : List (MethodName × Nat) := [(⟨"RuneBands$Bands", "forget", "()V"⟩, 13), (⟨"RuneBands$Bands", "follow", "(LRuneBands$Stone;I)V"⟩, 13), (⟨"RuneBands$Cursor", "stand", "(III)V"⟩, 3), (⟨"RuneBands$Bands", "note", "(III)V"⟩, 13), (⟨"RuneBands$Cursor", "directionBehind", "(I)I"⟩, 3), (⟨"RuneBands$Bands", "countBand", "(LRuneBands$Stone;I)V"⟩, 13), (⟨"RuneBands$Bands", "noteEntry", "([III)V"⟩, 13), (⟨"java/lang/Throwable", "fillInStackTrace", "(I)Ljava/lang/Throwable;"⟩, 6), (⟨"RuneBands$History", "stoneAt", "(I)LRuneBands$Stone;"⟩, 4), (⟨"RuneBands$History", "wordsAt", "(I)LRuneBands$Words;"⟩, 4), (⟨"RuneBands", "numberOf", "(I)I"⟩, 8), (⟨"RuneBands", "cellFact", "(II)I"⟩, 8), (⟨"RuneBands", "bandFact", "(II)I"⟩, 8), (⟨"RuneBands", "scoreOf", "(I)I"⟩, 8), (⟨"RuneBands$Reading", "takeCell", "(I)V"⟩, 3), (⟨"RuneBands$Reading", "addLetter", "(I)V"⟩, 3)]
theorem lw_r1 : ∀ q ∈ lw_privs_1, lw_okq q := List.forall_mem_cons.mpr ⟨lw_p0, List.forall_mem_cons.mpr ⟨lw_p1, List.forall_mem_cons.mpr ⟨lw_p2, List.forall_mem_cons.mpr ⟨lw_p3, List.forall_mem_cons.mpr ⟨lw_p4, List.forall_mem_cons.mpr ⟨lw_p5, List.forall_mem_cons.mpr ⟨lw_p6, List.forall_mem_cons.mpr ⟨lw_p7, List.forall_mem_cons.mpr ⟨lw_p8, List.forall_mem_cons.mpr ⟨lw_p9, List.forall_mem_cons.mpr ⟨lw_p10, List.forall_mem_cons.mpr ⟨lw_p11, List.forall_mem_cons.mpr ⟨lw_p12, List.forall_mem_cons.mpr ⟨lw_p13, List.forall_mem_cons.mpr ⟨lw_p14, List.forall_mem_cons.mpr ⟨lw_p15, fun _ h => absurd h List.not_mem_nil⟩⟩⟩⟩⟩⟩⟩⟩⟩⟩⟩⟩⟩⟩⟩⟩
theorem lw_p16 : lw_okq (⟨"RuneBands$Reading", "add", "(I)V"⟩, 3) := ⟨⟨by decide +kernel, by decide +kernel⟩, List.mem_of_getElem? (i := 215) (by decide +kernel), List.mem_of_getElem? (i := 668) (by decide +kernel), List.mem_of_getElem? (i := 669) (by decide +kernel)⟩
theorem lw_p17 : lw_okq (⟨"RuneBands$Words", "stands", "(I[II)Z"⟩, 3) := ⟨⟨by decide +kernel, by decide +kernel⟩, List.mem_of_getElem? (i := 59) (by decide +kernel), List.mem_of_getElem? (i := 684) (by decide +kernel), List.mem_of_getElem? (i := 685) (by decide +kernel)⟩
theorem lw_p18 : lw_okq (⟨"RuneBands$Words", "byteAt", "(II)I"⟩, 3) := ⟨⟨by decide +kernel, by decide +kernel⟩, List.mem_of_getElem? (i := 59) (by decide +kernel), List.mem_of_getElem? (i := 688) (by decide +kernel), List.mem_of_getElem? (i := 689) (by decide +kernel)⟩
theorem lw_p19 : lw_okq (⟨"RuneBands", "saveState", "()V"⟩, 8) := ⟨⟨by decide +kernel, by decide +kernel⟩, List.mem_of_getElem? (i := 20) (by decide +kernel), List.mem_of_getElem? (i := 722) (by decide +kernel), List.mem_of_getElem? (i := 723) (by decide +kernel)⟩
theorem lw_p20 : lw_okq (⟨"RuneBands$Search", "takeBands", "(LRuneBands$Bands;)V"⟩, 12) := ⟨⟨by decide +kernel, by decide +kernel⟩, List.mem_of_getElem? (i := 168) (by decide +kernel), List.mem_of_getElem? (i := 808) (by decide +kernel), List.mem_of_getElem? (i := 809) (by decide +kernel)⟩
theorem lw_p21 : lw_okq (⟨"RuneBands$Search", "pairBands", "(LRuneBands$Bands;)V"⟩, 12) := ⟨⟨by decide +kernel, by decide +kernel⟩, List.mem_of_getElem? (i := 168) (by decide +kernel), List.mem_of_getElem? (i := 819) (by decide +kernel), List.mem_of_getElem? (i := 820) (by decide +kernel)⟩
theorem lw_p22 : lw_okq (⟨"RuneBands$Search", "keepChoice", "(I)V"⟩, 12) := ⟨⟨by decide +kernel, by decide +kernel⟩, List.mem_of_getElem? (i := 168) (by decide +kernel), List.mem_of_getElem? (i := 832) (by decide +kernel), List.mem_of_getElem? (i := 833) (by decide +kernel)⟩
theorem lw_p23 : lw_okq (⟨"RuneBands$Search", "isOver", "()Z"⟩, 12) := ⟨⟨by decide +kernel, by decide +kernel⟩, List.mem_of_getElem? (i := 168) (by decide +kernel), List.mem_of_getElem? (i := 838) (by decide +kernel), List.mem_of_getElem? (i := 839) (by decide +kernel)⟩
theorem lw_p24 : lw_okq (⟨"RuneBands", "repairOf", "(I)I"⟩, 8) := ⟨⟨by decide +kernel, by decide +kernel⟩, List.mem_of_getElem? (i := 20) (by decide +kernel), List.mem_of_getElem? (i := 933) (by decide +kernel), List.mem_of_getElem? (i := 934) (by decide +kernel)⟩
theorem lw_p25 : lw_okq (⟨"RuneBands", "hasChoiceWith", "(II)Z"⟩, 8) := ⟨⟨by decide +kernel, by decide +kernel⟩, List.mem_of_getElem? (i := 20) (by decide +kernel), List.mem_of_getElem? (i := 937) (by decide +kernel), List.mem_of_getElem? (i := 938) (by decide +kernel)⟩
def lw_privs_2 : List (MethodName × Nat) := [(⟨"RuneBands$Reading", "add", "(I)V"⟩, 3), (⟨"RuneBands$Words", "stands", "(I[II)Z"⟩, 3), (⟨"RuneBands$Words", "byteAt", "(II)I"⟩, 3), (⟨"RuneBands", "saveState", "()V"⟩, 8), (⟨"RuneBands$Search", "takeBands", "(LRuneBands$Bands;)V"⟩, 12), (⟨"RuneBands$Search", "pairBands", "(LRuneBands$Bands;)V"⟩, 12), (⟨"RuneBands$Search", "keepChoice", "(I)V"⟩, 12), (⟨"RuneBands$Search", "isOver", "()Z"⟩, 12), (⟨"RuneBands", "repairOf", "(I)I"⟩, 8), (⟨"RuneBands", "hasChoiceWith", "(II)Z"⟩, 8)]
theorem lw_r2 : ∀ q ∈ lw_privs_2, lw_okq q := List.forall_mem_cons.mpr ⟨lw_p16, List.forall_mem_cons.mpr ⟨lw_p17, List.forall_mem_cons.mpr ⟨lw_p18, List.forall_mem_cons.mpr ⟨lw_p19, List.forall_mem_cons.mpr ⟨lw_p20, List.forall_mem_cons.mpr ⟨lw_p21, List.forall_mem_cons.mpr ⟨lw_p22, List.forall_mem_cons.mpr ⟨lw_p23, List.forall_mem_cons.mpr ⟨lw_p24, List.forall_mem_cons.mpr ⟨lw_p25, fun _ h => absurd h List.not_mem_nil⟩⟩⟩⟩⟩⟩⟩⟩⟩⟩
def lw_privs : List (MethodName × Nat) := lw_privs_1 ++ (lw_privs_2)
def lw_tbl : List Cond := k2_sels lw_privs ++ tables_1
theorem lw_privs_ok : ∀ q ∈ lw_privs, lw_okq q := by
  show ∀ q ∈ lw_privs_1 ++ (lw_privs_2), lw_okq q
  exact List.forall_mem_append.mpr ⟨lw_r1, lw_r2⟩
/-- the streams that the claim lets the run draw from -/
abbrev lw_cs : List Choice := [Jvm.Choice.named "NaN.bits"]
theorem lw_bits : nanBits ∈ lw_cs := by first | decide | exact List.mem_cons_self | simp [lw_cs, nanBits]
-- ===== end of PART A; then your names; then what follows =====
end
section
/-! ===== BEGIN words of one list among another's, by their places ===== -/
theorem goodIn_r {big : List Cond} (ws : List Cond) (ps : List Nat) (hp : ws = ps.filterMap (fun i => big[i]?)) (h : ws.all goodWord = true) : GoodIn big ws := by
  intro w hw
  have h1 := List.all_eq_true.mp h w hw
  rw [hp] at hw
  obtain ⟨i, -, hi⟩ := List.mem_filterMap.mp hw
  have hm : w ∈ big := by first | exact List.mem_of_getElem? hi | exact List.getElem?_mem hi
  exact ⟨hm, good_of_word h1⟩
theorem goodIn_app {big a b : List Cond} (ha : GoodIn big a) (hb : GoodIn big b) : GoodIn big (a ++ b) := fun w h => (List.mem_append.mp h).elim (ha w) (hb w)
theorem goodIn_ca {big a b : List Cond} {c : Cond} (ha : GoodIn big (c :: a)) (hb : GoodIn big b) : GoodIn big (c :: (a ++ b)) := fun w h => (List.mem_cons.mp h).elim (fun e => ha w (List.mem_cons.mpr (Or.inl e))) (fun h => (List.mem_append.mp h).elim (fun h => ha w (List.mem_cons.mpr (Or.inr h))) (hb w))
theorem goodIn_sub {big ws : List Cond} (hm : ∀ w ∈ ws, w ∈ big) (h : ws.all goodWord = true) : GoodIn big ws := fun w hw => ⟨hm w hw, good_of_word (List.all_eq_true.mp h w hw)⟩
/-! ===== END ===== -/

/-! ===== BEGIN exceptions that leave a method, and their catching by the caller (launches without stack traces) ===== -/
section VXA
/-! The laws vx_back, vx_callV, vx_callS, vx_callSW, vx_throw0, vx_throwS follow proofs of the library, with one case more: JvmDerived/Free/Laws.lean (Back.of_free), Shelf42/LK1.lean (callV, callS), Shelf/KitTraced.lean (throwNew0V, throwNewS). -/
/-- where a method has thrown q: the class by its name, the cell, what was written, the world -/
def vx_T (XC : String → State → State → Prop) (st : State) (q : Addr) (t : State) (mc ms : Nat) (free : Addr → Prop) : Prop :=
  ∃ (E : String) (ce : Cell) (L : List Loc), XC E st t ∧ t.heap[q]? = some ce ∧ ce.vm = .none ∧ st.vm.findClass E = some ce.cls ∧ st.WarmedH t.vm ∧ st.sameButNew ({ t with vm := st.vm } : State) L mc ms ∧ ∀ z ∈ L, free z.base
def vx_Q (Qc : Array Value → State → Outcome → State → Prop) (XC : String → State → State → Prop) (mc ms : Nat) (free : Addr → Prop) : Array Value → State → Outcome → State → Prop := fun a st o t =>
  (Qc a st o t ∧ ∃ L, FrameEnd st o t L mc ms ∧ ∀ q ∈ L, free q.base) ∨ ∃ q, o = .threw q ∧ vx_T XC st q t mc ms free
/-- a callee that returns or throws -/
def vx_Met (l : Launch) (y : MethodName) (ws : List Cond) (rm : Room) (Pc : Array Value → State → Prop) (Qc : Array Value → State → Outcome → State → Prop) (XC : String → State → State → Prop) (mc ms : Nat) (free : Addr → Prop) : Prop :=
  MetFree l y (headSpec ws rm) Pc (fun _ _ _ _ _ => True) (vx_Q Qc XC mc ms free)
def vx_Post (XC : String → State → State → Prop) (mc ms : Nat) (free : Addr → Prop) : Pt → Array Value → Addr → Pt → Prop := fun A a q B =>
  ∃ (g : JFrame) (mk : MethodId) (t : State) (L : List Loc) (E : String) (ce : Cell), B.U.heap = t.heap ∧ B.U.vm = t.vm ∧ XC E (A.U.calling g mk a) t ∧ t.heap[q]? = some ce ∧ ce.vm = .none ∧ A.U.vm.findClass E = some ce.cls ∧ B.locs = A.locs ++ L ∧ (∀ z ∈ L, free z.base) ∧ B.cells = A.cells + mc ∧ B.slots = A.slots + ms
def vx_Back (l : Launch) (R : Room) (p : Program) (e : Env) (below : List Frame) (s : State) (sargs : Array Value) (y : MethodName) (len W9 : Nat)
    (Pre : Pt → Array Value → Prop) (Post : Pt → Array Value → Option Value → Pt → Prop) (PostX : Pt → Array Value → Addr → Pt → Prop) : Prop :=
  ∀ (m : MethodId) (meth : Method) (c : Code) (A : Pt) (g : JFrame) (ig : Instr) (mk : MethodId) (a : Array Value),
    Stand p l e R s m sargs below meth c A.U A.locs A.cells A.slots → g.method = m → g.locals.size = c.maxLocals → decode c.code g.pc = .ok (ig, len) →
    2 * g.monitorRoom + (g.stack.map fun v => v.category).sum ≤ W9 → A.U.methodNamed? y = some mk → Pre A a →
    (∃ (v : Option Value) (B : Pt), Stand p l e R s m sargs below meth c B.U B.locs B.cells B.slots ∧ Post A a v B ∧
      Steps p.tables e below (doInvoke e (A.U.setTop g) [] mk a).1 (B.U.setTop { g with pc := g.pc + len, stack := v.toList ++ g.stack })) ∨
    (∃ (q : Addr) (B : Pt), Stand p l e R s m sargs below meth c B.U B.locs B.cells B.slots ∧ PostX A a q B ∧
      Steps p.tables e below (doInvoke e (A.U.setTop g) [] mk a).1 ((B.U.setTop g).pushFrame (.throwing q)))
section Payer
variable {l : Launch} {R : Room} {p : Program} {e : Env} {below : List Frame} {s : State} {sargs : Array Value} {y : MethodName} {len W9 : Nat}
theorem vx_back {ws : List Cond} {rm : Room} {Pc : Array Value → State → Prop} {Qc : Array Value → State → Outcome → State → Prop} {XC : String → State → State → Prop} {mc ms : Nat} {free : Addr → Prop} {bytes : ByteArray} {maxL : Nat} {ret : Option FieldType}
    (hM : vx_Met l y ws rm Pc Qc XC mc ms free) (hblind : FrameBlind Pc) (hrc : rm.cells = mc) (hrs : rm.slots = ms)
    (hframes : rm.frames + 1 ≤ R.frames) (hlocals : W9 + (maxL + 11) + rm.locals ≤ R.locals)
    (hws : ∀ w ∈ ws, ∀ a' U, s.WarmedH U.vm → w.before a' U = true) (hcode : Cond.code y bytes maxL ret ∈ ws) (hinit : ∀ a' U, s.WarmedH U.vm → (Cond.initialized y.cls).before a' U = true) :
    vx_Back l R p e below s sargs y len W9 (PreOf R mc ms Pc) (PostOf Qc mc ms free) (vx_Post XC mc ms free) := by
  intro m meth c A g ig mk a X hg hsize hdg hW hn hp
  have h1 : (headSpec ws rm).pre.before a A.U = true := atoms_intro fun w hw => hws w hw _ _ X.warmed
  have h2 : (Cond.code y bytes maxL ret).before a A.U = true := hws _ hcode _ _ X.warmed
  have h3 : (Cond.initialized y.cls).before a A.U = true := hinit _ _ X.warmed
  have h4 : A.cells + (headSpec ws rm).room.cells ≤ R.cells := by rw [show (headSpec ws rm).room.cells = mc from hrc]; exact hp.1
  have h5 : A.slots + (headSpec ws rm).room.slots ≤ R.slots := by rw [show (headSpec ws rm).room.slots = ms from hrs]; exact hp.2.1
  have hPc : Pc a (A.U.calling g mk a) := hblind _ _ _ _ hp.2.2
  obtain ⟨U, Ls, c0, s0⟩ := A
  dsimp only [Pt.U, Pt.locs, Pt.cells, Pt.slots] at h1 h2 h3 h4 h5 X hn hPc ⊢
  obtain ⟨methY, cY, hmY, hcY, -, hlY, -, -, -, -⟩ := Cond.code_spec hn h2
  obtain ⟨kY, hkY, -⟩ := className_of_methodNamed hn
  have hinitY : kY.init = .initialized := Cond.initialized_spec (findClass_of_methodNamed hn) hkY h3
  have h : At U g.method c below := by rw [hg]; exact X.here
  have hlocals9 : W9 + (maxL + 11) + (headSpec ws rm).room.locals ≤ R.locals := hlocals
  have happ : (headSpec ws rm).appliesLoose y e.platform (U.calling g mk a) = true :=
    Spec.appliesLoose_calling (g := g) h hdg hn hkY hinitY
      (X.room_calling (g := g) (R' := (headSpec ws rm).room) hsize hmY hcY hframes (by rw [hlY]; omega) h4 h5) h1
  obtain ⟨mid, hmid⟩ := h.above
  have hfr : (U.setTop g).frames = (.java g :: mid) ++ below := by rw [State.frames_setTop' g h.top, hmid]; rfl
  obtain ⟨o, s₂, hsteps, -, hend, hq⟩ := Steps.callFree hM p X.admits X.cas X.clock (acts := []) hfr happ hPc trivial
  have hq' : vx_Q Qc XC mc ms free a (U.calling g mk a) o s₂ := hq
  rw [State.frames_setTop' g h.top] at hend
  obtain ⟨g₀, hg0⟩ := Option.isSome_iff_exists.mp h.top
  obtain ⟨r, hr⟩ := State.topJava?_eq_some.mp hg0
  have hr' : (({ U with heap := s₂.heap, slotsUsed := s₂.slotsUsed } : State).setVm s₂.vm).frames = .java g₀ :: r := hr
  rcases hq' with ⟨hqc, L, hfe, hL⟩ | ⟨q, rfl, E, ce, L, hx, hce, hcv, hcl, hW₂, hsm, hL⟩
  · obtain ⟨⟨v, rfl⟩, hW₂, e2, q2, q3, q4, q5, q6⟩ := id hfe
    have e3 : s₂ = ({ (U.calling g mk a).setFrames s₂.frames with heap := s₂.heap, slotsUsed := s₂.slotsUsed } : State).setVm s₂.vm := by
      have : s₂ = ({ s₂ with vm := (U.calling g mk a).vm } : State).setVm s₂.vm := rfl
      rw [e2] at this
      exact this
    obtain ⟨c₂, i₂, len₂, hc₂, hd₂, hf₂⟩ := hend
    have hW' : U.WarmedH s₂.vm := hW₂
    have hcc : c₂ = c := by
      have h1 : s₂.code? g.method = U.code? g.method := by
        rw [State.code?_eq, State.code?_eq, hW'.alike.method?]
      exact Option.some.inj (hc₂.symm.trans (h1.trans h.code))
    subst hcc
    have hlen : len₂ = len := by rw [hdg] at hd₂; cases hd₂; rfl
    subst hlen
    have hs₂ : s₂ = (({ U with heap := s₂.heap, slotsUsed := s₂.slotsUsed } : State).setVm s₂.vm).setTop { g with pc := g.pc + len₂, stack := v.toList ++ g.stack } := by
      refine e3.trans ?_
      rw [hf₂, State.calling_eq h.top, State.setFrames_setFrames, State.setTop_of_frames _ hr', hr]
      rfl
    have hsame : U.sameButNew ({ U with heap := s₂.heap, slotsUsed := s₂.slotsUsed } : State) L mc ms := by
      refine ⟨?_, q2, q3, q4, q5, q6⟩
      obtain ⟨t, ht, -⟩ := State.frames_cons hr
      show ({ U with heap := s₂.heap, slotsUsed := s₂.slotsUsed } : State) = { U.setFrames U.frames with heap := s₂.heap, slotsUsed := s₂.slotsUsed }
      rw [State.setFrames_self ht]
    subst hg
    refine Or.inl ⟨v, ⟨(({ U with heap := s₂.heap, slotsUsed := s₂.slotsUsed } : State).setVm s₂.vm), Ls ++ L, c0 + mc, s0 + ms⟩,
      ⟨X.admits, X.cas, X.clock, X.frames, X.room, X.hears, X.method, X.code, (X.here.setHeapUsed s₂.heap s₂.slotsUsed).setVm hW'.alike, X.tail, State.WarmedH.trans X.warmed hW', X.limits, X.bytes, X.same.trans (hsame.setVm s.vm)⟩,
      ⟨g, mk, s₂, L, rfl, rfl, hqc, rfl, hL, rfl, rfl⟩, ?_⟩
    show Steps p.tables e below _ ((({ U with heap := s₂.heap, slotsUsed := s₂.slotsUsed } : State).setVm s₂.vm).setTop { g with pc := g.pc + len₂, stack := v.toList ++ g.stack })
    rw [← hs₂]
    exact hsteps
  · obtain ⟨e2, q2, q3, q4, q5, q6⟩ := id hsm
    have e3 : s₂ = ({ (U.calling g mk a).setFrames s₂.frames with heap := s₂.heap, slotsUsed := s₂.slotsUsed } : State).setVm s₂.vm := by
      have : s₂ = ({ s₂ with vm := (U.calling g mk a).vm } : State).setVm s₂.vm := rfl
      rw [e2] at this
      exact this
    have hf₂ : s₂.frames = .throwing q :: .java g :: U.frames.tail := hend
    have hW' : U.WarmedH s₂.vm := hW₂
    have hs₂ : s₂ = ((({ U with heap := s₂.heap, slotsUsed := s₂.slotsUsed } : State).setVm s₂.vm).setTop g).pushFrame (.throwing q) := by
      refine e3.trans ?_
      rw [hf₂, State.calling_eq h.top, State.setFrames_setFrames, State.pushFrame, State.frames_setTop _ hr', State.setTop_of_frames _ hr', State.setFrames_setFrames, hr]
      rfl
    have hsame : U.sameButNew ({ U with heap := s₂.heap, slotsUsed := s₂.slotsUsed } : State) L mc ms := by
      refine ⟨?_, q2, q3, q4, q5, q6⟩
      obtain ⟨t, ht, -⟩ := State.frames_cons hr
      show ({ U with heap := s₂.heap, slotsUsed := s₂.slotsUsed } : State) = { U.setFrames U.frames with heap := s₂.heap, slotsUsed := s₂.slotsUsed }
      rw [State.setFrames_self ht]
    subst hg
    refine Or.inr ⟨q, ⟨(({ U with heap := s₂.heap, slotsUsed := s₂.slotsUsed } : State).setVm s₂.vm), Ls ++ L, c0 + mc, s0 + ms⟩,
      ⟨X.admits, X.cas, X.clock, X.frames, X.room, X.hears, X.method, X.code, (X.here.setHeapUsed s₂.heap s₂.slotsUsed).setVm hW'.alike, X.tail, State.WarmedH.trans X.warmed hW', X.limits, X.bytes, X.same.trans (hsame.setVm s.vm)⟩,
      ⟨g, mk, s₂, L, E, ce, rfl, rfl, hx, hce, hcv, hcl, rfl, hL, rfl, rfl⟩, ?_⟩
    show Steps p.tables e below _ (((({ U with heap := s₂.heap, slotsUsed := s₂.slotsUsed } : State).setVm s₂.vm).setTop g).pushFrame (.throwing q))
    rw [← hs₂]
    exact hsteps
end Payer
section Calls
variable {p : Program} {l : Launch} {e : Env} {R : Room} {s : State} {m : MethodId} {args : Array Value} {below : List Frame} {meth : Method} {c : Code} {T : State} {locs : List Loc} {cells slots : Nat}
theorem vx_callV (X : Stand p l e R s m args below meth c T locs cells slots) (hexec : p.tables.exec = Jvm.exec) {own C : String} {index : Nat} {y : MethodName} {bytes : ByteArray} {maxL : Nat} {ret : Option FieldType}
    (hown : s.vm.findClass own = some m.cls) (hlink : (Cond.methodLink own index y).before args s = true) (hinst : (Cond.instanceMethod y).before args s = true) (hsel : (Cond.selects C y y).before args s = true)
    (hcode : (Cond.code y bytes maxL ret).before args s = true) (hy : y.cls ≠ "java/lang/invoke/MethodHandle" ∧ y.cls ≠ "java/lang/invoke/VarHandle")
    {W9 : Nat} {Pre : Pt → Array Value → Prop} {Post : Pt → Array Value → Option Value → Pt → Prop} {PostX : Pt → Array Value → Addr → Pt → Prop} (hK : vx_Back l R p e below s args y 3 W9 Pre Post PostX)
    {b : Addr} {cellB : Cell} (hcell : T.heap[b]? = some cellB) (hobj : cellB.vm.isStatics = false) (hcls : s.vm.findClass C = some cellB.cls)
    {g : JFrame} (hg : g.method = m) (hsize : g.locals.size = c.maxLocals) {argsL rest : List Value} (hlen : ∀ sig, parseMethodDescriptor y.desc = some sig → argsL.length = sig.parameters.length)
    (hstack : g.stack = argsL.reverse ++ .ref b :: rest) (hW : 2 * g.monitorRoom + (rest.map fun v => v.category).sum ≤ W9) (hdg : decode c.code g.pc = .ok (.invokevirtual index, 3))
    (hpre : ∀ vm₁, s.WarmedH vm₁ → Pre ⟨T.setVm vm₁, locs, cells, slots⟩ (Value.ref b :: argsL).toArray) :
    (∃ (v : Option Value) (vm₁ : Vm) (B : Pt), s.WarmedH vm₁ ∧ Stand p l e R s m args below meth c B.U B.locs B.cells B.slots ∧ Post ⟨T.setVm vm₁, locs, cells, slots⟩ (Value.ref b :: argsL).toArray v B ∧
      ∀ target, Steps p.tables e below (B.U.setTop { g with pc := g.pc + 3, stack := v.toList ++ rest }) target → Steps p.tables e below (T.setTop g) target) ∨
    (∃ (q : Addr) (vm₁ : Vm) (B : Pt), s.WarmedH vm₁ ∧ Stand p l e R s m args below meth c B.U B.locs B.cells B.slots ∧ PostX ⟨T.setVm vm₁, locs, cells, slots⟩ (Value.ref b :: argsL).toArray q B ∧
      Steps p.tables e below (T.setTop g) ((B.U.setTop { g with stack := rest }).pushFrame (.throwing q))) := by
  obtain ⟨mk, methM, hnamed, hmethM, hstM, habM⟩ := Cond.instanceMethod_spec hinst
  obtain ⟨methM', cM, hmethM', -, -, -, -, -, -, hsigM⟩ := Cond.code_spec hnamed hcode
  cases hmethM.symm.trans hmethM'
  obtain ⟨c2, r2, m2, q1, q2, q3, q4, kP, hkP, hkPi⟩ := Cond.selects_spec hsel
  cases hcls.symm.trans q1
  cases (State.methodFound?_of_named hnamed hy).symm.trans q2
  cases hnamed.symm.trans q3
  have hselP : selectMethod e.platform s.vm cellB.cls mk = .method mk := by rw [Launch.admits_selectMethod X.admits]; exact q4
  obtain ⟨vm₁, X₁, hstep₁⟩ := X.invokevirtual hexec hown hlink hnamed hmethM hstM hkP hkPi hy (a := b) (cell := cellB) hcell
    (fun z h => by rw [h] at hobj; cases hobj) hselP hmethM habM hkP hkPi (g := g) hg (argsL := argsL) (rest := rest) (hlen _ hsigM) hstack hdg
  rcases hK m meth c ⟨T.setVm vm₁, locs, cells, slots⟩ { g with stack := rest } (.invokevirtual index) mk (Value.ref b :: argsL).toArray X₁ hg hsize hdg hW (X₁.named hnamed) (hpre vm₁ X₁.warmed) with ⟨v, B, X', hpost, hsteps⟩ | ⟨q, B, X', hpost, hsteps⟩
  · exact Or.inl ⟨v, vm₁, B, X₁.warmed, X', hpost, fun target h => hstep₁ _ fun acts => by rw [doInvoke_state]; exact hsteps.trans h⟩
  · exact Or.inr ⟨q, vm₁, B, X₁.warmed, X', hpost, hstep₁ _ fun acts => by rw [doInvoke_state]; exact hsteps⟩
theorem vx_callS (X : Stand p l e R s m args below meth c T locs cells slots) (hexec : p.tables.exec = Jvm.exec) {own : String} {index : Nat} {y : MethodName} {bytes : ByteArray} {maxL : Nat} {ret : Option FieldType}
    (hown : s.vm.findClass own = some m.cls) (hlink : (Cond.methodLink own index y).before args s = true) (hstat : (Cond.static y).before args s = true) (hinit : (Cond.initialized y.cls).before args s = true)
    (hcode : (Cond.code y bytes maxL ret).before args s = true) (hy : y.cls ≠ "java/lang/invoke/MethodHandle" ∧ y.cls ≠ "java/lang/invoke/VarHandle")
    {W9 : Nat} {Pre : Pt → Array Value → Prop} {Post : Pt → Array Value → Option Value → Pt → Prop} {PostX : Pt → Array Value → Addr → Pt → Prop} (hK : vx_Back l R p e below s args y 3 W9 Pre Post PostX)
    {g : JFrame} (hg : g.method = m) (hsize : g.locals.size = c.maxLocals) {argsL rest : List Value} (hlen : ∀ sig, parseMethodDescriptor y.desc = some sig → argsL.length = sig.parameters.length)
    (hstack : g.stack = argsL.reverse ++ rest) (hW : 2 * g.monitorRoom + (rest.map fun v => v.category).sum ≤ W9) (hdg : decode c.code g.pc = .ok (.invokestatic index, 3))
    (hpre : ∀ vm₁, s.WarmedH vm₁ → Pre ⟨T.setVm vm₁, locs, cells, slots⟩ argsL.toArray) :
    (∃ (v : Option Value) (vm₁ : Vm) (B : Pt), s.WarmedH vm₁ ∧ Stand p l e R s m args below meth c B.U B.locs B.cells B.slots ∧ Post ⟨T.setVm vm₁, locs, cells, slots⟩ argsL.toArray v B ∧
      ∀ target, Steps p.tables e below (B.U.setTop { g with pc := g.pc + 3, stack := v.toList ++ rest }) target → Steps p.tables e below (T.setTop g) target) ∨
    (∃ (q : Addr) (vm₁ : Vm) (B : Pt), s.WarmedH vm₁ ∧ Stand p l e R s m args below meth c B.U B.locs B.cells B.slots ∧ PostX ⟨T.setVm vm₁, locs, cells, slots⟩ argsL.toArray q B ∧
      Steps p.tables e below (T.setTop g) ((B.U.setTop { g with stack := rest }).pushFrame (.throwing q))) := by
  obtain ⟨mk, hnamed⟩ := Cond.code_named hcode
  obtain ⟨methM, cM, hmethM, -, -, -, -, -, -, hsigM⟩ := Cond.code_spec hnamed hcode
  have hstatic : methM.isStatic = true := Cond.static_spec hnamed hmethM hstat
  obtain ⟨kP, hkP, -⟩ := className_of_methodNamed hnamed
  have hinitP : kP.init = .initialized := Cond.initialized_spec (findClass_of_methodNamed hnamed) hkP hinit
  obtain ⟨vm₁, X₁, hstep₁⟩ := X.invokestatic hexec hown hlink hnamed hmethM hstatic hkP hinitP hy (g := g) hg (argsL := argsL) (rest := rest) (hlen _ hsigM) hstack hdg
  rcases hK m meth c ⟨T.setVm vm₁, locs, cells, slots⟩ { g with stack := rest } (.invokestatic index) mk argsL.toArray X₁ hg hsize hdg hW (X₁.named hnamed) (hpre vm₁ X₁.warmed) with ⟨v, B, X', hpost, hsteps⟩ | ⟨q, B, X', hpost, hsteps⟩
  · exact Or.inl ⟨v, vm₁, B, X₁.warmed, X', hpost, fun target h => hstep₁ _ fun acts => by rw [doInvoke_state]; exact hsteps.trans h⟩
  · exact Or.inr ⟨q, vm₁, B, X₁.warmed, X', hpost, hstep₁ _ fun acts => by rw [doInvoke_state]; exact hsteps⟩
end Calls
theorem vx_cls {s : State} {T : State} {vm₁ : Vm} {E : String} {k : ClassId} (hW : s.WarmedH vm₁) (h : (T.setVm vm₁).vm.findClass E = some k) : s.vm.findClass E = some k := by
  have h1 : vm₁.findClass E = some k := h
  rw [hW.alike.findClass] at h1
  exact h1
/-- the method's frame g, with q thrown over it -/
def vx_W (p : Program) (l : Launch) (e : Env) (R : Room) (s : State) (m : MethodId) (args : Array Value) (below : List Frame) (meth : Method) (c : Code) (H : Heap) (locs : List Loc) (cells slots : Nat) (Q : State → Prop) (g : JFrame) (q : Addr) : Prop :=
  ∀ T : State, T.heap = H → Stand p l e R s m args below meth c T locs cells slots → ∃ t, Steps p.tables e below ((T.setTop g).pushFrame (.throwing q)) t ∧ Q t
def vx_Run (p : Program) (l : Launch) (e : Env) (R : Room) (s : State) (m : MethodId) (args : Array Value) (below : List Frame) (meth : Method) (c : Code) (H : Heap) (locs : List Loc) (cells slots mc ms : Nat) (g : JFrame) (rest : List Value) (Qa : State → Outcome → State → Prop) (XC : String → State → State → Prop) (free : Addr → Prop) : Prop :=
  ∀ T : State, T.heap = H → Stand p l e R s m args below meth c T locs cells slots →
    (∃ (v : Option Value) (st₀ t T' : State) (L : List Loc), st₀.heap = H ∧ Stand p l e R s m args below meth c T' (locs ++ L) (cells + mc) (slots + ms) ∧ (∀ q ∈ L, free q.base) ∧ T'.heap = t.heap ∧ T'.vm = t.vm ∧ Qa st₀ (.returned v) t ∧
      Goes p e below T g T' { g with pc := g.pc + 3, stack := v.toList ++ rest }) ∨
    (∃ (q : Addr) (st₀ t T' : State) (L : List Loc) (E : String) (ce : Cell), st₀.heap = H ∧ Stand p l e R s m args below meth c T' (locs ++ L) (cells + mc) (slots + ms) ∧ (∀ z ∈ L, free z.base) ∧ T'.heap = t.heap ∧ T'.vm = t.vm ∧ XC E st₀ t ∧ t.heap[q]? = some ce ∧ ce.vm = .none ∧ s.vm.findClass E = some ce.cls ∧
      Steps p.tables e below (T.setTop g) ((T'.setTop { g with stack := rest }).pushFrame (.throwing q)))
def vx_X {S : Type} (px : S → Prop) (B : String → S → State → Prop) (A : Nat → Prop) : String → State → State → Prop := fun E st t => ∃ u : S, px u ∧ B E u t ∧ va_F A st t
section Runs
variable {p : Program} {l : Launch} {e : Env} {R : Room} {s : State} {m : MethodId} {args : Array Value} {below : List Frame} {meth : Method} {c : Code} {H : Heap} {locs : List Loc} {cells slots : Nat}
variable {y : MethodName} {bytes cc : ByteArray} {maxL nL mc ms n index : Nat} {ret : Option FieldType} {ws : List Cond} {rm : Room} {Pc : Array Value → State → Prop} {Qc : Array Value → State → Outcome → State → Prop} {XC : String → State → State → Prop} {free : Addr → Prop} {Ts : List Cond} {own C : String} {b : Addr} {As rest : List Value} {g : JFrame}
theorem vx_callBack (cb : CallB R s args own index y bytes maxL ret ws rm mc ms n) (hM : vx_Met l y ws rm Pc Qc XC mc ms free) (hbl : FrameBlind Pc) : vx_Back l R p e below s args y 3 8 (PreOf R mc ms Pc) (PostOf Qc mc ms free) (vx_Post XC mc ms free) := by
  obtain ⟨hrc, hrs, hfr, hlo, hws, hcw, -, hini, -⟩ := cb
  exact vx_back (bytes := bytes) (maxL := maxL) (ret := ret) hM hbl hrc hrs hfr hlo hws hcw (fun a' U hW => word_at hW (Or.inl (by first | rfl | simp [Cond.onTables, Cond.keeps, Cond.steady])) hini)
theorem vx_runV (S : CallFix p m c cc nL s args Ts own) (hM : vx_Met l y ws rm Pc Qc XC mc ms free) (cw : CallW R s args own C index y bytes maxL ret ws rm mc ms n) (hp : PreV s H C b Pc As)
    (hg : g.method = m) (hn : As.length = n) (hsize : g.locals.size = nL) (hstack : g.stack = As.reverse ++ .ref b :: rest) (hW : 2 * g.monitorRoom + (rest.map fun v => v.category).sum ≤ 8) (hdg : decode cc g.pc = .ok (.invokevirtual index, 3)) (hf : cells + mc ≤ R.cells ∧ slots + ms ≤ R.slots) :
    vx_Run p l e R s m args below meth c H locs cells slots mc ms g rest (Qc (Value.ref b :: As).toArray) XC free := by
  have hK : vx_Back l R p e below s args y 3 8 (PreOf R mc ms Pc) (PostOf Qc mc ms free) (vx_Post XC mc ms free) := vx_callBack cw.1 hM hp.1
  obtain ⟨⟨-, -, -, -, -, -, hcode, -, hy, hlen, hl⟩, hin, hse⟩ := cw
  obtain ⟨hx, hb, hml, ho, -⟩ := S
  obtain ⟨-, ⟨cellB, hcB, hoB, hclB⟩, hPc⟩ := hp
  intro T hT X
  rcases vx_callV X hx (C := C) (bytes := bytes) (maxL := maxL) (ret := ret) ho hl hin hse hcode hy hK (by rw [hT]; exact hcB) hoB hclB hg (hsize.trans hml.symm) (argsL := As) (rest := rest) (fun sig h => hn.trans (hlen sig h)) hstack hW (by rw [hb]; exact hdg)
    (fun vm₁ hW₁ => ⟨hf.1, hf.2, hPc (T.setVm vm₁) hT hW₁⟩) with ⟨v, vm₁, ⟨U', l2, c2, s2⟩, hW₁, X', ⟨g', mk, t, L, e1, e2, hq, h1, hL, h2, h3⟩, st⟩ | ⟨q, vm₁, ⟨U', l2, c2, s2⟩, hW₁, X', ⟨g', mk, t, L, E, ce, e1, e2, hq, hce, hcv, hcl, h1, hL, h2, h3⟩, st⟩
  · dsimp only [Pt.U, Pt.locs, Pt.cells, Pt.slots] at X' e1 e2 h1 h2 h3 st
    subst h1; subst h2; subst h3
    exact Or.inl ⟨v, (T.setVm vm₁).calling g' mk (Value.ref b :: As).toArray, t, U', L, hT, X', hL, e1, e2, hq, st⟩
  · dsimp only [Pt.U, Pt.locs, Pt.cells, Pt.slots] at X' e1 e2 h1 h2 h3 st hcl
    subst h1; subst h2; subst h3
    exact Or.inr ⟨q, (T.setVm vm₁).calling g' mk (Value.ref b :: As).toArray, t, U', L, E, ce, hT, X', hL, e1, e2, hq, hce, hcv, vx_cls hW₁ hcl, st⟩
theorem vx_runS (S : CallFix p m c cc nL s args Ts own) (hM : vx_Met l y ws rm Pc Qc XC mc ms free) (cw : CallB R s args own index y bytes maxL ret ws rm mc ms n ∧ (Cond.static y).before args s = true) (hp : PreS s H Pc As)
    (hg : g.method = m) (hn : As.length = n) (hsize : g.locals.size = nL) (hstack : g.stack = As.reverse ++ rest) (hW : 2 * g.monitorRoom + (rest.map fun v => v.category).sum ≤ 8) (hdg : decode cc g.pc = .ok (.invokestatic index, 3)) (hf : cells + mc ≤ R.cells ∧ slots + ms ≤ R.slots) :
    vx_Run p l e R s m args below meth c H locs cells slots mc ms g rest (Qc As.toArray) XC free := by
  have hK : vx_Back l R p e below s args y 3 8 (PreOf R mc ms Pc) (PostOf Qc mc ms free) (vx_Post XC mc ms free) := vx_callBack cw.1 hM hp.1
  obtain ⟨⟨-, -, -, -, -, -, hcode, hini, hy, hlen, hl⟩, hstt⟩ := cw
  obtain ⟨hx, hb, hml, ho, -⟩ := S
  intro T hT X
  rcases vx_callS X hx (bytes := bytes) (maxL := maxL) (ret := ret) ho hl hstt hini hcode hy hK hg (hsize.trans hml.symm) (argsL := As) (rest := rest) (fun sig h => hn.trans (hlen sig h)) hstack hW (by rw [hb]; exact hdg)
    (fun vm₁ hW₁ => ⟨hf.1, hf.2, hp.2 (T.setVm vm₁) hT hW₁⟩) with ⟨v, vm₁, ⟨U', l2, c2, s2⟩, hW₁, X', ⟨g', mk, t, L, e1, e2, hq, h1, hL, h2, h3⟩, st⟩ | ⟨q, vm₁, ⟨U', l2, c2, s2⟩, hW₁, X', ⟨g', mk, t, L, E, ce, e1, e2, hq, hce, hcv, hcl, h1, hL, h2, h3⟩, st⟩
  · dsimp only [Pt.U, Pt.locs, Pt.cells, Pt.slots] at X' e1 e2 h1 h2 h3 st
    subst h1; subst h2; subst h3
    exact Or.inl ⟨v, (T.setVm vm₁).calling g' mk As.toArray, t, U', L, hT, X', hL, e1, e2, hq, st⟩
  · dsimp only [Pt.U, Pt.locs, Pt.cells, Pt.slots] at X' e1 e2 h1 h2 h3 st hcl
    subst h1; subst h2; subst h3
    exact Or.inr ⟨q, (T.setVm vm₁).calling g' mk As.toArray, t, U', L, E, ce, hT, X', hL, e1, e2, hq, hce, hcv, vx_cls hW₁ hcl, st⟩
end Runs
section Rows
variable {p : Program} {l : Launch} {e : Env} {R : Room} {s : State} {m : MethodId} {args : Array Value} {below : List Frame} {meth : Method} {c : Code} {H : Heap} {locs : List Loc} {cells slots : Nat} {Q : State → Prop}
variable {mc ms : Nat} {free : Addr → Prop} {A0 A1 : Nat → Prop} {H0 : Heap} {a : Array Value} {pc : Nat} {ls : Array Slot} {st0 rest : List Value}
theorem vx_keep {st₀ t T' : State} {L : List Loc} (h0 : st₀.heap = H) (e1 : T'.heap = t.heap) (hS : va_S A0 H0 H locs) (hA : ∀ q, q < H.size → A1 q → A0 q) (hf : ∀ q, free q → A0 q) (hL : ∀ q ∈ L, free q.base) (hF : va_F A1 st₀ t) :
    H.size ≤ T'.heap.size ∧ (∀ q : Nat, q < H.size → ¬ A1 q → T'.heap[q]? = H[q]?) ∧ va_S A0 H0 T'.heap (locs ++ L) := by
  obtain ⟨hz, hk⟩ := hF
  rw [h0] at hz hk
  exact ⟨by rw [e1]; exact hz, fun q h1 h2 => by rw [e1]; exact hk q h1 h2,
    ⟨Nat.le_trans hS.1 (by rw [e1]; exact hz), fun q h1 h2 => by rw [e1, hk q (Nat.lt_of_lt_of_le h1 hS.1) (fun z => h2 (hA q (Nat.lt_of_lt_of_le h1 hS.1) z))]; exact hS.2.1 q h1 h2, fun q hq => by
      rcases List.mem_append.mp hq with h | h
      · exact hS.2.2 q h
      · exact hf _ (hL q h)⟩⟩
theorem vx_calli {S SX : Type} {post : Int32 → S → Prop} {px : SX → Prop} {B : S → State → Prop} {BX : String → SX → State → Prop} {AX : Nat → Prop} (hr : vx_Run p l e R s m args below meth c H locs cells slots mc ms (F0 m pc ls st0) rest (va_Qi post B A1 a) (vx_X px BX AX) free) (hS : va_S A0 H0 H locs) (hA : ∀ q, q < H.size → A1 q → A0 q) (hf : ∀ q, free q → A0 q) (hAX : ∀ q, q < H.size → AX q → A0 q)
    (kx : ∀ (E : String) (ce : Cell) (q9 : Addr) (u : SX) (t : State) (H1 : Heap) (locs1 : List Loc), t.heap = H1 → s.vm.Alike t.vm → px u → BX E u t → H.size ≤ H1.size → (∀ q : Nat, q < H.size → ¬ AX q → H1[q]? = H[q]?) → va_S A0 H0 H1 locs1 → H1[q9]? = some ce → ce.vm = .none → s.vm.findClass E = some ce.cls → vx_W p l e R s m args below meth c H1 locs1 (cells + mc) (slots + ms) Q (F0 m pc ls rest) q9)
    (kk : ∀ (r : Int32) (u : S) (t : State) (H1 : Heap) (locs1 : List Loc), t.heap = H1 → s.vm.Alike t.vm → post r u → B u t → H.size ≤ H1.size → (∀ q : Nat, q < H.size → ¬ A1 q → H1[q]? = H[q]?) → va_S A0 H0 H1 locs1 → W p l e R s m args below meth c H1 locs1 (cells + mc) (slots + ms) Q (F0 m (pc + 3) ls (.int r :: rest))) : W p l e R s m args below meth c H locs cells slots Q (F0 m pc ls st0) := by
  intro T hT X
  rcases hr T hT X with ⟨v, st₀, t, T', L, h0, X', hL, e1, e2, ⟨⟨r, u, hv, hp, hb⟩, hF⟩, st⟩ | ⟨q, st₀, t, T', L, E, ce, h0, X', hL, e1, e2, ⟨u, hp, hb, hF⟩, hce, hcv, hcl, st⟩
  · cases hv
    obtain ⟨k1, k2, k3⟩ := vx_keep h0 e1 hS hA hf hL hF
    obtain ⟨t2, a1, b1⟩ := kk r u t T'.heap (locs ++ L) e1.symm (by rw [← e2]; exact X'.warmed.alike) hp hb k1 k2 k3 T' rfl X'
    exact ⟨t2, st t2 a1, b1⟩
  · obtain ⟨k1, k2, k3⟩ := vx_keep h0 e1 hS hAX hf hL hF
    obtain ⟨t2, a1, b1⟩ := kx E ce q u t T'.heap (locs ++ L) e1.symm (by rw [← e2]; exact X'.warmed.alike) hp hb k1 k2 k3 (by rw [e1]; exact hce) hcv hcl T' rfl X'
    exact ⟨t2, st.trans a1, b1⟩
theorem vx_calll {S SX : Type} {post : Int64 → S → Prop} {px : SX → Prop} {B : S → State → Prop} {BX : String → SX → State → Prop} {AX : Nat → Prop} (hr : vx_Run p l e R s m args below meth c H locs cells slots mc ms (F0 m pc ls st0) rest (va_Ql post B A1 a) (vx_X px BX AX) free) (hS : va_S A0 H0 H locs) (hA : ∀ q, q < H.size → A1 q → A0 q) (hf : ∀ q, free q → A0 q) (hAX : ∀ q, q < H.size → AX q → A0 q)
    (kx : ∀ (E : String) (ce : Cell) (q9 : Addr) (u : SX) (t : State) (H1 : Heap) (locs1 : List Loc), t.heap = H1 → s.vm.Alike t.vm → px u → BX E u t → H.size ≤ H1.size → (∀ q : Nat, q < H.size → ¬ AX q → H1[q]? = H[q]?) → va_S A0 H0 H1 locs1 → H1[q9]? = some ce → ce.vm = .none → s.vm.findClass E = some ce.cls → vx_W p l e R s m args below meth c H1 locs1 (cells + mc) (slots + ms) Q (F0 m pc ls rest) q9)
    (kk : ∀ (r : Int64) (u : S) (t : State) (H1 : Heap) (locs1 : List Loc), t.heap = H1 → s.vm.Alike t.vm → post r u → B u t → H.size ≤ H1.size → (∀ q : Nat, q < H.size → ¬ A1 q → H1[q]? = H[q]?) → va_S A0 H0 H1 locs1 → W p l e R s m args below meth c H1 locs1 (cells + mc) (slots + ms) Q (F0 m (pc + 3) ls (.long r :: rest))) : W p l e R s m args below meth c H locs cells slots Q (F0 m pc ls st0) := by
  intro T hT X
  rcases hr T hT X with ⟨v, st₀, t, T', L, h0, X', hL, e1, e2, ⟨⟨r, u, hv, hp, hb⟩, hF⟩, st⟩ | ⟨q, st₀, t, T', L, E, ce, h0, X', hL, e1, e2, ⟨u, hp, hb, hF⟩, hce, hcv, hcl, st⟩
  · cases hv
    obtain ⟨k1, k2, k3⟩ := vx_keep h0 e1 hS hA hf hL hF
    obtain ⟨t2, a1, b1⟩ := kk r u t T'.heap (locs ++ L) e1.symm (by rw [← e2]; exact X'.warmed.alike) hp hb k1 k2 k3 T' rfl X'
    exact ⟨t2, st t2 a1, b1⟩
  · obtain ⟨k1, k2, k3⟩ := vx_keep h0 e1 hS hAX hf hL hF
    obtain ⟨t2, a1, b1⟩ := kx E ce q u t T'.heap (locs ++ L) e1.symm (by rw [← e2]; exact X'.warmed.alike) hp hb k1 k2 k3 (by rw [e1]; exact hce) hcv hcl T' rfl X'
    exact ⟨t2, st.trans a1, b1⟩
theorem vx_callf {S SX : Type} {post : UInt32 → S → Prop} {px : SX → Prop} {B : S → State → Prop} {BX : String → SX → State → Prop} {AX : Nat → Prop} (hr : vx_Run p l e R s m args below meth c H locs cells slots mc ms (F0 m pc ls st0) rest (va_Qf post B A1 a) (vx_X px BX AX) free) (hS : va_S A0 H0 H locs) (hA : ∀ q, q < H.size → A1 q → A0 q) (hf : ∀ q, free q → A0 q) (hAX : ∀ q, q < H.size → AX q → A0 q)
    (kx : ∀ (E : String) (ce : Cell) (q9 : Addr) (u : SX) (t : State) (H1 : Heap) (locs1 : List Loc), t.heap = H1 → s.vm.Alike t.vm → px u → BX E u t → H.size ≤ H1.size → (∀ q : Nat, q < H.size → ¬ AX q → H1[q]? = H[q]?) → va_S A0 H0 H1 locs1 → H1[q9]? = some ce → ce.vm = .none → s.vm.findClass E = some ce.cls → vx_W p l e R s m args below meth c H1 locs1 (cells + mc) (slots + ms) Q (F0 m pc ls rest) q9)
    (kk : ∀ (r : UInt32) (u : S) (t : State) (H1 : Heap) (locs1 : List Loc), t.heap = H1 → s.vm.Alike t.vm → post r u → B u t → H.size ≤ H1.size → (∀ q : Nat, q < H.size → ¬ A1 q → H1[q]? = H[q]?) → va_S A0 H0 H1 locs1 → W p l e R s m args below meth c H1 locs1 (cells + mc) (slots + ms) Q (F0 m (pc + 3) ls (.float r :: rest))) : W p l e R s m args below meth c H locs cells slots Q (F0 m pc ls st0) := by
  intro T hT X
  rcases hr T hT X with ⟨v, st₀, t, T', L, h0, X', hL, e1, e2, ⟨⟨r, u, hv, hp, hb⟩, hF⟩, st⟩ | ⟨q, st₀, t, T', L, E, ce, h0, X', hL, e1, e2, ⟨u, hp, hb, hF⟩, hce, hcv, hcl, st⟩
  · cases hv
    obtain ⟨k1, k2, k3⟩ := vx_keep h0 e1 hS hA hf hL hF
    obtain ⟨t2, a1, b1⟩ := kk r u t T'.heap (locs ++ L) e1.symm (by rw [← e2]; exact X'.warmed.alike) hp hb k1 k2 k3 T' rfl X'
    exact ⟨t2, st t2 a1, b1⟩
  · obtain ⟨k1, k2, k3⟩ := vx_keep h0 e1 hS hAX hf hL hF
    obtain ⟨t2, a1, b1⟩ := kx E ce q u t T'.heap (locs ++ L) e1.symm (by rw [← e2]; exact X'.warmed.alike) hp hb k1 k2 k3 (by rw [e1]; exact hce) hcv hcl T' rfl X'
    exact ⟨t2, st.trans a1, b1⟩
theorem vx_calld {S SX : Type} {post : UInt64 → S → Prop} {px : SX → Prop} {B : S → State → Prop} {BX : String → SX → State → Prop} {AX : Nat → Prop} (hr : vx_Run p l e R s m args below meth c H locs cells slots mc ms (F0 m pc ls st0) rest (va_Qd post B A1 a) (vx_X px BX AX) free) (hS : va_S A0 H0 H locs) (hA : ∀ q, q < H.size → A1 q → A0 q) (hf : ∀ q, free q → A0 q) (hAX : ∀ q, q < H.size → AX q → A0 q)
    (kx : ∀ (E : String) (ce : Cell) (q9 : Addr) (u : SX) (t : State) (H1 : Heap) (locs1 : List Loc), t.heap = H1 → s.vm.Alike t.vm → px u → BX E u t → H.size ≤ H1.size → (∀ q : Nat, q < H.size → ¬ AX q → H1[q]? = H[q]?) → va_S A0 H0 H1 locs1 → H1[q9]? = some ce → ce.vm = .none → s.vm.findClass E = some ce.cls → vx_W p l e R s m args below meth c H1 locs1 (cells + mc) (slots + ms) Q (F0 m pc ls rest) q9)
    (kk : ∀ (r : UInt64) (u : S) (t : State) (H1 : Heap) (locs1 : List Loc), t.heap = H1 → s.vm.Alike t.vm → post r u → B u t → H.size ≤ H1.size → (∀ q : Nat, q < H.size → ¬ A1 q → H1[q]? = H[q]?) → va_S A0 H0 H1 locs1 → W p l e R s m args below meth c H1 locs1 (cells + mc) (slots + ms) Q (F0 m (pc + 3) ls (.double r :: rest))) : W p l e R s m args below meth c H locs cells slots Q (F0 m pc ls st0) := by
  intro T hT X
  rcases hr T hT X with ⟨v, st₀, t, T', L, h0, X', hL, e1, e2, ⟨⟨r, u, hv, hp, hb⟩, hF⟩, st⟩ | ⟨q, st₀, t, T', L, E, ce, h0, X', hL, e1, e2, ⟨u, hp, hb, hF⟩, hce, hcv, hcl, st⟩
  · cases hv
    obtain ⟨k1, k2, k3⟩ := vx_keep h0 e1 hS hA hf hL hF
    obtain ⟨t2, a1, b1⟩ := kk r u t T'.heap (locs ++ L) e1.symm (by rw [← e2]; exact X'.warmed.alike) hp hb k1 k2 k3 T' rfl X'
    exact ⟨t2, st t2 a1, b1⟩
  · obtain ⟨k1, k2, k3⟩ := vx_keep h0 e1 hS hAX hf hL hF
    obtain ⟨t2, a1, b1⟩ := kx E ce q u t T'.heap (locs ++ L) e1.symm (by rw [← e2]; exact X'.warmed.alike) hp hb k1 k2 k3 (by rw [e1]; exact hce) hcv hcl T' rfl X'
    exact ⟨t2, st.trans a1, b1⟩
theorem vx_callv {S SX : Type} {post : S → Prop} {px : SX → Prop} {B : S → State → Prop} {BX : String → SX → State → Prop} {AX : Nat → Prop} (hr : vx_Run p l e R s m args below meth c H locs cells slots mc ms (F0 m pc ls st0) rest (va_Qv post B A1 a) (vx_X px BX AX) free) (hS : va_S A0 H0 H locs) (hA : ∀ q, q < H.size → A1 q → A0 q) (hf : ∀ q, free q → A0 q) (hAX : ∀ q, q < H.size → AX q → A0 q)
    (kx : ∀ (E : String) (ce : Cell) (q9 : Addr) (u : SX) (t : State) (H1 : Heap) (locs1 : List Loc), t.heap = H1 → s.vm.Alike t.vm → px u → BX E u t → H.size ≤ H1.size → (∀ q : Nat, q < H.size → ¬ AX q → H1[q]? = H[q]?) → va_S A0 H0 H1 locs1 → H1[q9]? = some ce → ce.vm = .none → s.vm.findClass E = some ce.cls → vx_W p l e R s m args below meth c H1 locs1 (cells + mc) (slots + ms) Q (F0 m pc ls rest) q9)
    (kk : ∀ (u : S) (t : State) (H1 : Heap) (locs1 : List Loc), t.heap = H1 → s.vm.Alike t.vm → post u → B u t → H.size ≤ H1.size → (∀ q : Nat, q < H.size → ¬ A1 q → H1[q]? = H[q]?) → va_S A0 H0 H1 locs1 → W p l e R s m args below meth c H1 locs1 (cells + mc) (slots + ms) Q (F0 m (pc + 3) ls (rest))) : W p l e R s m args below meth c H locs cells slots Q (F0 m pc ls st0) := by
  intro T hT X
  rcases hr T hT X with ⟨v, st₀, t, T', L, h0, X', hL, e1, e2, ⟨⟨u, hv, hp, hb⟩, hF⟩, st⟩ | ⟨q, st₀, t, T', L, E, ce, h0, X', hL, e1, e2, ⟨u, hp, hb, hF⟩, hce, hcv, hcl, st⟩
  · cases hv
    obtain ⟨k1, k2, k3⟩ := vx_keep h0 e1 hS hA hf hL hF
    obtain ⟨t2, a1, b1⟩ := kk u t T'.heap (locs ++ L) e1.symm (by rw [← e2]; exact X'.warmed.alike) hp hb k1 k2 k3 T' rfl X'
    exact ⟨t2, st t2 a1, b1⟩
  · obtain ⟨k1, k2, k3⟩ := vx_keep h0 e1 hS hAX hf hL hF
    obtain ⟨t2, a1, b1⟩ := kx E ce q u t T'.heap (locs ++ L) e1.symm (by rw [← e2]; exact X'.warmed.alike) hp hb k1 k2 k3 (by rw [e1]; exact hce) hcv hcl T' rfl X'
    exact ⟨t2, st.trans a1, b1⟩
/-- caught by the row x of this method's table; the rows ahead don't take it -/
theorem vx_catch {own name : String} {E : String} {ce : Cell} {q : Addr} (hown : s.vm.findClass own = some m.cls) (pre : List ExceptionTableEntry) (x : ExceptionTableEntry) (suf : List ExceptionTableEntry) (hsplit : c.exceptionTable.toList = pre ++ x :: suf)
    (hpass : ∀ z ∈ pre, covers z pc = false ∨ (z.catchType ≠ 0 ∧ ∃ nm : String, (Cond.classLink own z.catchType nm).before args s = true ∧ va_Nc E nm s)) (hx : covers x pc = true) (h0 : x.catchType ≠ 0)
    (hlink : (Cond.classLink own x.catchType name).before args s = true) (hcast : (Cond.castable E name).before args s = true) (hcell : H[q]? = some ce) (hv : ce.vm = .none) (hcl : s.vm.findClass E = some ce.cls)
    (kk : W p l e R s m args below meth c H locs cells slots Q (F0 m x.handlerPc ls [.ref q])) : vx_W p l e R s m args below meth c H locs cells slots Q (F0 m pc ls rest) q := by
  intro T hT X
  have hpl : e.platform.magicAccessors = ({} : Platform).magicAccessors := by rw [X.admits.platform]
  obtain ⟨c3, c4, hc3, hc4, hasg⟩ := Cond.castable_spec hcast
  cases Option.some.inj (hc3.symm.trans hcl)
  obtain ⟨c5, hc5, hcl5⟩ := Cond.classLink_spec hown hlink e.platform hpl
  cases Option.some.inj (hc4.symm.trans hc5)
  obtain ⟨vm', X', st⟩ := X.thenCaughtThrough q (g := F0 m pc ls rest) rfl (Steps.refl _) (by rw [hT]; exact hcell) (by rw [hv]; rfl) (by obtain ⟨k9, h9, -⟩ := Vm.findClass_spec hcl; exact ⟨k9, h9⟩) pre x suf hsplit
    (fun z hz => by
      rcases hpass z hz with h | ⟨hz0, nm, hl1, hn1⟩
      · exact Or.inl h
      · obtain ⟨c6, hc6, hcl6⟩ := Cond.classLink_spec hown hl1 e.platform hpl
        obtain ⟨a8, b8, h1, h2, h3⟩ := hn1
        cases Option.some.inj (h1.symm.trans hcl)
        cases Option.some.inj (h2.symm.trans hc6)
        exact Or.inr ⟨hz0, _, hcl6, h3⟩) hx (Or.inr ⟨h0, c4, hcl5, hasg⟩)
  obtain ⟨t, a1, b1⟩ := kk (T.setVm vm') hT X'
  exact ⟨t, st.trans a1, b1⟩
end Rows
section Ends
variable {p : Program} {l : Launch} {e : Env} {R : Room} {s : State} {m : MethodId} {args : Array Value} {below : List Frame} {meth : Method} {c : Code} {H : Heap} {locs : List Loc} {cells slots : Nat} {Q : State → Prop}
variable {mc ms : Nat} {free : Addr → Prop} {A0 A1 : Nat → Prop} {H0 : Heap} {a : Array Value} {ls : Array Slot} {st0 rest : List Value}
variable {Qc : Array Value → State → Outcome → State → Prop} {XC : String → State → State → Prop}
/-- what a body that may throw owes at its end -/
def vx_MQ (below : List Frame) (Qc : Array Value → State → Outcome → State → Prop) (XC : String → State → State → Prop) (a : Array Value) (s : State) (mc ms : Nat) (free : Addr → Prop) : State → Prop := fun t =>
  ∃ o, t.status = .running ∧ Ended t below o ∧ vx_Q Qc XC mc ms free a s o t
theorem vx_ret {g : JFrame} {mc ms : Nat} (k : W p l e R s m args below meth c H locs cells slots (MQ below Qc args s mc ms free) g) : W p l e R s m args below meth c H locs cells slots (vx_MQ below Qc XC args s mc ms free) g := by
  intro T hT X
  obtain ⟨t, a1, o, b1, b2, b3, b4⟩ := k T hT X
  exact ⟨t, a1, o, b1, b2, Or.inl ⟨b3, b4⟩⟩
/-- not caught here: it goes on to the caller -/
theorem vx_widen {g : JFrame} {q : Addr} {k n : Nat} (h1 : cells ≤ k) (h2 : slots ≤ n) (kk : vx_W p l e R s m args below meth c H locs k n Q g q) : vx_W p l e R s m args below meth c H locs cells slots Q g q := fun T hT X => kk T hT (stand_widen X h1 h2)
theorem vx_out {pc : Nat} {E : String} {ce : Cell} {q : Addr} {mc ms : Nat} (hout : ∀ x ∈ c.exceptionTable.toList, covers x pc = false) (hlocks : meth.locks = false) (hcell : H[q]? = some ce) (hv : ce.vm = .none) (hcl : s.vm.findClass E = some ce.cls)
    (hx : ∀ t : State, t.heap = H → s.vm.Alike t.vm → XC E s t) (hf : ∀ z ∈ locs, free z.base) (hc : cells ≤ mc) (hs : slots ≤ ms) :
    vx_W p l e R s m args below meth c H locs cells slots (vx_MQ below Qc XC args s mc ms free) (F0 m pc ls rest) q := by
  intro T hT X
  obtain ⟨st1, hrun, hend, hW, hsm⟩ := X.leaveThrown q (g := F0 m pc ls rest) rfl rfl rfl hout hlocks
  have hcell9 : (T.setFrames (.throwing q :: below)).heap[q]? = some ce := by
    show T.heap[q]? = some ce
    rw [hT]; exact hcell
  exact ⟨_, st1, .threw q, hrun, hend, Or.inr ⟨q, rfl, E, ce, locs, hx _ hT hW.alike, hcell9, hv, hcl, hW, hsm.mono hc hs, hf⟩⟩
theorem vx_frame {U : State} {k n : Nat} (h : s.sameButNew ({ U with vm := s.vm } : State) locs k n) : s.heap.size ≤ U.heap.size ∧ ∀ q : Nat, q < s.heap.size → (∀ z ∈ locs, z.base ≠ q) → U.heap[q]? = s.heap[q]? := by
  obtain ⟨-, h2, -, -, -, h6⟩ := h
  refine ⟨h2, fun q hq hz => ?_⟩
  obtain ⟨c9, e1, e2, e3, e4⟩ := h6 q _ (Array.getElem?_eq_getElem hq)
  have hs : c9.slots = (s.heap[q]).slots := Array.ext_getElem? fun i => e4 i fun hm => hz _ hm rfl
  have h9 : c9 = s.heap[q] := by
    rw [hs] at e2
    exact e2
  have e5 : U.heap[q]? = some c9 := e1
  rw [e5, h9, Array.getElem?_eq_getElem hq]
/-- the words of a throw but the four that speak of the heap -/
def vx_no (w : Cond) : Bool := decide (w ≠ .isRef (.static Bundle.tN "UNASSIGNED_STACK" Bundle.steD)) && decide (w ≠ .isRef (.static Bundle.tN "SUPPRESSED_SENTINEL" Bundle.listD)) && decide (w ≠ .laysStatic Bundle.tN "UNASSIGNED_STACK" Bundle.steD) && decide (w ≠ .laysStatic Bundle.tN "SUPPRESSED_SENTINEL" Bundle.listD)
def vx_at0 (own : String) (ic : Nat) (X : String) (names : List String) : List Cond := (Bundle.ownAtoms0 own ic X names).filter vx_no
def vx_atS (own : String) (ic : Nat) (X : String) (names : List String) : List Cond := (Bundle.ownAtoms own ic X names).filter vx_no
/-- a word that the tables alone decide, or a good one -/
def vx_ot (w : Cond) : Bool := w.onTables || goodWord w
theorem vx_ot_at {args a' : Array Value} {s U : State} {w : Cond} (hW : s.WarmedH U.vm) (hvm : s.vm = U.vm) (hg : vx_ot w = true) (h : w.before args s = true) : w.before a' U = true := by
  simp only [vx_ot, Bool.or_eq_true] at hg
  rcases hg with hg | hg
  · exact va_tabs hg hvm h
  · exact word_at hW (good_of_word hg) h
/-- a list's words: the good ones out of the method's own list, the others by premises of their own -/
theorem vx_hat {args : Array Value} {s : State} {L B : List Cond} (h1 : ∀ w ∈ L.filter goodWord, w.before args s = true) (h2 : ∀ w ∈ L.filter (fun w => !goodWord w), w ∈ B) (h3 : ∀ w ∈ B, w.before args s = true) : ∀ w ∈ L, w.before args s = true := by
  intro w hw
  by_cases g : goodWord w = true
  · exact h1 w (List.mem_filter.mpr ⟨hw, g⟩)
  · refine h3 w (h2 w (List.mem_filter.mpr ⟨hw, ?_⟩))
    show (!goodWord w) = true
    cases hgw : goodWord w
    · rfl
    · exact absurd hgw g
theorem vx_c {args : Array Value} {s : State} {w : Cond} {B : List Cond} (h : w.before args s = true) (t : ∀ w ∈ B, w.before args s = true) : ∀ w' ∈ w :: B, w'.before args s = true := fun w' h' => (List.mem_cons.mp h').elim (fun e => by rw [e]; exact h) (t w')
theorem vx_n {args : Array Value} {s : State} : ∀ w ∈ ([] : List Cond), w.before args s = true := fun _ h => nomatch h
theorem vx_own {args : Array Value} {s : State} {L : List Cond} (h1 : ∀ w ∈ L.filter vx_no, w.before args s = true)
    (hU : (Cond.isRef (.static Bundle.tN "UNASSIGNED_STACK" Bundle.steD)).before args s = true) (hN : (Cond.isRef (.static Bundle.tN "SUPPRESSED_SENTINEL" Bundle.listD)).before args s = true)
    (lU : (Cond.laysStatic Bundle.tN "UNASSIGNED_STACK" Bundle.steD).before args s = true) (lN : (Cond.laysStatic Bundle.tN "SUPPRESSED_SENTINEL" Bundle.listD).before args s = true) : ∀ w ∈ L, w.before args s = true := by
  intro w hw
  by_cases e1 : w = .isRef (.static Bundle.tN "UNASSIGNED_STACK" Bundle.steD)
  · rw [e1]; exact hU
  · by_cases e2 : w = .isRef (.static Bundle.tN "SUPPRESSED_SENTINEL" Bundle.listD)
    · rw [e2]; exact hN
    · by_cases e3 : w = .laysStatic Bundle.tN "UNASSIGNED_STACK" Bundle.steD
      · rw [e3]; exact lU
      · by_cases e4 : w = .laysStatic Bundle.tN "SUPPRESSED_SENTINEL" Bundle.listD
        · rw [e4]; exact lN
        · exact h1 w (List.mem_filter.mpr ⟨hw, by unfold vx_no; rw [decide_eq_true e1, decide_eq_true e2, decide_eq_true e3, decide_eq_true e4]; rfl⟩)
/-- where a static field lies, its class's statics cell in H -/
def vx_L (C n d : String) (A : Nat → Prop) (U : State) (H : Heap) : Prop := ∃ (c : ClassId) (k : Class) (i : Nat) (f : Field) (a : Nat) (cell : Cell), U.vm.findClass C = some c ∧ U.fieldFound? C n d = some (c, k, i, f) ∧ f.isStatic = true ∧ k.statics = some a ∧ H[a]? = some cell ∧ cell.vm.isStatics = true ∧ cell.cls = c ∧ f.slot < cell.slots.size ∧ k.staticTypes[f.slot]? = some f.type ∧ ¬ A a
theorem vx_L.moved {C n d : String} {A : Nat → Prop} {u U : State} {H : Heap} (hvm : u.vm.Alike U.vm) (h : vx_L C n d A u H) : vx_L C n d A U H := by
  obtain ⟨c, k, i, f, a, cell, h1, h2, h3, h4, h5, h6, h7, h8, h9, h10⟩ := h
  obtain ⟨k', hi', he⟩ := State.fieldFound?_setVm hvm h2
  exact ⟨c, k', i, f, a, cell, by rw [hvm.findClass]; exact h1, hi', h3, by rw [he]; exact h4, h5, h6, h7, h8, by rw [he]; exact h9, h10⟩
theorem vx_L.kept {C n d : String} {A : Nat → Prop} {U : State} {H H1 : Heap} (h : vx_L C n d A U H) (hq : ∀ a : Nat, a < H.size → ¬ A a → H1[a]? = H[a]?) : vx_L C n d A U H1 := by
  obtain ⟨c, k, i, f, a, cell, h1, h2, h3, h4, h5, h6, h7, h8, h9, h10⟩ := h
  exact ⟨c, k, i, f, a, cell, h1, h2, h3, h4, by rw [hq a (Array.getElem?_eq_some_iff.mp h5).1 h10]; exact h5, h6, h7, h8, h9, h10⟩
theorem vx_L.narrow {C n d : String} {A B : Nat → Prop} {U : State} {H : Heap} (h : vx_L C n d A U H) (hAB : ∀ q, B q → A q) : vx_L C n d B U H := by
  obtain ⟨c, k, i, f, a, cell, h1, h2, h3, h4, h5, h6, h7, h8, h9, h10⟩ := h
  exact ⟨c, k, i, f, a, cell, h1, h2, h3, h4, h5, h6, h7, h8, h9, fun z => h10 (hAB _ z)⟩
theorem vx_L.word {C n d : String} {A : Nat → Prop} {s : State} {args : Array Value} (h : vx_L C n d A s s.heap) : (Cond.laysStatic C n d).before args s = true := by
  obtain ⟨c, k, i, f, a, cell, h1, h2, h3, h4, h5, h6, h7, h8, h9, -⟩ := h
  show (Cond.laysStatic C n d).holds args s none s [] = true
  exact Cond.laysStatic_of h1 h2 h3 h4 h5 h6 h7 h8 h9
/-- .. and what it holds: null or some reference -/
def vx_Zq (C n d : String) (A : Nat → Prop) (U : State) (H : Heap) : Prop := va_Zq C n d A U H ∧ vx_L C n d A U H
theorem vx_Zq.moved {C n d : String} {A : Nat → Prop} {u U : State} {H : Heap} (hvm : u.vm.Alike U.vm) (h : vx_Zq C n d A u H) : vx_Zq C n d A U H := ⟨va_Zq.moved hvm h.1, vx_L.moved hvm h.2⟩
theorem vx_Zq.kept {C n d : String} {A : Nat → Prop} {U : State} {H H1 : Heap} (h : vx_Zq C n d A U H) (hq : ∀ a : Nat, a < H.size → ¬ A a → H1[a]? = H[a]?) : vx_Zq C n d A U H1 := ⟨va_Zq.kept h.1 hq, vx_L.kept h.2 hq⟩
theorem vx_Zq.narrow {C n d : String} {A B : Nat → Prop} {U : State} {H : Heap} (h : vx_Zq C n d A U H) (hAB : ∀ q, B q → A q) : vx_Zq C n d B U H := ⟨va_Zq.narrow h.1 hAB, vx_L.narrow h.2 hAB⟩
theorem vx_Zqof {args : Array Value} {s : State} {C n d : String} {A : Nat → Prop} (hl : (Cond.laysStatic C n d).before args s = true) (hini : (Cond.initialized C).before args s = true) (h : (Cond.isRef (.static C n d)).before args s = true) (hA : ∀ a : Nat, a < s.heap.size → ¬ A a) : vx_Zq C n d A s s.heap := by
  refine ⟨va_Zqof hl hini h hA, ?_⟩
  obtain ⟨c, k, i, f, a, cell, h1, h2, h3, h4, h5, h6, h7, h8, h9⟩ := Cond.laysStatic_spec hl
  exact ⟨c, k, i, f, a, cell, h1, h2, h3, h4, h5, h6, h7, h8, h9, hA a (Array.getElem?_eq_some_iff.mp h5).1⟩
theorem vx_isRef {C n d : String} {v : Value} {A : Nat → Prop} {s : State} {args : Array Value} (h : va_Z C n d v A s s.heap) (hv : v.isRef = true) : (Cond.isRef (.static C n d)).before args s = true := by
  obtain ⟨cf, kf, fi, f, a, cell, h1, h2, h3, h4, h5, h6, h7, -⟩ := h
  have he : (Term.static C n d).eval args s none [] s = some v := by
    simp [Term.eval, State.fieldNamed?, h1, h2, h4, h5, h6, h7]
  simp only [Cond.before, Cond.holds, Cond.value, he]
  cases v <;> simp_all [Value.isRef]
theorem vx_isRefq {C n d : String} {A : Nat → Prop} {s : State} {args : Array Value} (h : va_Zq C n d A s s.heap) : (Cond.isRef (.static C n d)).before args s = true := by
  rcases h with h | ⟨t, h⟩
  · exact vx_isRef h rfl
  · exact vx_isRef h rfl
/-- the same frame, seen from here: as if the method were called anew in this heap -/
theorem vx_rebase {T : State} (X : Stand p l e R s m args below meth c T locs cells slots) {R' : Room} (hf : R'.frames ≤ R.frames) (hl : R'.locals ≤ R.locals) (hc : cells + R'.cells ≤ R.cells) (hs : slots + R'.slots ≤ R.slots) :
    Stand p l e R' ((T.setVm s.vm).setFrames (.invoking m args :: below)) m args below meth c T [] 0 0 := by
  have htop : (T.setVm s.vm).topJava?.isSome := X.here.top
  have hF : ((T.setVm s.vm).setFrames (.invoking m args :: below)).frames = .invoking m args :: below := State.frames_setFrames _ (State.cur_lt_of_top htop)
  obtain ⟨g₀, hg0⟩ := Option.isSome_iff_exists.mp htop
  obtain ⟨r, hr⟩ := State.topJava?_eq_some.mp hg0
  have hl9 : e.platform.stackLimits (T.setVm s.vm).me = e.platform.stackLimits s.me := X.limits
  have hb9 : (T.setVm s.vm).me.stackBytes = s.me.stackBytes := X.bytes
  refine ⟨X.admits, X.cas, X.clock, hF, ?_, X.hears, X.method, X.code, X.here, X.tail, X.warmed, ?_, ?_, ?_⟩
  · have h := X.room
    have hU : ((T.setVm s.vm).setFrames (.invoking m args :: below)).localsInUse = s.localsInUse := by
      rw [State.localsInUse_invoking hF (meth := meth) (c := c) X.method X.code, State.localsInUse_invoking X.frames X.method X.code]
    simp only [State.hasRoom, Bool.and_eq_true, decide_eq_true_eq] at h ⊢
    obtain ⟨⟨⟨⟨h1, h2, h3, h4, h5, h6⟩, h7⟩, h8⟩, h9⟩ := h
    rw [X.frames, List.length_cons] at h2 h3
    have q1 := X.heapSize
    have q2 := X.used
    simp only [hF, hU, List.length_cons, State.stackLimits_setFrames, State.stackBytes_setFrames, hl9, hb9]
    refine ⟨⟨⟨⟨by omega, by omega, by omega, by omega, by omega, h6⟩, ?_⟩, ?_⟩, X.book⟩
    · show T.heap.size + R'.cells ≤ e.platform.maxCells
      omega
    · show T.slotsUsed + R'.slots ≤ e.platform.maxSlots
      omega
  · rw [State.stackLimits_setFrames]; rfl
  · rw [State.stackBytes_setFrames]; rfl
  · refine ⟨?_, Nat.le_refl _, Nat.le_refl _, ?_, ?_, fun a c9 h9 => ⟨c9, h9, rfl, rfl, fun _ _ => rfl⟩⟩
    · obtain ⟨t, ht, -⟩ := State.frames_cons hr
      show T.setVm s.vm = { ((T.setVm s.vm).setFrames (.invoking m args :: below)).setFrames (T.setVm s.vm).frames with heap := T.heap, slotsUsed := T.slotsUsed }
      rw [State.setFrames_setFrames, State.setFrames_self ht]
      rfl
    · show T.slotsUsed = T.slotsUsed + ((T.heap.toList.drop T.heap.size).map (·.slots.size)).sum
      rw [List.drop_eq_nil_of_le (Nat.le_of_eq Array.length_toList)]
      rfl
    · show ((T.heap.toList.drop T.heap.size).map (·.slots.size)).sum ≤ 0
      rw [List.drop_eq_nil_of_le (Nat.le_of_eq Array.length_toList)]
      exact Nat.le_refl _
/-- 'throw new E()': new; dup; invokespecial; athrow -/
theorem vx_throw0 {cc : ByteArray} {pc : Nat} (hexec : p.tables.exec = Jvm.exec) (hb : c.code = cc) (hl : l.stackTraces = false) {own cls : String} {names : List String} {ik ic mc ms : Nat} {A : Nat → Prop}
    (hown : s.vm.findClass own = some m.cls) (hcls : Bundle.fit cls = true) (hnames : ∀ n ∈ names, Bundle.fit n = true)
    (hk : (Cond.classLink own ik cls).before args s = true) (hini : (Cond.initialized cls).before args s = true) (hat : ∀ w ∈ vx_at0 own ic cls names, w.before args s = true)
    (hgood : ∀ w ∈ Cond.classLink own ik cls :: Cond.initialized cls :: vx_at0 own ic cls names, vx_ot w = true)
    (hU : vx_Zq Bundle.tN "UNASSIGNED_STACK" Bundle.steD A s s.heap) (hN : vx_Zq Bundle.tN "SUPPRESSED_SENTINEL" Bundle.listD A s s.heap) (hS : va_S A s.heap H locs) (hsize : ls.size = c.maxLocals)
    (d0 : decode cc pc = .ok (.new ik, 3)) (d3 : decode cc (pc + 3) = .ok (.dup, 1)) (d4 : decode cc (pc + 4) = .ok (.invokespecial ic, 3)) (d7 : decode cc (pc + 7) = .ok (.athrow, 1))
    (hout : ∀ x ∈ c.exceptionTable.toList, covers x (pc + 7) = false)
    (hRframes : names.length + 3 < R.frames) (hRlocals : (rest.map fun v => v.category).sum + (13 * (names.length + 1) + 42) ≤ R.locals) (hRcells : cells + 1 ≤ R.cells) (hRslots : slots + 6 ≤ R.slots) (hlocks : meth.locks = false)
    (hx : ∀ t : State, s.vm.Alike t.vm → H.size ≤ t.heap.size → (∀ q : Nat, q < H.size → t.heap[q]? = H[q]?) → XC cls s t)
    (hf : ∀ z ∈ locs, free z.base) (hc : cells + 1 ≤ mc) (hs : slots + 6 ≤ ms) :
    W p l e R s m args below meth c H locs cells slots (vx_MQ below Qc XC args s mc ms free) (F0 m pc ls rest) := by
  intro T hT X
  have htr : e.platform.stackTraces = false := (show e.platform.stackTraces = l.stackTraces by rw [X.admits.platform]).trans hl
  have Y := vx_rebase X (R' := { frames := R.frames, locals := R.locals, cells := 1, slots := 6 }) (Nat.le_refl _) (Nat.le_refl _) hRcells hRslots
  obtain ⟨s', hA⟩ : ∃ z, z = (T.setVm s.vm).setFrames (.invoking m args :: below) := ⟨_, rfl⟩
  rw [← hA] at Y
  have hvm : s'.vm = s.vm := by rw [hA]; rfl
  have hhp : s'.heap = H := by rw [hA]; exact hT
  have hW0 : s.WarmedH s'.vm := by rw [hvm]; exact State.WarmedH.refl s
  have hat' : ∀ w ∈ vx_at0 own ic cls names, w.before args s' = true := fun w hw => vx_ot_at hW0 hvm.symm (hgood w (List.mem_cons_of_mem _ (List.mem_cons_of_mem _ hw))) (hat w hw)
  have hk' : (Cond.classLink own ik cls).before args s' = true := vx_ot_at hW0 hvm.symm (hgood _ List.mem_cons_self) hk
  have hini' : (Cond.initialized cls).before args s' = true := vx_ot_at hW0 hvm.symm (hgood _ (List.mem_cons_of_mem _ List.mem_cons_self)) hini
  have hU' : vx_Zq Bundle.tN "UNASSIGNED_STACK" Bundle.steD A s' s'.heap := by rw [hhp]; exact vx_Zq.moved hW0.alike (hU.kept hS.2.1)
  have hN' : vx_Zq Bundle.tN "SUPPRESSED_SENTINEL" Bundle.listD A s' s'.heap := by rw [hhp]; exact vx_Zq.moved hW0.alike (hN.kept hS.2.1)
  have h : ∀ w ∈ Bundle.ownAtoms0 own ic cls names, w.before args s' = true := vx_own hat' (vx_isRefq hU'.1) (vx_isRefq hN'.1) hU'.2.word hN'.2.word
  have hown' : s'.vm.findClass own = some m.cls := by rw [hvm]; exact hown
  have hins : (Cond.instantiable cls 6).before args s' = true := h _ (by simp [Bundle.ownAtoms0])
  obtain ⟨vm₁, cX, kX, hfX, hkX, -, -, X₁, st1⟩ := Y.newCold hexec (own := own) (C := cls) (index := ik) (n := 6) hown' hk' hins hini'
    (g := F0 m pc ls rest) rfl (by rw [hb]; exact d0) (Nat.le_refl _) (Nat.le_refl _)
  generalize hT1 : (T.setVm vm₁).pushCell { cls := cX, slots := kX.instanceTypes.map defaultValue, vm := .none } = T1 at X₁ st1
  have hcat : (Value.ref T.heap.size).category = 1 := rfl
  have hcellA : T1.heap[T.heap.size]? = some (freshCell cX kX) := by rw [← hT1]; exact State.heap_pushCell_size _ _
  have d3' : decode c.code (pc + 3) = .ok (.dup, 1) := by rw [hb]; exact d3
  obtain ⟨U, hsteps, hrun, hend, hW, hsame, ce, hce, hO⟩ := X₁.ctorThrow0 hexec htr (own := own) (cls := cls) (names := names) (ic := ic) hown' hcls hnames h (fun x hx => nomatch hx) hfX hkX hcellA (by rw [hhp, hT]; exact Nat.le_refl _)
    (g := { method := m, pc := pc + 4, locals := ls, stack := .ref T.heap.size :: .ref T.heap.size :: rest, locked := none }) rfl hsize rfl rfl (rest := rest) rfl
    (by rw [hb]; exact d4) (by rw [hb]; exact d7) hout hRframes (by simp only [List.map_cons, List.sum_cons, hcat]; omega) hlocks
  obtain ⟨f1, f2⟩ := vx_frame hsame
  rw [hhp] at f1 f2
  have hWs : s.WarmedH U.vm := State.WarmedH.trans hW0 hW
  have hcl : s.vm.findClass cls = some ce.cls := by
    have h9 := hO.cls
    rw [hvm] at h9
    exact h9
  have hall : s.sameButNew ({ U with vm := s.vm } : State) locs mc ms := by
    subst hA
    obtain ⟨e1, e2⟩ := hsame
    rw [State.setFrames_setFrames] at e1
    have h2 : (T.setVm s.vm).sameButNew ({ U with vm := s.vm } : State) [] (0 + 1) (0 + 6) := ⟨e1, e2⟩
    have h3 := X.same.trans h2
    rw [List.append_nil] at h3
    exact h3.mono hc hs
  refine ⟨U, ?_, .threw T.heap.size, hrun, hend, Or.inr ⟨T.heap.size, rfl, cls, ce, locs, hx U hWs.alike f1 (fun q hq => f2 q hq (fun z hz => nomatch hz)), hce, hO.vm, hcl, hWs, hall, hf⟩⟩
  refine st1 _ ?_
  show Steps p.tables e below (T1.setTop { method := m, pc := pc + 3, locals := ls, stack := .ref T.heap.size :: rest, locked := none }) _
  jvm_step X₁.here [X₁.here.top, hexec, d3', Value.category]
  exact hsteps
/-- 'throw new E("text")': new; dup; ldc; invokespecial; athrow -/
theorem vx_throwS {cc : ByteArray} {pc : Nat} (hexec : p.tables.exec = Jvm.exec) (hb : c.code = cc) (hl : l.stackTraces = false) {own cls text : String} {names : List String} {ik is ic mc ms sa : Nat} {A : Nat → Prop}
    (hown : s.vm.findClass own = some m.cls) (hcls : Bundle.fit cls = true) (hnames : ∀ n ∈ names, Bundle.fit n = true)
    (hk : (Cond.classLink own ik cls).before args s = true) (hini : (Cond.initialized cls).before args s = true) (hstr : vk_R own is text sa s) (hat : ∀ w ∈ vx_atS own ic cls names, w.before args s = true)
    (hgood : ∀ w ∈ Cond.classLink own ik cls :: Cond.initialized cls :: vx_atS own ic cls names, vx_ot w = true)
    (hU : vx_Zq Bundle.tN "UNASSIGNED_STACK" Bundle.steD A s s.heap) (hN : vx_Zq Bundle.tN "SUPPRESSED_SENTINEL" Bundle.listD A s s.heap) (hS : va_S A s.heap H locs) (hsize : ls.size = c.maxLocals)
    (d0 : decode cc pc = .ok (.new ik, 3)) (d3 : decode cc (pc + 3) = .ok (.dup, 1)) (d4 : decode cc (pc + 4) = .ok (.ldc is, 2)) (d6 : decode cc (pc + 6) = .ok (.invokespecial ic, 3)) (d9 : decode cc (pc + 9) = .ok (.athrow, 1))
    (hout : ∀ x ∈ c.exceptionTable.toList, covers x (pc + 9) = false)
    (hRframes : names.length + 3 < R.frames) (hRlocals : (rest.map fun v => v.category).sum + (13 * (names.length + 1) + 43) ≤ R.locals) (hRcells : cells + 1 ≤ R.cells) (hRslots : slots + 6 ≤ R.slots) (hlocks : meth.locks = false)
    (hx : ∀ t : State, s.vm.Alike t.vm → H.size ≤ t.heap.size → (∀ q : Nat, q < H.size → t.heap[q]? = H[q]?) → XC cls s t)
    (hf : ∀ z ∈ locs, free z.base) (hc : cells + 1 ≤ mc) (hs : slots + 6 ≤ ms) :
    W p l e R s m args below meth c H locs cells slots (vx_MQ below Qc XC args s mc ms free) (F0 m pc ls rest) := by
  intro T hT X
  have htr : e.platform.stackTraces = false := (show e.platform.stackTraces = l.stackTraces by rw [X.admits.platform]).trans hl
  have Y := vx_rebase X (R' := { frames := R.frames, locals := R.locals, cells := 1, slots := 6 }) (Nat.le_refl _) (Nat.le_refl _) hRcells hRslots
  obtain ⟨s', hA⟩ : ∃ z, z = (T.setVm s.vm).setFrames (.invoking m args :: below) := ⟨_, rfl⟩
  rw [← hA] at Y
  have hvm : s'.vm = s.vm := by rw [hA]; rfl
  have hhp : s'.heap = H := by rw [hA]; exact hT
  have hW0 : s.WarmedH s'.vm := by rw [hvm]; exact State.WarmedH.refl s
  have hat' : ∀ w ∈ vx_atS own ic cls names, w.before args s' = true := fun w hw => vx_ot_at hW0 hvm.symm (hgood w (List.mem_cons_of_mem _ (List.mem_cons_of_mem _ hw))) (hat w hw)
  have hk' : (Cond.classLink own ik cls).before args s' = true := vx_ot_at hW0 hvm.symm (hgood _ List.mem_cons_self) hk
  have hini' : (Cond.initialized cls).before args s' = true := vx_ot_at hW0 hvm.symm (hgood _ (List.mem_cons_of_mem _ List.mem_cons_self)) hini
  have hU' : vx_Zq Bundle.tN "UNASSIGNED_STACK" Bundle.steD A s' s'.heap := by rw [hhp]; exact vx_Zq.moved hW0.alike (hU.kept hS.2.1)
  have hN' : vx_Zq Bundle.tN "SUPPRESSED_SENTINEL" Bundle.listD A s' s'.heap := by rw [hhp]; exact vx_Zq.moved hW0.alike (hN.kept hS.2.1)
  have h : ∀ w ∈ Bundle.ownAtoms own ic cls names, w.before args s' = true := vx_own hat' (vx_isRefq hU'.1) (vx_isRefq hN'.1) hU'.2.word hN'.2.word
  have hown' : s'.vm.findClass own = some m.cls := by rw [hvm]; exact hown
  have hins : (Cond.instantiable cls 6).before args s' = true := h _ (by simp [Bundle.ownAtoms])
  obtain ⟨vm₁, cX, kX, hfX, hkX, -, -, X₁, st1⟩ := Y.newCold hexec (own := own) (C := cls) (index := ik) (n := 6) hown' hk' hins hini'
    (g := F0 m pc ls rest) rfl (by rw [hb]; exact d0) (Nat.le_refl _) (Nat.le_refl _)
  generalize hT1 : (T.setVm vm₁).pushCell { cls := cX, slots := kX.instanceTypes.map defaultValue, vm := .none } = T1 at X₁ st1
  have hcat : (Value.ref T.heap.size).category = 1 := rfl
  have hcellA : T1.heap[T.heap.size]? = some (freshCell cX kX) := by rw [← hT1]; exact State.heap_pushCell_size _ _
  have d3' : decode c.code (pc + 3) = .ok (.dup, 1) := by rw [hb]; exact d3
  have d4' : decode c.code (pc + 4) = .ok (.ldc is, 2) := by rw [hb]; exact d4
  have hstr' : vk_R own is text sa s' := vk_R.warm hW0 hstr
  obtain ⟨U, hsteps, hrun, hend, hW, hsame, ce, hce, hO⟩ := X₁.ctorThrowS hexec htr (own := own) (cls := cls) (names := names) (ic := ic) hown' hcls hnames h (fun x hx => nomatch hx) hfX hkX hcellA (by rw [hhp, hT]; exact Nat.le_refl _) (msg := .ref sa) rfl
    (g := { method := m, pc := pc + 6, locals := ls, stack := .ref sa :: .ref T.heap.size :: .ref T.heap.size :: rest, locked := none }) rfl hsize rfl rfl (rest := rest) rfl
    (by rw [hb]; exact d6) (by rw [hb]; exact d9) hout hRframes (by simp only [List.map_cons, List.sum_cons, hcat]; omega) hlocks
  obtain ⟨f1, f2⟩ := vx_frame hsame
  rw [hhp] at f1 f2
  have hWs : s.WarmedH U.vm := State.WarmedH.trans hW0 hW
  have hcl : s.vm.findClass cls = some ce.cls := by
    have h9 := hO.cls
    rw [hvm] at h9
    exact h9
  have hall : s.sameButNew ({ U with vm := s.vm } : State) locs mc ms := by
    subst hA
    obtain ⟨e1, e2⟩ := hsame
    rw [State.setFrames_setFrames] at e1
    have h2 : (T.setVm s.vm).sameButNew ({ U with vm := s.vm } : State) [] (0 + 1) (0 + 6) := ⟨e1, e2⟩
    have h3 := X.same.trans h2
    rw [List.append_nil] at h3
    exact h3.mono hc hs
  refine ⟨U, ?_, .threw T.heap.size, hrun, hend, Or.inr ⟨T.heap.size, rfl, cls, ce, locs, hx U hWs.alike f1 (fun q hq => f2 q hq (fun z hz => nomatch hz)), hce, hO.vm, hcl, hWs, hall, hf⟩⟩
  refine st1 _ ?_
  show Steps p.tables e below (T1.setTop { method := m, pc := pc + 3, locals := ls, stack := .ref T.heap.size :: rest, locked := none }) _
  jvm_step X₁.here [X₁.here.top, hexec, d3', Value.category]
  exact X₁.ldcString hexec (own := own) (text := text) (index := is) (a := sa) hown' hstr'.1 hstr'.2
    (g := { method := m, pc := pc + 4, locals := ls, stack := .ref T.heap.size :: .ref T.heap.size :: rest, locked := none }) rfl d4' _ hsteps
/-- 'throw new E("text")', the text by a wide index -/
theorem vx_throwSW {cc : ByteArray} {pc : Nat} (hexec : p.tables.exec = Jvm.exec) (hb : c.code = cc) (hl : l.stackTraces = false) {own cls text : String} {names : List String} {ik is ic mc ms sa : Nat} {A : Nat → Prop}
    (hown : s.vm.findClass own = some m.cls) (hcls : Bundle.fit cls = true) (hnames : ∀ n ∈ names, Bundle.fit n = true)
    (hk : (Cond.classLink own ik cls).before args s = true) (hini : (Cond.initialized cls).before args s = true) (hstr : vk_R own is text sa s) (hat : ∀ w ∈ vx_atS own ic cls names, w.before args s = true)
    (hgood : ∀ w ∈ Cond.classLink own ik cls :: Cond.initialized cls :: vx_atS own ic cls names, vx_ot w = true)
    (hU : vx_Zq Bundle.tN "UNASSIGNED_STACK" Bundle.steD A s s.heap) (hN : vx_Zq Bundle.tN "SUPPRESSED_SENTINEL" Bundle.listD A s s.heap) (hS : va_S A s.heap H locs) (hsize : ls.size = c.maxLocals)
    (d0 : decode cc pc = .ok (.new ik, 3)) (d3 : decode cc (pc + 3) = .ok (.dup, 1)) (d4 : decode cc (pc + 4) = .ok (.ldc_w is, 3)) (d7 : decode cc (pc + 7) = .ok (.invokespecial ic, 3)) (d10 : decode cc (pc + 10) = .ok (.athrow, 1))
    (hout : ∀ x ∈ c.exceptionTable.toList, covers x (pc + 10) = false)
    (hRframes : names.length + 3 < R.frames) (hRlocals : (rest.map fun v => v.category).sum + (13 * (names.length + 1) + 43) ≤ R.locals) (hRcells : cells + 1 ≤ R.cells) (hRslots : slots + 6 ≤ R.slots) (hlocks : meth.locks = false)
    (hx : ∀ t : State, s.vm.Alike t.vm → H.size ≤ t.heap.size → (∀ q : Nat, q < H.size → t.heap[q]? = H[q]?) → XC cls s t)
    (hf : ∀ z ∈ locs, free z.base) (hc : cells + 1 ≤ mc) (hs : slots + 6 ≤ ms) :
    W p l e R s m args below meth c H locs cells slots (vx_MQ below Qc XC args s mc ms free) (F0 m pc ls rest) := by
  intro T hT X
  have htr : e.platform.stackTraces = false := (show e.platform.stackTraces = l.stackTraces by rw [X.admits.platform]).trans hl
  have Y := vx_rebase X (R' := { frames := R.frames, locals := R.locals, cells := 1, slots := 6 }) (Nat.le_refl _) (Nat.le_refl _) hRcells hRslots
  obtain ⟨s', hA⟩ : ∃ z, z = (T.setVm s.vm).setFrames (.invoking m args :: below) := ⟨_, rfl⟩
  rw [← hA] at Y
  have hvm : s'.vm = s.vm := by rw [hA]; rfl
  have hhp : s'.heap = H := by rw [hA]; exact hT
  have hW0 : s.WarmedH s'.vm := by rw [hvm]; exact State.WarmedH.refl s
  have hat' : ∀ w ∈ vx_atS own ic cls names, w.before args s' = true := fun w hw => vx_ot_at hW0 hvm.symm (hgood w (List.mem_cons_of_mem _ (List.mem_cons_of_mem _ hw))) (hat w hw)
  have hk' : (Cond.classLink own ik cls).before args s' = true := vx_ot_at hW0 hvm.symm (hgood _ List.mem_cons_self) hk
  have hini' : (Cond.initialized cls).before args s' = true := vx_ot_at hW0 hvm.symm (hgood _ (List.mem_cons_of_mem _ List.mem_cons_self)) hini
  have hU' : vx_Zq Bundle.tN "UNASSIGNED_STACK" Bundle.steD A s' s'.heap := by rw [hhp]; exact vx_Zq.moved hW0.alike (hU.kept hS.2.1)
  have hN' : vx_Zq Bundle.tN "SUPPRESSED_SENTINEL" Bundle.listD A s' s'.heap := by rw [hhp]; exact vx_Zq.moved hW0.alike (hN.kept hS.2.1)
  have h : ∀ w ∈ Bundle.ownAtoms own ic cls names, w.before args s' = true := vx_own hat' (vx_isRefq hU'.1) (vx_isRefq hN'.1) hU'.2.word hN'.2.word
  have hown' : s'.vm.findClass own = some m.cls := by rw [hvm]; exact hown
  have hins : (Cond.instantiable cls 6).before args s' = true := h _ (by simp [Bundle.ownAtoms])
  obtain ⟨vm₁, cX, kX, hfX, hkX, -, -, X₁, st1⟩ := Y.newCold hexec (own := own) (C := cls) (index := ik) (n := 6) hown' hk' hins hini'
    (g := F0 m pc ls rest) rfl (by rw [hb]; exact d0) (Nat.le_refl _) (Nat.le_refl _)
  generalize hT1 : (T.setVm vm₁).pushCell { cls := cX, slots := kX.instanceTypes.map defaultValue, vm := .none } = T1 at X₁ st1
  have hcat : (Value.ref T.heap.size).category = 1 := rfl
  have hcellA : T1.heap[T.heap.size]? = some (freshCell cX kX) := by rw [← hT1]; exact State.heap_pushCell_size _ _
  have d3' : decode c.code (pc + 3) = .ok (.dup, 1) := by rw [hb]; exact d3
  have d4' : decode c.code (pc + 4) = .ok (.ldc_w is, 3) := by rw [hb]; exact d4
  have hstr' : vk_R own is text sa s' := vk_R.warm hW0 hstr
  obtain ⟨U, hsteps, hrun, hend, hW, hsame, ce, hce, hO⟩ := X₁.ctorThrowS hexec htr (own := own) (cls := cls) (names := names) (ic := ic) hown' hcls hnames h (fun x hx => nomatch hx) hfX hkX hcellA (by rw [hhp, hT]; exact Nat.le_refl _) (msg := .ref sa) rfl
    (g := { method := m, pc := pc + 7, locals := ls, stack := .ref sa :: .ref T.heap.size :: .ref T.heap.size :: rest, locked := none }) rfl hsize rfl rfl (rest := rest) rfl
    (by rw [hb]; exact d7) (by rw [hb]; exact d10) hout hRframes (by simp only [List.map_cons, List.sum_cons, hcat]; omega) hlocks
  obtain ⟨f1, f2⟩ := vx_frame hsame
  rw [hhp] at f1 f2
  have hWs : s.WarmedH U.vm := State.WarmedH.trans hW0 hW
  have hcl : s.vm.findClass cls = some ce.cls := by
    have h9 := hO.cls
    rw [hvm] at h9
    exact h9
  have hall : s.sameButNew ({ U with vm := s.vm } : State) locs mc ms := by
    subst hA
    obtain ⟨e1, e2⟩ := hsame
    rw [State.setFrames_setFrames] at e1
    have h2 : (T.setVm s.vm).sameButNew ({ U with vm := s.vm } : State) [] (0 + 1) (0 + 6) := ⟨e1, e2⟩
    have h3 := X.same.trans h2
    rw [List.append_nil] at h3
    exact h3.mono hc hs
  refine ⟨U, ?_, .threw T.heap.size, hrun, hend, Or.inr ⟨T.heap.size, rfl, cls, ce, locs, hx U hWs.alike f1 (fun q hq => f2 q hq (fun z hz => nomatch hz)), hce, hO.vm, hcl, hWs, hall, hf⟩⟩
  refine st1 _ ?_
  show Steps p.tables e below (T1.setTop { method := m, pc := pc + 3, locals := ls, stack := .ref T.heap.size :: rest, locked := none }) _
  jvm_step X₁.here [X₁.here.top, hexec, d3', Value.category]
  exact X₁.ldcStringW hexec (own := own) (text := text) (index := is) (a := sa) hown' hstr'.1 hstr'.2
    (g := { method := m, pc := pc + 4, locals := ls, stack := .ref T.heap.size :: .ref T.heap.size :: rest, locked := none }) rfl d4' _ hsteps
end Ends
section Bodies
variable {l : Launch}
theorem vx_ofW {y : MethodName} {ws ws' : List Cond} {rm : Room} {Pc : Array Value → State → Prop} {Qc : Array Value → State → Outcome → State → Prop} {XC : String → State → State → Prop} {mc ms : Nat} {free : Addr → Prop} {cc : ByteArray} {maxL : Nat} {ret : Option FieldType}
    (hy : plainName y.cls = true) (hw : ws = Cond.code y cc maxL ret :: ws')
    (body : ∀ p e s m args below meth c s₁, BodyLoose p l y (headSpec ws rm) cc maxL ret e s m args below meth c s₁ → c.maxLocals = maxL → (∀ x ∈ c.exceptionTable.toList, False) → Pc args s →
      W p l e (headSpec ws rm).room s m args below meth c s.heap [] 0 0 (vx_MQ below Qc XC args s mc ms free) (entryFrame m args maxL)) : vx_Met l y ws rm Pc Qc XC mc ms free := by
  refine MetFree.of_bodyS (code := cc) (maxLocals := maxL) (ret := ret) hy ?_ ?_
  · intro args s m h hn
    obtain ⟨meth, c, h1, h2, h3, h4, h5, h6, -, -⟩ := Cond.code_spec hn (atoms_spec (ws := ws) h _ (by rw [hw]; exact List.mem_cons_self))
    exact ⟨meth, c, h1, h2, h3, h4, h5, h6⟩
  · intro p e s m args below meth c s₁ B hml hP _
    have hh0 : s₁.heap = s.heap := by rw [B.state]; rfl
    have ht : ∀ x ∈ c.exceptionTable.toList, False := by
      obtain ⟨meth9, c9, h1, h2, -, -, -, -, h7, -⟩ := Cond.code_spec B.named (atoms_spec (ws := ws) B.pre _ (by rw [hw]; exact List.mem_cons_self))
      cases Option.some.inj (h1.symm.trans B.method)
      cases Option.some.inj (h2.symm.trans (Stand.of_body B).code)
      intro x hx
      rw [Array.isEmpty_iff.mp h7] at hx
      cases hx
    obtain ⟨t, a1, o, b1, b2, b3⟩ := body p e s m args below meth c s₁ B hml ht hP s₁ hh0 (Stand.of_body B)
    exact ⟨t, o, a1, b1, b2, b3⟩
/-- the table of a body with handlers -/
theorem vx_table {p : Program} {x y : MethodName} {S : Spec} {cc bytes : ByteArray} {maxL maxL' : Nat} {ret ret' : Option FieldType} {e : Env} {s s₁ : State} {m : MethodId} {args : Array Value} {below : List Frame} {meth : Method} {c : Code} {hh : List (Nat × Nat × Nat × Nat)}
    (B : BodyLoose p l y S cc maxL ret e s m args below meth c s₁) (h : (Cond.codeWith y bytes maxL' ret' hh).before args s = true) : c.exceptionTable.toList = tableOf hh := by
  obtain ⟨m9, meth9, c9, hn9, h1, h2, -, -, h6, -⟩ := Cond.codeWith_spec h
  cases Option.some.inj (hn9.symm.trans B.named)
  cases Option.some.inj (h1.symm.trans B.method)
  cases Option.some.inj (h2.symm.trans (Stand.of_body B).code)
  rw [← h6, table_eq]
end Bodies
end VXA
/-! ===== END ===== -/
/-! ===== BEGIN a static call of a method with an exception table ===== -/
section VXS
variable {p : Program} {l : Launch} {e : Env} {R : Room} {s : State} {m : MethodId} {args : Array Value} {below : List Frame} {meth : Method} {c : Code} {T : State} {H : Heap} {locs : List Loc} {cells slots : Nat}
abbrev vx_CSW (R : Room) (s : State) (args : Array Value) (own : String) (index : Nat) (y : MethodName) (bytes : ByteArray) (maxL : Nat) (ret : Option FieldType) (hh : List (Nat × Nat × Nat × Nat)) (ws : List Cond) (rm : Room) (mc ms n : Nat) : Prop :=
  (rm.cells = mc ∧ rm.slots = ms ∧ rm.frames + 1 ≤ R.frames ∧ 8 + (maxL + 11) + rm.locals ≤ R.locals ∧ (∀ w ∈ ws, ∀ (a' : Array Value) (U : State), s.WarmedH U.vm → w.before a' U = true) ∧ Cond.codeWith y bytes maxL ret hh ∈ ws) ∧
  (Cond.codeWith y bytes maxL ret hh).before args s = true ∧ (Cond.initialized y.cls).before args s = true ∧ (y.cls ≠ "java/lang/invoke/MethodHandle" ∧ y.cls ≠ "java/lang/invoke/VarHandle") ∧
  (∀ sig, parseMethodDescriptor y.desc = some sig → n = sig.parameters.length) ∧ (Cond.methodLink own index y).before args s = true ∧ (Cond.static y).before args s = true
theorem vx_cwSW {own : String} {index maxL mc ms : Nat} {y : MethodName} {bytes : ByteArray} {ret : Option FieldType} {hh : List (Nat × Nat × Nat × Nat)} {Ts ws ws' : List Cond} {rm : Room} (n : Nat) (ht : ∀ w ∈ Ts, w.before args s = true) (hT : GoodIn Ts (va_wsS own index y ws)) (hw : ws = Cond.codeWith y bytes maxL ret hh :: ws') (hrc : rm.cells = mc) (hrs : rm.slots = ms)
    (hd : y.cls ≠ "java/lang/invoke/MethodHandle" ∧ y.cls ≠ "java/lang/invoke/VarHandle" ∧ (parseMethodDescriptor y.desc).map (fun d => d.parameters.length) = some n) (hR : rm.frames + 1 ≤ R.frames ∧ 8 + (maxL + 11) + rm.locals ≤ R.locals) :
    vx_CSW R s args own index y bytes maxL ret hh ws rm mc ms n := by
  have ok : ∀ w ∈ va_wsS own index y ws, w.before args s = true := fun w h => ht w (hT w h).1
  have hG : GoodIn Ts ws := fun w h => hT w (by unfold va_wsS; exact List.mem_append_right _ h)
  have hc : Cond.codeWith y bytes maxL ret hh ∈ ws := by rw [hw]; exact List.mem_cons_self
  refine ⟨⟨hrc, hrs, hR.1, hR.2, pay_in ht hG, hc⟩, ht _ (hG _ hc).1, ok _ (by simp [va_wsS]), ⟨hd.1, hd.2.1⟩, fun sig h => ?_, ok _ (by simp [va_wsS]), ok _ (by simp [va_wsS])⟩
  have h2 := hd.2.2
  rw [h] at h2
  exact (Option.some.inj h2).symm
theorem vx_callSW (X : Stand p l e R s m args below meth c T locs cells slots) (hexec : p.tables.exec = Jvm.exec) {own : String} {index : Nat} {y : MethodName} {bytes : ByteArray} {maxL : Nat} {ret : Option FieldType} {hh : List (Nat × Nat × Nat × Nat)}
    (hown : s.vm.findClass own = some m.cls) (hlink : (Cond.methodLink own index y).before args s = true) (hstat : (Cond.static y).before args s = true) (hinit : (Cond.initialized y.cls).before args s = true)
    (hcode : (Cond.codeWith y bytes maxL ret hh).before args s = true) (hy : y.cls ≠ "java/lang/invoke/MethodHandle" ∧ y.cls ≠ "java/lang/invoke/VarHandle")
    {W9 : Nat} {Pre : Pt → Array Value → Prop} {Post : Pt → Array Value → Option Value → Pt → Prop} (hK : Back l R p e below s args y 3 W9 Pre Post)
    {g : JFrame} (hg : g.method = m) (hsize : g.locals.size = c.maxLocals) {argsL rest : List Value} (hlen : ∀ sig, parseMethodDescriptor y.desc = some sig → argsL.length = sig.parameters.length)
    (hstack : g.stack = argsL.reverse ++ rest) (hW : 2 * g.monitorRoom + (rest.map fun v => v.category).sum ≤ W9) (hdg : decode c.code g.pc = .ok (.invokestatic index, 3))
    (hpre : ∀ vm₁, s.WarmedH vm₁ → Pre ⟨T.setVm vm₁, locs, cells, slots⟩ argsL.toArray) :
    ∃ (v : Option Value) (vm₁ : Vm) (B : Pt), s.WarmedH vm₁ ∧ Stand p l e R s m args below meth c B.U B.locs B.cells B.slots ∧ Post ⟨T.setVm vm₁, locs, cells, slots⟩ argsL.toArray v B ∧
      ∀ target, Steps p.tables e below (B.U.setTop { g with pc := g.pc + 3, stack := v.toList ++ rest }) target → Steps p.tables e below (T.setTop g) target := by
  obtain ⟨mk, methM, cM, hnamed, hmethM, -, -, -, -, -, -, hsigM⟩ := Cond.codeWith_spec hcode
  have hstatic : methM.isStatic = true := Cond.static_spec hnamed hmethM hstat
  obtain ⟨kP, hkP, -⟩ := className_of_methodNamed hnamed
  have hinitP : kP.init = .initialized := Cond.initialized_spec (findClass_of_methodNamed hnamed) hkP hinit
  obtain ⟨vm₁, X₁, hstep₁⟩ := X.invokestatic hexec hown hlink hnamed hmethM hstatic hkP hinitP hy (g := g) hg (argsL := argsL) (rest := rest) (hlen _ hsigM) hstack hdg
  obtain ⟨v, B, X', hpost, hsteps⟩ := hK m meth c ⟨T.setVm vm₁, locs, cells, slots⟩ { g with stack := rest } (.invokestatic index) mk argsL.toArray X₁ hg hsize hdg hW (X₁.named hnamed) (hpre vm₁ X₁.warmed)
  exact ⟨v, vm₁, B, X₁.warmed, X', hpost, fun target h => hstep₁ _ fun acts => by rw [doInvoke_state]; exact hsteps.trans h⟩
theorem vx_runSW {y : MethodName} {bytes cc : ByteArray} {maxL nL mc ms n index : Nat} {ret : Option FieldType} {hh : List (Nat × Nat × Nat × Nat)} {ws : List Cond} {rm : Room} {Pc : Array Value → State → Prop} {Qc : Array Value → State → Outcome → State → Prop} {free : Addr → Prop} {Ts : List Cond} {own : String} {As rest : List Value} {g : JFrame}
    (S : CallFix p m c cc nL s args Ts own) (hM : Met l y ws rm Pc Qc mc ms free) (cw : vx_CSW R s args own index y bytes maxL ret hh ws rm mc ms n) (hp : PreS s H Pc As)
    (hg : g.method = m) (hn : As.length = n) (hsize : g.locals.size = nL) (hstack : g.stack = As.reverse ++ rest) (hW : 2 * g.monitorRoom + (rest.map fun v => v.category).sum ≤ 8) (hdg : decode cc g.pc = .ok (.invokestatic index, 3)) (hf : cells + mc ≤ R.cells ∧ slots + ms ≤ R.slots) :
    va_Run p l e R s m args below meth c H locs cells slots mc ms g rest (Qc As.toArray) (free) := by
  obtain ⟨⟨hrc, hrs, hfr, hlo, hws, hcw⟩, hcode, hini, hy, hlen, hl, hstt⟩ := cw
  have hK : Back l R p e below s args y 3 8 (PreOf R mc ms Pc) (PostOf Qc mc ms free) := va_backW (hh := hh) (bytes := bytes) (maxL := maxL) (ret := ret) hM hp.1 hrc hrs hfr hlo hws hcw (fun a' U hW => word_at hW (Or.inl (by first | rfl | simp [Cond.onTables, Cond.keeps, Cond.steady])) hini)
  obtain ⟨hx, hb, hml, ho, -⟩ := S
  intro T hT X
  obtain ⟨v, vm₁, ⟨U', l2, c2, s2⟩, hW₁, X', ⟨g', mk, t, L, e1, e2, hq, h1, hL, h2, h3⟩, st⟩ := vx_callSW X hx (hh := hh) (bytes := bytes) (maxL := maxL) (ret := ret) ho hl hstt hini hcode hy hK hg (hsize.trans hml.symm) (argsL := As) (rest := rest) (fun sig h => hn.trans (hlen sig h)) hstack hW (by rw [hb]; exact hdg)
    (fun vm₁ hW₁ => ⟨hf.1, hf.2, hp.2 (T.setVm vm₁) hT hW₁⟩)
  dsimp only [Pt.U, Pt.locs, Pt.cells, Pt.slots] at X' e1 e2 h1 h2 h3 st
  subst h1; subst h2; subst h3
  exact ⟨v, (T.setVm vm₁).calling g' mk As.toArray, t, U', L, hT, X', hL, e1, e2, hq, st⟩
/-- not caught here, past rows that name other classes: it goes on to the caller -/
theorem vx_outP {p : Program} {l : Launch} {e : Env} {R : Room} {s : State} {m : MethodId} {args : Array Value} {below : List Frame} {meth : Method} {c : Code} {H : Heap} {locs : List Loc} {cells slots : Nat} {free : Addr → Prop} {ls : Array Slot} {rest : List Value} {Qc : Array Value → State → Outcome → State → Prop} {XC : String → State → State → Prop}
    {pc : Nat} {own E : String} {ce : Cell} {q : Addr} {mc ms : Nat} (hown : s.vm.findClass own = some m.cls) (hlocks : meth.locks = false)
    (hpass : ∀ z ∈ c.exceptionTable.toList, covers z pc = false ∨ (z.catchType ≠ 0 ∧ ∃ nm : String, (Cond.classLink own z.catchType nm).before args s = true ∧ va_Nc E nm s)) (hcell : H[q]? = some ce) (hv : ce.vm = .none) (hcl : s.vm.findClass E = some ce.cls)
    (hx : ∀ t : State, t.heap = H → s.vm.Alike t.vm → XC E s t) (hf : ∀ z ∈ locs, free z.base) (hc : cells ≤ mc) (hs : slots ≤ ms) :
    vx_W p l e R s m args below meth c H locs cells slots (vx_MQ below Qc XC args s mc ms free) (F0 m pc ls rest) q := by
  intro T hT X
  have hpl : e.platform.magicAccessors = ({} : Platform).magicAccessors := by rw [X.admits.platform]
  obtain ⟨vm', hW', X', st⟩ := X.outThrough hlocks q (g := F0 m pc ls rest) rfl rfl rfl (cell := ce) (by rw [hT]; exact hcell) (by rw [hv]; rfl)
    (by obtain ⟨k9, h9, -⟩ := Vm.findClass_spec hcl; exact ⟨k9, h9⟩) (fun z hz => by
      rcases hpass z hz with h | ⟨hz0, nm, hl1, hn1⟩
      · exact Or.inl h
      · obtain ⟨c6, hc6, hcl6⟩ := Cond.classLink_spec hown hl1 e.platform hpl
        obtain ⟨a8, b8, h1, h2, h3⟩ := hn1
        cases Option.some.inj (h1.symm.trans hcl)
        cases Option.some.inj (h2.symm.trans hc6)
        exact Or.inr ⟨hz0, _, hcl6, h3⟩)
  obtain ⟨g₀, hfr⟩ := X'.frames_eq
  have hcell9 : ((T.setVm vm').setFrames (.throwing q :: below)).heap[q]? = some ce := by
    show T.heap[q]? = some ce
    rw [hT]; exact hcell
  have hend : Ended ((T.setVm vm').setFrames (.throwing q :: below)) below (.threw q) := State.frames_setFrames _ (State.cur_lt_of_frames hfr)
  refine ⟨(T.setVm vm').setFrames (.throwing q :: below), ?_, .threw q, X'.here.running, hend, Or.inr ⟨q, rfl, E, ce, locs, hx _ hT (X'.ends _).1.alike, hcell9, hv, hcl, (X'.ends _).1, (X'.ends _).2.mono hc hs, hf⟩⟩
  rw [X.pushThrowing_eq]
  exact st
/-- a thing of a world lies in the heap -/
theorem vx_lt {D : va_G} {cl : List vw_C} {ws : va_W} {H1 : Heap} (h : va_P D cl ws H1) {k : Nat} {q : Nat × va_E} (hk : ws[k]? = some q) : q.1 < H1.size := (h k q hk).lt
end VXS
/-! ===== END ===== -/
/-! ===== BEGIN methods with a table of their own: called by a name, returning or throwing ===== -/
section VXH
/-! vx_backW, vx_callVX, vx_callSX, vx_callVW, vx_runVW, vx_runVX, vx_runSX, vx_ofWH follow the same proofs as their sisters above (Free/Laws.lean, Shelf42/LK1.lean); vx_outP calls Shelf42/NT130.lean (outThrough). -/
section
variable {l : Launch} {R : Room} {p : Program} {e : Env} {below : List Frame} {s : State} {sargs : Array Value} {y : MethodName} {len W9 : Nat}
theorem vx_backW {ws : List Cond} {rm : Room} {Pc : Array Value → State → Prop} {Qc : Array Value → State → Outcome → State → Prop} {XC : String → State → State → Prop} {mc ms : Nat} {free : Addr → Prop} {bytes : ByteArray} {maxL : Nat} {ret : Option FieldType} {hh : List (Nat × Nat × Nat × Nat)}
    (hM : vx_Met l y ws rm Pc Qc XC mc ms free) (hblind : FrameBlind Pc) (hrc : rm.cells = mc) (hrs : rm.slots = ms)
    (hframes : rm.frames + 1 ≤ R.frames) (hlocals : W9 + (maxL + 11) + rm.locals ≤ R.locals)
    (hws : ∀ w ∈ ws, ∀ a' U, s.WarmedH U.vm → w.before a' U = true) (hcode : Cond.codeWith y bytes maxL ret hh ∈ ws) (hinit : ∀ a' U, s.WarmedH U.vm → (Cond.initialized y.cls).before a' U = true) :
    vx_Back l R p e below s sargs y len W9 (PreOf R mc ms Pc) (PostOf Qc mc ms free) (vx_Post XC mc ms free) := by
  intro m meth c A g ig mk a X hg hsize hdg hW hn hp
  have h1 : (headSpec ws rm).pre.before a A.U = true := atoms_intro fun w hw => hws w hw _ _ X.warmed
  have h2 : (Cond.codeWith y bytes maxL ret hh).before a A.U = true := hws _ hcode _ _ X.warmed
  have h3 : (Cond.initialized y.cls).before a A.U = true := hinit _ _ X.warmed
  have h4 : A.cells + (headSpec ws rm).room.cells ≤ R.cells := by rw [show (headSpec ws rm).room.cells = mc from hrc]; exact hp.1
  have h5 : A.slots + (headSpec ws rm).room.slots ≤ R.slots := by rw [show (headSpec ws rm).room.slots = ms from hrs]; exact hp.2.1
  have hPc : Pc a (A.U.calling g mk a) := hblind _ _ _ _ hp.2.2
  obtain ⟨U, Ls, c0, s0⟩ := A
  dsimp only [Pt.U, Pt.locs, Pt.cells, Pt.slots] at h1 h2 h3 h4 h5 X hn hPc ⊢
  obtain ⟨m9, methY, cY, hn9, hmY, hcY, -, hlY, -⟩ := Cond.codeWith_spec h2
  cases Option.some.inj (hn9.symm.trans hn)
  obtain ⟨kY, hkY, -⟩ := className_of_methodNamed hn
  have hinitY : kY.init = .initialized := Cond.initialized_spec (findClass_of_methodNamed hn) hkY h3
  have h : At U g.method c below := by rw [hg]; exact X.here
  have hlocals9 : W9 + (maxL + 11) + (headSpec ws rm).room.locals ≤ R.locals := hlocals
  have happ : (headSpec ws rm).appliesLoose y e.platform (U.calling g mk a) = true :=
    Spec.appliesLoose_calling (g := g) h hdg hn hkY hinitY
      (X.room_calling (g := g) (R' := (headSpec ws rm).room) hsize hmY hcY hframes (by rw [hlY]; omega) h4 h5) h1
  obtain ⟨mid, hmid⟩ := h.above
  have hfr : (U.setTop g).frames = (.java g :: mid) ++ below := by rw [State.frames_setTop' g h.top, hmid]; rfl
  obtain ⟨o, s₂, hsteps, -, hend, hq⟩ := Steps.callFree hM p X.admits X.cas X.clock (acts := []) hfr happ hPc trivial
  have hq' : vx_Q Qc XC mc ms free a (U.calling g mk a) o s₂ := hq
  rw [State.frames_setTop' g h.top] at hend
  obtain ⟨g₀, hg0⟩ := Option.isSome_iff_exists.mp h.top
  obtain ⟨r, hr⟩ := State.topJava?_eq_some.mp hg0
  have hr' : (({ U with heap := s₂.heap, slotsUsed := s₂.slotsUsed } : State).setVm s₂.vm).frames = .java g₀ :: r := hr
  rcases hq' with ⟨hqc, L, hfe, hL⟩ | ⟨q, rfl, E, ce, L, hx, hce, hcv, hcl, hW₂, hsm, hL⟩
  · obtain ⟨⟨v, rfl⟩, hW₂, e2, q2, q3, q4, q5, q6⟩ := id hfe
    have e3 : s₂ = ({ (U.calling g mk a).setFrames s₂.frames with heap := s₂.heap, slotsUsed := s₂.slotsUsed } : State).setVm s₂.vm := by
      have : s₂ = ({ s₂ with vm := (U.calling g mk a).vm } : State).setVm s₂.vm := rfl
      rw [e2] at this
      exact this
    obtain ⟨c₂, i₂, len₂, hc₂, hd₂, hf₂⟩ := hend
    have hW' : U.WarmedH s₂.vm := hW₂
    have hcc : c₂ = c := by
      have h1 : s₂.code? g.method = U.code? g.method := by
        rw [State.code?_eq, State.code?_eq, hW'.alike.method?]
      exact Option.some.inj (hc₂.symm.trans (h1.trans h.code))
    subst hcc
    have hlen : len₂ = len := by rw [hdg] at hd₂; cases hd₂; rfl
    subst hlen
    have hs₂ : s₂ = (({ U with heap := s₂.heap, slotsUsed := s₂.slotsUsed } : State).setVm s₂.vm).setTop { g with pc := g.pc + len₂, stack := v.toList ++ g.stack } := by
      refine e3.trans ?_
      rw [hf₂, State.calling_eq h.top, State.setFrames_setFrames, State.setTop_of_frames _ hr', hr]
      rfl
    have hsame : U.sameButNew ({ U with heap := s₂.heap, slotsUsed := s₂.slotsUsed } : State) L mc ms := by
      refine ⟨?_, q2, q3, q4, q5, q6⟩
      obtain ⟨t, ht, -⟩ := State.frames_cons hr
      show ({ U with heap := s₂.heap, slotsUsed := s₂.slotsUsed } : State) = { U.setFrames U.frames with heap := s₂.heap, slotsUsed := s₂.slotsUsed }
      rw [State.setFrames_self ht]
    subst hg
    refine Or.inl ⟨v, ⟨(({ U with heap := s₂.heap, slotsUsed := s₂.slotsUsed } : State).setVm s₂.vm), Ls ++ L, c0 + mc, s0 + ms⟩,
      ⟨X.admits, X.cas, X.clock, X.frames, X.room, X.hears, X.method, X.code, (X.here.setHeapUsed s₂.heap s₂.slotsUsed).setVm hW'.alike, X.tail, State.WarmedH.trans X.warmed hW', X.limits, X.bytes, X.same.trans (hsame.setVm s.vm)⟩,
      ⟨g, mk, s₂, L, rfl, rfl, hqc, rfl, hL, rfl, rfl⟩, ?_⟩
    show Steps p.tables e below _ ((({ U with heap := s₂.heap, slotsUsed := s₂.slotsUsed } : State).setVm s₂.vm).setTop { g with pc := g.pc + len₂, stack := v.toList ++ g.stack })
    rw [← hs₂]
    exact hsteps
  · obtain ⟨e2, q2, q3, q4, q5, q6⟩ := id hsm
    have e3 : s₂ = ({ (U.calling g mk a).setFrames s₂.frames with heap := s₂.heap, slotsUsed := s₂.slotsUsed } : State).setVm s₂.vm := by
      have : s₂ = ({ s₂ with vm := (U.calling g mk a).vm } : State).setVm s₂.vm := rfl
      rw [e2] at this
      exact this
    have hf₂ : s₂.frames = .throwing q :: .java g :: U.frames.tail := hend
    have hW' : U.WarmedH s₂.vm := hW₂
    have hs₂ : s₂ = ((({ U with heap := s₂.heap, slotsUsed := s₂.slotsUsed } : State).setVm s₂.vm).setTop g).pushFrame (.throwing q) := by
      refine e3.trans ?_
      rw [hf₂, State.calling_eq h.top, State.setFrames_setFrames, State.pushFrame, State.frames_setTop _ hr', State.setTop_of_frames _ hr', State.setFrames_setFrames, hr]
      rfl
    have hsame : U.sameButNew ({ U with heap := s₂.heap, slotsUsed := s₂.slotsUsed } : State) L mc ms := by
      refine ⟨?_, q2, q3, q4, q5, q6⟩
      obtain ⟨t, ht, -⟩ := State.frames_cons hr
      show ({ U with heap := s₂.heap, slotsUsed := s₂.slotsUsed } : State) = { U.setFrames U.frames with heap := s₂.heap, slotsUsed := s₂.slotsUsed }
      rw [State.setFrames_self ht]
    subst hg
    refine Or.inr ⟨q, ⟨(({ U with heap := s₂.heap, slotsUsed := s₂.slotsUsed } : State).setVm s₂.vm), Ls ++ L, c0 + mc, s0 + ms⟩,
      ⟨X.admits, X.cas, X.clock, X.frames, X.room, X.hears, X.method, X.code, (X.here.setHeapUsed s₂.heap s₂.slotsUsed).setVm hW'.alike, X.tail, State.WarmedH.trans X.warmed hW', X.limits, X.bytes, X.same.trans (hsame.setVm s.vm)⟩,
      ⟨g, mk, s₂, L, E, ce, rfl, rfl, hx, hce, hcv, hcl, rfl, hL, rfl, rfl⟩, ?_⟩
    show Steps p.tables e below _ (((({ U with heap := s₂.heap, slotsUsed := s₂.slotsUsed } : State).setVm s₂.vm).setTop g).pushFrame (.throwing q))
    rw [← hs₂]
    exact hsteps
end
variable {p : Program} {l : Launch} {e : Env} {R : Room} {s : State} {m : MethodId} {args : Array Value} {below : List Frame} {meth : Method} {c : Code} {T : State} {H : Heap} {locs : List Loc} {cells slots : Nat}
theorem vx_callVX (X : Stand p l e R s m args below meth c T locs cells slots) (hexec : p.tables.exec = Jvm.exec) {own C : String} {index : Nat} {y : MethodName} {bytes : ByteArray} {maxL : Nat} {ret : Option FieldType} {hh : List (Nat × Nat × Nat × Nat)}
    (hown : s.vm.findClass own = some m.cls) (hlink : (Cond.methodLink own index y).before args s = true) (hinst : (Cond.instanceMethod y).before args s = true) (hsel : (Cond.selects C y y).before args s = true)
    (hcode : (Cond.codeWith y bytes maxL ret hh).before args s = true) (hy : y.cls ≠ "java/lang/invoke/MethodHandle" ∧ y.cls ≠ "java/lang/invoke/VarHandle")
    {W9 : Nat} {Pre : Pt → Array Value → Prop} {Post : Pt → Array Value → Option Value → Pt → Prop} {PostX : Pt → Array Value → Addr → Pt → Prop} (hK : vx_Back l R p e below s args y 3 W9 Pre Post PostX)
    {b : Addr} {cellB : Cell} (hcell : T.heap[b]? = some cellB) (hobj : cellB.vm.isStatics = false) (hcls : s.vm.findClass C = some cellB.cls)
    {g : JFrame} (hg : g.method = m) (hsize : g.locals.size = c.maxLocals) {argsL rest : List Value} (hlen : ∀ sig, parseMethodDescriptor y.desc = some sig → argsL.length = sig.parameters.length)
    (hstack : g.stack = argsL.reverse ++ .ref b :: rest) (hW : 2 * g.monitorRoom + (rest.map fun v => v.category).sum ≤ W9) (hdg : decode c.code g.pc = .ok (.invokevirtual index, 3))
    (hpre : ∀ vm₁, s.WarmedH vm₁ → Pre ⟨T.setVm vm₁, locs, cells, slots⟩ (Value.ref b :: argsL).toArray) :
    (∃ (v : Option Value) (vm₁ : Vm) (B : Pt), s.WarmedH vm₁ ∧ Stand p l e R s m args below meth c B.U B.locs B.cells B.slots ∧ Post ⟨T.setVm vm₁, locs, cells, slots⟩ (Value.ref b :: argsL).toArray v B ∧
      ∀ target, Steps p.tables e below (B.U.setTop { g with pc := g.pc + 3, stack := v.toList ++ rest }) target → Steps p.tables e below (T.setTop g) target) ∨
    (∃ (q : Addr) (vm₁ : Vm) (B : Pt), s.WarmedH vm₁ ∧ Stand p l e R s m args below meth c B.U B.locs B.cells B.slots ∧ PostX ⟨T.setVm vm₁, locs, cells, slots⟩ (Value.ref b :: argsL).toArray q B ∧
      Steps p.tables e below (T.setTop g) ((B.U.setTop { g with stack := rest }).pushFrame (.throwing q))) := by
  obtain ⟨mk, methM, hnamed, hmethM, hstM, habM⟩ := Cond.instanceMethod_spec hinst
  obtain ⟨m8, methM', cM, hn8, hmethM', -, -, -, -, -, -, hsigM⟩ := Cond.codeWith_spec hcode
  cases Option.some.inj (hn8.symm.trans hnamed)
  cases hmethM.symm.trans hmethM'
  obtain ⟨c2, r2, m2, q1, q2, q3, q4, kP, hkP, hkPi⟩ := Cond.selects_spec hsel
  cases hcls.symm.trans q1
  cases (State.methodFound?_of_named hnamed hy).symm.trans q2
  cases hnamed.symm.trans q3
  have hselP : selectMethod e.platform s.vm cellB.cls mk = .method mk := by rw [Launch.admits_selectMethod X.admits]; exact q4
  obtain ⟨vm₁, X₁, hstep₁⟩ := X.invokevirtual hexec hown hlink hnamed hmethM hstM hkP hkPi hy (a := b) (cell := cellB) hcell
    (fun z h => by rw [h] at hobj; cases hobj) hselP hmethM habM hkP hkPi (g := g) hg (argsL := argsL) (rest := rest) (hlen _ hsigM) hstack hdg
  rcases hK m meth c ⟨T.setVm vm₁, locs, cells, slots⟩ { g with stack := rest } (.invokevirtual index) mk (Value.ref b :: argsL).toArray X₁ hg hsize hdg hW (X₁.named hnamed) (hpre vm₁ X₁.warmed) with ⟨v, B, X', hpost, hsteps⟩ | ⟨q, B, X', hpost, hsteps⟩
  · exact Or.inl ⟨v, vm₁, B, X₁.warmed, X', hpost, fun target h => hstep₁ _ fun acts => by rw [doInvoke_state]; exact hsteps.trans h⟩
  · exact Or.inr ⟨q, vm₁, B, X₁.warmed, X', hpost, hstep₁ _ fun acts => by rw [doInvoke_state]; exact hsteps⟩
theorem vx_callSX (X : Stand p l e R s m args below meth c T locs cells slots) (hexec : p.tables.exec = Jvm.exec) {own : String} {index : Nat} {y : MethodName} {bytes : ByteArray} {maxL : Nat} {ret : Option FieldType} {hh : List (Nat × Nat × Nat × Nat)}
    (hown : s.vm.findClass own = some m.cls) (hlink : (Cond.methodLink own index y).before args s = true) (hstat : (Cond.static y).before args s = true) (hinit : (Cond.initialized y.cls).before args s = true)
    (hcode : (Cond.codeWith y bytes maxL ret hh).before args s = true) (hy : y.cls ≠ "java/lang/invoke/MethodHandle" ∧ y.cls ≠ "java/lang/invoke/VarHandle")
    {W9 : Nat} {Pre : Pt → Array Value → Prop} {Post : Pt → Array Value → Option Value → Pt → Prop} {PostX : Pt → Array Value → Addr → Pt → Prop} (hK : vx_Back l R p e below s args y 3 W9 Pre Post PostX)
    {g : JFrame} (hg : g.method = m) (hsize : g.locals.size = c.maxLocals) {argsL rest : List Value} (hlen : ∀ sig, parseMethodDescriptor y.desc = some sig → argsL.length = sig.parameters.length)
    (hstack : g.stack = argsL.reverse ++ rest) (hW : 2 * g.monitorRoom + (rest.map fun v => v.category).sum ≤ W9) (hdg : decode c.code g.pc = .ok (.invokestatic index, 3))
    (hpre : ∀ vm₁, s.WarmedH vm₁ → Pre ⟨T.setVm vm₁, locs, cells, slots⟩ argsL.toArray) :
    (∃ (v : Option Value) (vm₁ : Vm) (B : Pt), s.WarmedH vm₁ ∧ Stand p l e R s m args below meth c B.U B.locs B.cells B.slots ∧ Post ⟨T.setVm vm₁, locs, cells, slots⟩ argsL.toArray v B ∧
      ∀ target, Steps p.tables e below (B.U.setTop { g with pc := g.pc + 3, stack := v.toList ++ rest }) target → Steps p.tables e below (T.setTop g) target) ∨
    (∃ (q : Addr) (vm₁ : Vm) (B : Pt), s.WarmedH vm₁ ∧ Stand p l e R s m args below meth c B.U B.locs B.cells B.slots ∧ PostX ⟨T.setVm vm₁, locs, cells, slots⟩ argsL.toArray q B ∧
      Steps p.tables e below (T.setTop g) ((B.U.setTop { g with stack := rest }).pushFrame (.throwing q))) := by
  obtain ⟨mk, methM, cM, hnamed, hmethM, -, -, -, -, -, -, hsigM⟩ := Cond.codeWith_spec hcode
  have hstatic : methM.isStatic = true := Cond.static_spec hnamed hmethM hstat
  obtain ⟨kP, hkP, -⟩ := className_of_methodNamed hnamed
  have hinitP : kP.init = .initialized := Cond.initialized_spec (findClass_of_methodNamed hnamed) hkP hinit
  obtain ⟨vm₁, X₁, hstep₁⟩ := X.invokestatic hexec hown hlink hnamed hmethM hstatic hkP hinitP hy (g := g) hg (argsL := argsL) (rest := rest) (hlen _ hsigM) hstack hdg
  rcases hK m meth c ⟨T.setVm vm₁, locs, cells, slots⟩ { g with stack := rest } (.invokestatic index) mk argsL.toArray X₁ hg hsize hdg hW (X₁.named hnamed) (hpre vm₁ X₁.warmed) with ⟨v, B, X', hpost, hsteps⟩ | ⟨q, B, X', hpost, hsteps⟩
  · exact Or.inl ⟨v, vm₁, B, X₁.warmed, X', hpost, fun target h => hstep₁ _ fun acts => by rw [doInvoke_state]; exact hsteps.trans h⟩
  · exact Or.inr ⟨q, vm₁, B, X₁.warmed, X', hpost, hstep₁ _ fun acts => by rw [doInvoke_state]; exact hsteps⟩
theorem vx_callVW (X : Stand p l e R s m args below meth c T locs cells slots) (hexec : p.tables.exec = Jvm.exec) {own C : String} {index : Nat} {y : MethodName} {bytes : ByteArray} {maxL : Nat} {ret : Option FieldType} {hh : List (Nat × Nat × Nat × Nat)}
    (hown : s.vm.findClass own = some m.cls) (hlink : (Cond.methodLink own index y).before args s = true) (hinst : (Cond.instanceMethod y).before args s = true) (hsel : (Cond.selects C y y).before args s = true)
    (hcode : (Cond.codeWith y bytes maxL ret hh).before args s = true) (hy : y.cls ≠ "java/lang/invoke/MethodHandle" ∧ y.cls ≠ "java/lang/invoke/VarHandle")
    {W9 : Nat} {Pre : Pt → Array Value → Prop} {Post : Pt → Array Value → Option Value → Pt → Prop} (hK : Back l R p e below s args y 3 W9 Pre Post)
    {b : Addr} {cellB : Cell} (hcell : T.heap[b]? = some cellB) (hobj : cellB.vm.isStatics = false) (hcls : s.vm.findClass C = some cellB.cls)
    {g : JFrame} (hg : g.method = m) (hsize : g.locals.size = c.maxLocals) {argsL rest : List Value} (hlen : ∀ sig, parseMethodDescriptor y.desc = some sig → argsL.length = sig.parameters.length)
    (hstack : g.stack = argsL.reverse ++ .ref b :: rest) (hW : 2 * g.monitorRoom + (rest.map fun v => v.category).sum ≤ W9) (hdg : decode c.code g.pc = .ok (.invokevirtual index, 3))
    (hpre : ∀ vm₁, s.WarmedH vm₁ → Pre ⟨T.setVm vm₁, locs, cells, slots⟩ (Value.ref b :: argsL).toArray) :
    ∃ (v : Option Value) (vm₁ : Vm) (B : Pt), s.WarmedH vm₁ ∧ Stand p l e R s m args below meth c B.U B.locs B.cells B.slots ∧ Post ⟨T.setVm vm₁, locs, cells, slots⟩ (Value.ref b :: argsL).toArray v B ∧
      ∀ target, Steps p.tables e below (B.U.setTop { g with pc := g.pc + 3, stack := v.toList ++ rest }) target → Steps p.tables e below (T.setTop g) target := by
  obtain ⟨mk, methM, hnamed, hmethM, hstM, habM⟩ := Cond.instanceMethod_spec hinst
  obtain ⟨m8, methM', cM, hn8, hmethM', -, -, -, -, -, -, hsigM⟩ := Cond.codeWith_spec hcode
  cases Option.some.inj (hn8.symm.trans hnamed)
  cases hmethM.symm.trans hmethM'
  obtain ⟨c2, r2, m2, q1, q2, q3, q4, kP, hkP, hkPi⟩ := Cond.selects_spec hsel
  cases hcls.symm.trans q1
  cases (State.methodFound?_of_named hnamed hy).symm.trans q2
  cases hnamed.symm.trans q3
  have hselP : selectMethod e.platform s.vm cellB.cls mk = .method mk := by rw [Launch.admits_selectMethod X.admits]; exact q4
  obtain ⟨vm₁, X₁, hstep₁⟩ := X.invokevirtual hexec hown hlink hnamed hmethM hstM hkP hkPi hy (a := b) (cell := cellB) hcell
    (fun z h => by rw [h] at hobj; cases hobj) hselP hmethM habM hkP hkPi (g := g) hg (argsL := argsL) (rest := rest) (hlen _ hsigM) hstack hdg
  obtain ⟨v, B, X', hpost, hsteps⟩ := hK m meth c ⟨T.setVm vm₁, locs, cells, slots⟩ { g with stack := rest } (.invokevirtual index) mk (Value.ref b :: argsL).toArray X₁ hg hsize hdg hW (X₁.named hnamed) (hpre vm₁ X₁.warmed)
  exact ⟨v, vm₁, B, X₁.warmed, X', hpost, fun target h => hstep₁ _ fun acts => by rw [doInvoke_state]; exact hsteps.trans h⟩
abbrev vx_CVW (R : Room) (s : State) (args : Array Value) (own C : String) (index : Nat) (y : MethodName) (bytes : ByteArray) (maxL : Nat) (ret : Option FieldType) (hh : List (Nat × Nat × Nat × Nat)) (ws : List Cond) (rm : Room) (mc ms n : Nat) : Prop :=
  (rm.cells = mc ∧ rm.slots = ms ∧ rm.frames + 1 ≤ R.frames ∧ 8 + (maxL + 11) + rm.locals ≤ R.locals ∧ (∀ w ∈ ws, ∀ (a' : Array Value) (U : State), s.WarmedH U.vm → w.before a' U = true) ∧ Cond.codeWith y bytes maxL ret hh ∈ ws) ∧
  (Cond.codeWith y bytes maxL ret hh).before args s = true ∧ (Cond.initialized y.cls).before args s = true ∧ (y.cls ≠ "java/lang/invoke/MethodHandle" ∧ y.cls ≠ "java/lang/invoke/VarHandle") ∧
  (∀ sig, parseMethodDescriptor y.desc = some sig → n = sig.parameters.length) ∧ (Cond.methodLink own index y).before args s = true ∧ (Cond.instanceMethod y).before args s = true ∧ (Cond.selects C y y).before args s = true
theorem vx_cwVW {own C : String} {index maxL mc ms : Nat} {y : MethodName} {bytes : ByteArray} {ret : Option FieldType} {hh : List (Nat × Nat × Nat × Nat)} {Ts ws ws' : List Cond} {rm : Room} (n : Nat) (ht : ∀ w ∈ Ts, w.before args s = true) (hT : GoodIn Ts (wsV own index C y ws)) (hw : ws = Cond.codeWith y bytes maxL ret hh :: ws') (hrc : rm.cells = mc) (hrs : rm.slots = ms)
    (hd : y.cls = C ∧ y.cls ≠ "java/lang/invoke/MethodHandle" ∧ y.cls ≠ "java/lang/invoke/VarHandle" ∧ (parseMethodDescriptor y.desc).map (fun d => d.parameters.length) = some n) (hR : rm.frames + 1 ≤ R.frames ∧ 8 + (maxL + 11) + rm.locals ≤ R.locals) :
    vx_CVW R s args own C index y bytes maxL ret hh ws rm mc ms n := by
  obtain ⟨hC, hd⟩ := hd
  subst hC
  have ok : ∀ w ∈ wsV own index y.cls y ws, w.before args s = true := fun w h => ht w (hT w h).1
  have hG : GoodIn Ts ws := fun w h => hT w (by unfold wsV; exact List.mem_append_right _ h)
  have hc : Cond.codeWith y bytes maxL ret hh ∈ ws := by rw [hw]; exact List.mem_cons_self
  refine ⟨⟨hrc, hrs, hR.1, hR.2, pay_in ht hG, hc⟩, ht _ (hG _ hc).1, ok _ (by simp [wsV]), ⟨hd.1, hd.2.1⟩, fun sig h => ?_, ok _ (by simp [wsV]), ok _ (by simp [wsV]), ok _ (by simp [wsV])⟩
  have h2 := hd.2.2
  rw [h] at h2
  exact (Option.some.inj h2).symm
theorem vx_runVW {y : MethodName} {bytes cc : ByteArray} {maxL nL mc ms n index : Nat} {ret : Option FieldType} {hh : List (Nat × Nat × Nat × Nat)} {ws : List Cond} {rm : Room} {Pc : Array Value → State → Prop} {Qc : Array Value → State → Outcome → State → Prop} {free : Addr → Prop} {Ts : List Cond} {own C : String} {b : Addr} {As rest : List Value} {g : JFrame}
    (S : CallFix p m c cc nL s args Ts own) (hM : Met l y ws rm Pc Qc mc ms free) (cw : vx_CVW R s args own C index y bytes maxL ret hh ws rm mc ms n) (hp : PreV s H C b Pc As)
    (hg : g.method = m) (hn : As.length = n) (hsize : g.locals.size = nL) (hstack : g.stack = As.reverse ++ .ref b :: rest) (hW : 2 * g.monitorRoom + (rest.map fun v => v.category).sum ≤ 8) (hdg : decode cc g.pc = .ok (.invokevirtual index, 3)) (hf : cells + mc ≤ R.cells ∧ slots + ms ≤ R.slots) :
    va_Run p l e R s m args below meth c H locs cells slots mc ms g rest (Qc (Value.ref b :: As).toArray) free := by
  obtain ⟨⟨hrc, hrs, hfr, hlo, hws, hcw⟩, hcode, hini, hy, hlen, hl, hin, hse⟩ := cw
  have hK : Back l R p e below s args y 3 8 (PreOf R mc ms Pc) (PostOf Qc mc ms free) := va_backW (hh := hh) (bytes := bytes) (maxL := maxL) (ret := ret) hM hp.1 hrc hrs hfr hlo hws hcw (fun a' U hW => word_at hW (Or.inl (by first | rfl | simp [Cond.onTables, Cond.keeps, Cond.steady])) hini)
  obtain ⟨hx, hb, hml, ho, -⟩ := S
  obtain ⟨-, ⟨cellB, hcB, hoB, hclB⟩, hPc⟩ := hp
  intro T hT X
  obtain ⟨v, vm₁, ⟨U', l2, c2, s2⟩, hW₁, X', ⟨g', mk, t, L, e1, e2, hq, h1, hL, h2, h3⟩, st⟩ := vx_callVW X hx (C := C) (hh := hh) (bytes := bytes) (maxL := maxL) (ret := ret) ho hl hin hse hcode hy hK (by rw [hT]; exact hcB) hoB hclB hg (hsize.trans hml.symm) (argsL := As) (rest := rest) (fun sig h => hn.trans (hlen sig h)) hstack hW (by rw [hb]; exact hdg)
    (fun vm₁ hW₁ => ⟨hf.1, hf.2, hPc (T.setVm vm₁) hT hW₁⟩)
  dsimp only [Pt.U, Pt.locs, Pt.cells, Pt.slots] at X' e1 e2 h1 h2 h3 st
  subst h1; subst h2; subst h3
  exact ⟨v, (T.setVm vm₁).calling g' mk (Value.ref b :: As).toArray, t, U', L, hT, X', hL, e1, e2, hq, st⟩
section
variable {y : MethodName} {bytes cc : ByteArray} {maxL nL mc ms n index : Nat} {ret : Option FieldType} {ws : List Cond} {rm : Room} {Pc : Array Value → State → Prop} {Qc : Array Value → State → Outcome → State → Prop} {XC : String → State → State → Prop} {free : Addr → Prop} {Ts : List Cond} {own C : String} {b : Addr} {As rest : List Value} {g : JFrame}
theorem vx_runVX {hh : List (Nat × Nat × Nat × Nat)} (S : CallFix p m c cc nL s args Ts own) (hM : vx_Met l y ws rm Pc Qc XC mc ms free) (cw : vx_CVW R s args own C index y bytes maxL ret hh ws rm mc ms n) (hp : PreV s H C b Pc As)
    (hg : g.method = m) (hn : As.length = n) (hsize : g.locals.size = nL) (hstack : g.stack = As.reverse ++ .ref b :: rest) (hW : 2 * g.monitorRoom + (rest.map fun v => v.category).sum ≤ 8) (hdg : decode cc g.pc = .ok (.invokevirtual index, 3)) (hf : cells + mc ≤ R.cells ∧ slots + ms ≤ R.slots) :
    vx_Run p l e R s m args below meth c H locs cells slots mc ms g rest (Qc (Value.ref b :: As).toArray) XC free := by
  obtain ⟨⟨hrc, hrs, hfr, hlo, hws, hcw⟩, hcode, hini, hy, hlen, hl, hin, hse⟩ := cw
  have hK : vx_Back l R p e below s args y 3 8 (PreOf R mc ms Pc) (PostOf Qc mc ms free) (vx_Post XC mc ms free) := vx_backW (hh := hh) (bytes := bytes) (maxL := maxL) (ret := ret) hM hp.1 hrc hrs hfr hlo hws hcw (fun a' U hW => word_at hW (Or.inl (by first | rfl | simp [Cond.onTables, Cond.keeps, Cond.steady])) hini)
  obtain ⟨hx, hb, hml, ho, -⟩ := S
  obtain ⟨-, ⟨cellB, hcB, hoB, hclB⟩, hPc⟩ := hp
  intro T hT X
  rcases vx_callVX X hx (C := C) (hh := hh) (bytes := bytes) (maxL := maxL) (ret := ret) ho hl hin hse hcode hy hK (by rw [hT]; exact hcB) hoB hclB hg (hsize.trans hml.symm) (argsL := As) (rest := rest) (fun sig h => hn.trans (hlen sig h)) hstack hW (by rw [hb]; exact hdg)
    (fun vm₁ hW₁ => ⟨hf.1, hf.2, hPc (T.setVm vm₁) hT hW₁⟩) with ⟨v, vm₁, ⟨U', l2, c2, s2⟩, hW₁, X', ⟨g', mk, t, L, e1, e2, hq, h1, hL, h2, h3⟩, st⟩ | ⟨q, vm₁, ⟨U', l2, c2, s2⟩, hW₁, X', ⟨g', mk, t, L, E, ce, e1, e2, hq, hce, hcv, hcl, h1, hL, h2, h3⟩, st⟩
  · dsimp only [Pt.U, Pt.locs, Pt.cells, Pt.slots] at X' e1 e2 h1 h2 h3 st
    subst h1; subst h2; subst h3
    exact Or.inl ⟨v, (T.setVm vm₁).calling g' mk (Value.ref b :: As).toArray, t, U', L, hT, X', hL, e1, e2, hq, st⟩
  · dsimp only [Pt.U, Pt.locs, Pt.cells, Pt.slots] at X' e1 e2 h1 h2 h3 st hcl
    subst h1; subst h2; subst h3
    exact Or.inr ⟨q, (T.setVm vm₁).calling g' mk (Value.ref b :: As).toArray, t, U', L, E, ce, hT, X', hL, e1, e2, hq, hce, hcv, vx_cls hW₁ hcl, st⟩
theorem vx_runSX {hh : List (Nat × Nat × Nat × Nat)} (S : CallFix p m c cc nL s args Ts own) (hM : vx_Met l y ws rm Pc Qc XC mc ms free) (cw : vx_CSW R s args own index y bytes maxL ret hh ws rm mc ms n) (hp : PreS s H Pc As)
    (hg : g.method = m) (hn : As.length = n) (hsize : g.locals.size = nL) (hstack : g.stack = As.reverse ++ rest) (hW : 2 * g.monitorRoom + (rest.map fun v => v.category).sum ≤ 8) (hdg : decode cc g.pc = .ok (.invokestatic index, 3)) (hf : cells + mc ≤ R.cells ∧ slots + ms ≤ R.slots) :
    vx_Run p l e R s m args below meth c H locs cells slots mc ms g rest (Qc As.toArray) XC free := by
  obtain ⟨⟨hrc, hrs, hfr, hlo, hws, hcw⟩, hcode, hini, hy, hlen, hl, hstt⟩ := cw
  have hK : vx_Back l R p e below s args y 3 8 (PreOf R mc ms Pc) (PostOf Qc mc ms free) (vx_Post XC mc ms free) := vx_backW (hh := hh) (bytes := bytes) (maxL := maxL) (ret := ret) hM hp.1 hrc hrs hfr hlo hws hcw (fun a' U hW => word_at hW (Or.inl (by first | rfl | simp [Cond.onTables, Cond.keeps, Cond.steady])) hini)
  obtain ⟨hx, hb, hml, ho, -⟩ := S
  intro T hT X
  rcases vx_callSX X hx (hh := hh) (bytes := bytes) (maxL := maxL) (ret := ret) ho hl hstt hini hcode hy hK hg (hsize.trans hml.symm) (argsL := As) (rest := rest) (fun sig h => hn.trans (hlen sig h)) hstack hW (by rw [hb]; exact hdg)
    (fun vm₁ hW₁ => ⟨hf.1, hf.2, hp.2 (T.setVm vm₁) hT hW₁⟩) with ⟨v, vm₁, ⟨U', l2, c2, s2⟩, hW₁, X', ⟨g', mk, t, L, e1, e2, hq, h1, hL, h2, h3⟩, st⟩ | ⟨q, vm₁, ⟨U', l2, c2, s2⟩, hW₁, X', ⟨g', mk, t, L, E, ce, e1, e2, hq, hce, hcv, hcl, h1, hL, h2, h3⟩, st⟩
  · dsimp only [Pt.U, Pt.locs, Pt.cells, Pt.slots] at X' e1 e2 h1 h2 h3 st
    subst h1; subst h2; subst h3
    exact Or.inl ⟨v, (T.setVm vm₁).calling g' mk As.toArray, t, U', L, hT, X', hL, e1, e2, hq, st⟩
  · dsimp only [Pt.U, Pt.locs, Pt.cells, Pt.slots] at X' e1 e2 h1 h2 h3 st hcl
    subst h1; subst h2; subst h3
    exact Or.inr ⟨q, (T.setVm vm₁).calling g' mk As.toArray, t, U', L, E, ce, hT, X', hL, e1, e2, hq, hce, hcv, vx_cls hW₁ hcl, st⟩
end
end VXH
theorem vx_ofWH {l : Launch} {y : MethodName} {ws ws' : List Cond} {rm : Room} {Pc : Array Value → State → Prop} {Qc : Array Value → State → Outcome → State → Prop} {XC : String → State → State → Prop} {mc ms : Nat} {free : Addr → Prop} {cc : ByteArray} {maxL : Nat} {ret : Option FieldType} {hh : List (Nat × Nat × Nat × Nat)}
    (hy : plainName y.cls = true) (hw : ws = Cond.codeWith y cc maxL ret hh :: ws')
    (body : ∀ p e s m args below meth c s₁, BodyLoose p l y (headSpec ws rm) cc maxL ret e s m args below meth c s₁ → c.maxLocals = maxL → Pc args s →
      W p l e (headSpec ws rm).room s m args below meth c s.heap [] 0 0 (vx_MQ below Qc XC args s mc ms free) (entryFrame m args maxL)) : vx_Met l y ws rm Pc Qc XC mc ms free := by
  refine MetFree.of_bodyS (code := cc) (maxLocals := maxL) (ret := ret) hy ?_ ?_
  · intro args s m h hn
    obtain ⟨m9, meth, c, hn9, h1, h2, h3, h4, -, h5, h6, -⟩ := Cond.codeWith_spec (atoms_spec (ws := ws) h _ (by rw [hw]; exact List.mem_cons_self))
    cases hn.symm.trans hn9
    exact ⟨meth, c, h1, h2, h3, h4, h5, h6⟩
  · intro p e s m args below meth c s₁ B hml hP _
    have hh0 : s₁.heap = s.heap := by rw [B.state]; rfl
    obtain ⟨t, a1, o, b1, b2, b3⟩ := body p e s m args below meth c s₁ B hml hP s₁ hh0 (Stand.of_body B)
    exact ⟨t, o, a1, b1, b2, b3⟩
/-! ===== END ===== -/
end
section
def RX0 : String := "RuneBands$Bands"
def TX0 : u_T := fun k => match k with
  | 0 => ("RuneBands$Bands", "cursor", "LRuneBands$Cursor;", true)
  | 1 => ("RuneBands$Bands", "ends", "[I", true)
  | 2 => ("RuneBands$Bands", "lengths", "[I", true)
  | 3 => ("RuneBands$Bands", "turns", "[I", true)
  | 4 => ("RuneBands$Bands", "runes", "[I", true)
  | 5 => ("RuneBands$Bands", "once", "[J", true)
  | 6 => ("RuneBands$Bands", "twice", "[J", true)
  | 7 => ("RuneBands$Bands", "paths", "[I", true)
  | 8 => ("RuneBands$Bands", "rowBands", "[I", true)
  | 9 => ("RuneBands$Bands", "columnBands", "[I", true)
  | 10 => ("RuneBands$Bands", "entries", "[I", true)
  | 11 => ("RuneBands$Bands", "count", "I", false)
  | _ => ("RuneBands$Bands", "crossing", "I", false)
def tyX0 : Nat → FieldType := fun k => match k with
  | 0 => .object "RuneBands$Cursor"
  | 1 => .array .int
  | 2 => .array .int
  | 3 => .array .int
  | 4 => .array .int
  | 5 => .array .long
  | 6 => .array .long
  | 7 => .array .int
  | 8 => .array .int
  | 9 => .array .int
  | 10 => .array .int
  | 11 => .int
  | _ => .int
abbrev wsX00 : List Cond := u_ws RX0 TX0 13
theorem nmX0 : ∀ a, a < 13 → ∀ b, b < 13 → a ≠ b → (TX0 a).2.1 ≠ (TX0 b).2.1 := by decide +kernel
theorem tyX0_ok : ∀ k, k < 13 → parseFieldDescriptor (TX0 k).2.2.1 = some (tyX0 k) := by decide +kernel
abbrev cX0_init : ByteArray := prog_2_method_1_code
def yX0_init : MethodName := ⟨RX0, "<init>", "()V"⟩
abbrev cX0_trace : ByteArray := prog_2_method_2_code
def yX0_trace : MethodName := ⟨RX0, "trace", "(LRuneBands$Stone;)V"⟩
abbrev cX0_forget : ByteArray := prog_2_method_3_code
def yX0_forget : MethodName := ⟨RX0, "forget", "()V"⟩
abbrev cX0_follow : ByteArray := prog_2_method_4_code
def yX0_follow : MethodName := ⟨RX0, "follow", "(LRuneBands$Stone;I)V"⟩
abbrev cX0_note : ByteArray := prog_2_method_5_code
def yX0_note : MethodName := ⟨RX0, "note", "(III)V"⟩
abbrev cX0_countBand : ByteArray := prog_2_method_6_code
def yX0_countBand : MethodName := ⟨RX0, "countBand", "(LRuneBands$Stone;I)V"⟩
abbrev cX0_noteEntry : ByteArray := prog_2_method_7_code
def yX0_noteEntry : MethodName := ⟨RX0, "noteEntry", "([III)V"⟩
abbrev cX0_bandFrom : ByteArray := prog_2_method_8_code
def yX0_bandFrom : MethodName := ⟨RX0, "bandFrom", "(I)I"⟩
abbrev cX0_endOf : ByteArray := prog_2_method_9_code
def yX0_endOf : MethodName := ⟨RX0, "endOf", "(I)I"⟩
abbrev cX0_lengthOf : ByteArray := prog_2_method_10_code
def yX0_lengthOf : MethodName := ⟨RX0, "lengthOf", "(I)I"⟩
abbrev cX0_turnsOf : ByteArray := prog_2_method_11_code
def yX0_turnsOf : MethodName := ⟨RX0, "turnsOf", "(I)I"⟩
abbrev cX0_runesOn : ByteArray := prog_2_method_12_code
def yX0_runesOn : MethodName := ⟨RX0, "runesOn", "(I)I"⟩
abbrev cX0_crossesItself : ByteArray := prog_2_method_13_code
def yX0_crossesItself : MethodName := ⟨RX0, "crossesItself", "(I)Z"⟩
abbrev cX0_maskOf : ByteArray := prog_2_method_14_code
def yX0_maskOf : MethodName := ⟨RX0, "maskOf", "(I)J"⟩
abbrev cX0_cellAt : ByteArray := prog_2_method_15_code
def yX0_cellAt : MethodName := ⟨RX0, "cellAt", "(II)I"⟩
abbrev cX0_bandInRow : ByteArray := prog_2_method_16_code
def yX0_bandInRow : MethodName := ⟨RX0, "bandInRow", "(I)I"⟩
abbrev cX0_bandInColumn : ByteArray := prog_2_method_17_code
def yX0_bandInColumn : MethodName := ⟨RX0, "bandInColumn", "(I)I"⟩
abbrev cX0_entriesInto : ByteArray := prog_2_method_18_code
def yX0_entriesInto : MethodName := ⟨RX0, "entriesInto", "(I)I"⟩
def RX1 : String := "RuneBands$Cursor"
def TX1 : u_T := fun k => match k with
  | 0 => ("RuneBands$Cursor", "row", "I", false)
  | 1 => ("RuneBands$Cursor", "column", "I", false)
  | _ => ("RuneBands$Cursor", "direction", "I", false)
def tyX1 : Nat → FieldType := fun k => match k with
  | 0 => .int
  | 1 => .int
  | _ => .int
abbrev wsX10 : List Cond := u_ws RX1 TX1 3
theorem nmX1 : ∀ a, a < 3 → ∀ b, b < 3 → a ≠ b → (TX1 a).2.1 ≠ (TX1 b).2.1 := by decide +kernel
theorem tyX1_ok : ∀ k, k < 3 → parseFieldDescriptor (TX1 k).2.2.1 = some (tyX1 k) := by decide +kernel
abbrev cX1_init : ByteArray := prog_3_method_1_code
def yX1_init : MethodName := ⟨RX1, "<init>", "()V"⟩
abbrev cX1_enter : ByteArray := prog_3_method_2_code
def yX1_enter : MethodName := ⟨RX1, "enter", "(LRuneBands$Stone;I)V"⟩
abbrev cX1_stand : ByteArray := prog_3_method_3_code
def yX1_stand : MethodName := ⟨RX1, "stand", "(III)V"⟩
abbrev cX1_cellOn : ByteArray := prog_3_method_4_code
def yX1_cellOn : MethodName := ⟨RX1, "cellOn", "(LRuneBands$Stone;)I"⟩
abbrev cX1_goOn : ByteArray := prog_3_method_5_code
def yX1_goOn : MethodName := ⟨RX1, "goOn", "(I)V"⟩
abbrev cX1_directionBehind : ByteArray := prog_3_method_6_code
def yX1_directionBehind : MethodName := ⟨RX1, "directionBehind", "(I)I"⟩
abbrev cX1_gateBehind : ByteArray := prog_3_method_7_code
def yX1_gateBehind : MethodName := ⟨RX1, "gateBehind", "(LRuneBands$Stone;)I"⟩
def RX2 : String := "RuneBands$History"
def TX2 : u_T := fun k => match k with
  | 0 => ("RuneBands$History", "stones", "[LRuneBands$Stone;", true)
  | 1 => ("RuneBands$History", "lists", "[LRuneBands$Words;", true)
  | 2 => ("RuneBands$History", "count", "I", false)
  | _ => ("RuneBands$History", "next", "I", false)
def tyX2 : Nat → FieldType := fun k => match k with
  | 0 => .array (.object "RuneBands$Stone")
  | 1 => .array (.object "RuneBands$Words")
  | 2 => .int
  | _ => .int
abbrev wsX20 : List Cond := u_ws RX2 TX2 4
theorem nmX2 : ∀ a, a < 4 → ∀ b, b < 4 → a ≠ b → (TX2 a).2.1 ≠ (TX2 b).2.1 := by decide +kernel
theorem tyX2_ok : ∀ k, k < 4 → parseFieldDescriptor (TX2 k).2.2.1 = some (tyX2 k) := by decide +kernel
abbrev cX2_init : ByteArray := prog_4_method_1_code
def yX2_init : MethodName := ⟨RX2, "<init>", "()V"⟩
abbrev cX2_save : ByteArray := prog_4_method_2_code
def yX2_save : MethodName := ⟨RX2, "save", "(LRuneBands$Stone;LRuneBands$Words;)V"⟩
abbrev cX2_restore : ByteArray := prog_4_method_3_code
def yX2_restore : MethodName := ⟨RX2, "restore", "(LRuneBands$Stone;LRuneBands$Words;)V"⟩
abbrev cX2_stoneAt : ByteArray := prog_4_method_4_code
def yX2_stoneAt : MethodName := ⟨RX2, "stoneAt", "(I)LRuneBands$Stone;"⟩
abbrev cX2_wordsAt : ByteArray := prog_4_method_5_code
def yX2_wordsAt : MethodName := ⟨RX2, "wordsAt", "(I)LRuneBands$Words;"⟩
def RX3 : String := "RuneBands$Reading"
def TX3 : u_T := fun k => match k with
  | 0 => ("RuneBands$Reading", "bytes", "[I", true)
  | 1 => ("RuneBands$Reading", "length", "I", false)
  | _ => ("RuneBands$Reading", "gapBefore", "Z", false)
def tyX3 : Nat → FieldType := fun k => match k with
  | 0 => .array .int
  | 1 => .int
  | _ => .boolean
abbrev wsX30 : List Cond := u_ws RX3 TX3 3
theorem nmX3 : ∀ a, a < 3 → ∀ b, b < 3 → a ≠ b → (TX3 a).2.1 ≠ (TX3 b).2.1 := by decide +kernel
theorem tyX3_ok : ∀ k, k < 3 → parseFieldDescriptor (TX3 k).2.2.1 = some (tyX3 k) := by decide +kernel
abbrev cX3_init : ByteArray := prog_5_method_1_code
def yX3_init : MethodName := ⟨RX3, "<init>", "()V"⟩
abbrev cX3_take : ByteArray := prog_5_method_2_code
def yX3_take : MethodName := ⟨RX3, "take", "(LRuneBands$Stone;LRuneBands$Bands;I)V"⟩
abbrev cX3_takeCell : ByteArray := prog_5_method_3_code
def yX3_takeCell : MethodName := ⟨RX3, "takeCell", "(I)V"⟩
abbrev cX3_addLetter : ByteArray := prog_5_method_4_code
def yX3_addLetter : MethodName := ⟨RX3, "addLetter", "(I)V"⟩
abbrev cX3_add : ByteArray := prog_5_method_5_code
def yX3_add : MethodName := ⟨RX3, "add", "(I)V"⟩
abbrev cX3_byteAt : ByteArray := prog_5_method_6_code
def yX3_byteAt : MethodName := ⟨RX3, "byteAt", "(I)I"⟩
abbrev cX3_hasBytesOf : ByteArray := prog_5_method_7_code
def yX3_hasBytesOf : MethodName := ⟨RX3, "hasBytesOf", "(LRuneBands$Reading;)Z"⟩
abbrev cX3_score : ByteArray := prog_5_method_8_code
def yX3_score : MethodName := ⟨RX3, "score", "(LRuneBands$Words;)I"⟩
def RX4 : String := "RuneBands$Search"
def TX4 : u_T := fun k => match k with
  | 0 => ("RuneBands$Search", "runesOf", "[J", true)
  | 1 => ("RuneBands$Search", "lowerBands", "[I", true)
  | 2 => ("RuneBands$Search", "higherBands", "[I", true)
  | 3 => ("RuneBands$Search", "picked", "[I", true)
  | 4 => ("RuneBands$Search", "first", "[I", true)
  | 5 => ("RuneBands$Search", "allRunes", "J", false)
  | 6 => ("RuneBands$Search", "most", "I", false)
  | 7 => ("RuneBands$Search", "looked", "I", false)
  | 8 => ("RuneBands$Search", "found", "I", false)
  | 9 => ("RuneBands$Search", "firstSize", "I", false)
  | 10 => ("RuneBands$Search", "smallest", "I", false)
  | _ => ("RuneBands$Search", "stopped", "Z", false)
def tyX4 : Nat → FieldType := fun k => match k with
  | 0 => .array .long
  | 1 => .array .int
  | 2 => .array .int
  | 3 => .array .int
  | 4 => .array .int
  | 5 => .long
  | 6 => .int
  | 7 => .int
  | 8 => .int
  | 9 => .int
  | 10 => .int
  | _ => .boolean
abbrev wsX40 : List Cond := u_ws RX4 TX4 12
theorem nmX4 : ∀ a, a < 12 → ∀ b, b < 12 → a ≠ b → (TX4 a).2.1 ≠ (TX4 b).2.1 := by decide +kernel
theorem tyX4_ok : ∀ k, k < 12 → parseFieldDescriptor (TX4 k).2.2.1 = some (tyX4 k) := by decide +kernel
abbrev cX4_init : ByteArray := prog_6_method_1_code
def yX4_init : MethodName := ⟨RX4, "<init>", "()V"⟩
abbrev cX4_run : ByteArray := prog_6_method_2_code
def yX4_run : MethodName := ⟨RX4, "run", "(LRuneBands$Stone;LRuneBands$Bands;I)V"⟩
abbrev cX4_takeBands : ByteArray := prog_6_method_3_code
def yX4_takeBands : MethodName := ⟨RX4, "takeBands", "(LRuneBands$Bands;)V"⟩
abbrev cX4_pairBands : ByteArray := prog_6_method_4_code
def yX4_pairBands : MethodName := ⟨RX4, "pairBands", "(LRuneBands$Bands;)V"⟩
abbrev cX4_look : ByteArray := prog_6_method_5_code
def yX4_look : MethodName := ⟨RX4, "look", "(LRuneBands$Search;IJ)V"⟩
abbrev cX4_isOver : ByteArray := prog_6_method_6_code
def yX4_isOver : MethodName := ⟨RX4, "isOver", "()Z"⟩
abbrev cX4_keepChoice : ByteArray := prog_6_method_7_code
def yX4_keepChoice : MethodName := ⟨RX4, "keepChoice", "(I)V"⟩
abbrev cX4_firstBandAt : ByteArray := prog_6_method_8_code
def yX4_firstBandAt : MethodName := ⟨RX4, "firstBandAt", "(I)I"⟩
def RX5 : String := "RuneBands$Stone"
def TX5 : u_T := fun k => match k with
  | 0 => ("RuneBands$Stone", "width", "I", false)
  | 1 => ("RuneBands$Stone", "height", "I", false)
  | 2 => ("RuneBands$Stone", "cells", "[I", true)
  | _ => ("RuneBands$Stone", "turned", "[I", true)
def tyX5 : Nat → FieldType := fun k => match k with
  | 0 => .int
  | 1 => .int
  | 2 => .array .int
  | _ => .array .int
abbrev wsX50 : List Cond := u_ws RX5 TX5 4
theorem nmX5 : ∀ a, a < 4 → ∀ b, b < 4 → a ≠ b → (TX5 a).2.1 ≠ (TX5 b).2.1 := by decide +kernel
theorem tyX5_ok : ∀ k, k < 4 → parseFieldDescriptor (TX5 k).2.2.1 = some (tyX5 k) := by decide +kernel
abbrev cX5_init : ByteArray := prog_7_method_1_code
def yX5_init : MethodName := ⟨RX5, "<init>", "()V"⟩
abbrev cX5_clear : ByteArray := prog_7_method_2_code
def yX5_clear : MethodName := ⟨RX5, "clear", "(II)V"⟩
abbrev cX5_takeFrom : ByteArray := prog_7_method_3_code
def yX5_takeFrom : MethodName := ⟨RX5, "takeFrom", "(LRuneBands$Stone;)V"⟩
abbrev cX5_cellCount : ByteArray := prog_7_method_4_code
def yX5_cellCount : MethodName := ⟨RX5, "cellCount", "()I"⟩
abbrev cX5_gateCount : ByteArray := prog_7_method_5_code
def yX5_gateCount : MethodName := ⟨RX5, "gateCount", "()I"⟩
abbrev cX5_hasCell : ByteArray := prog_7_method_6_code
def yX5_hasCell : MethodName := ⟨RX5, "hasCell", "(I)Z"⟩
abbrev cX5_hasGate : ByteArray := prog_7_method_7_code
def yX5_hasGate : MethodName := ⟨RX5, "hasGate", "(I)Z"⟩
abbrev cX5_byteAt : ByteArray := prog_7_method_8_code
def yX5_byteAt : MethodName := ⟨RX5, "byteAt", "(I)I"⟩
abbrev cX5_putByte : ByteArray := prog_7_method_9_code
def yX5_putByte : MethodName := ⟨RX5, "putByte", "(II)V"⟩
abbrev cX5_turnEachCorner : ByteArray := prog_7_method_10_code
def yX5_turnEachCorner : MethodName := ⟨RX5, "turnEachCorner", "()V"⟩
abbrev cX5_turnRight : ByteArray := prog_7_method_11_code
def yX5_turnRight : MethodName := ⟨RX5, "turnRight", "()V"⟩
abbrev cX5_runeMask : ByteArray := prog_7_method_12_code
def yX5_runeMask : MethodName := ⟨RX5, "runeMask", "()J"⟩
abbrev cX5_countRunes : ByteArray := prog_7_method_13_code
def yX5_countRunes : MethodName := ⟨RX5, "countRunes", "()I"⟩
abbrev cX5_countSharedRunes : ByteArray := prog_7_method_14_code
def yX5_countSharedRunes : MethodName := ⟨RX5, "countSharedRunes", "()I"⟩
abbrev cX5_countCorners : ByteArray := prog_7_method_15_code
def yX5_countCorners : MethodName := ⟨RX5, "countCorners", "()I"⟩
abbrev cX5_countBrokenCorners : ByteArray := prog_7_method_16_code
def yX5_countBrokenCorners : MethodName := ⟨RX5, "countBrokenCorners", "()I"⟩
def RX6 : String := "RuneBands$Text"
def TX6 : u_T := fun k => match k with
  | 0 => ("RuneBands$Text", "bytes", "[I", true)
  | _ => ("RuneBands$Text", "length", "I", false)
def tyX6 : Nat → FieldType := fun k => match k with
  | 0 => .array .int
  | _ => .int
abbrev wsX60 : List Cond := u_ws RX6 TX6 2
theorem nmX6 : ∀ a, a < 2 → ∀ b, b < 2 → a ≠ b → (TX6 a).2.1 ≠ (TX6 b).2.1 := by decide +kernel
theorem tyX6_ok : ∀ k, k < 2 → parseFieldDescriptor (TX6 k).2.2.1 = some (tyX6 k) := by decide +kernel
abbrev cX6_init : ByteArray := prog_8_method_1_code
def yX6_init : MethodName := ⟨RX6, "<init>", "()V"⟩
abbrev cX6_isFull : ByteArray := prog_8_method_2_code
def yX6_isFull : MethodName := ⟨RX6, "isFull", "()Z"⟩
abbrev cX6_add : ByteArray := prog_8_method_3_code
def yX6_add : MethodName := ⟨RX6, "add", "(I)V"⟩
abbrev cX6_isWord : ByteArray := prog_8_method_4_code
def yX6_isWord : MethodName := ⟨RX6, "isWord", "()Z"⟩
def RX7 : String := "RuneBands$Words"
def TX7 : u_T := fun k => match k with
  | 0 => ("RuneBands$Words", "count", "I", false)
  | 1 => ("RuneBands$Words", "lengths", "[I", true)
  | _ => ("RuneBands$Words", "letters", "[I", true)
def tyX7 : Nat → FieldType := fun k => match k with
  | 0 => .int
  | 1 => .array .int
  | _ => .array .int
abbrev wsX70 : List Cond := u_ws RX7 TX7 3
theorem nmX7 : ∀ a, a < 3 → ∀ b, b < 3 → a ≠ b → (TX7 a).2.1 ≠ (TX7 b).2.1 := by decide +kernel
theorem tyX7_ok : ∀ k, k < 3 → parseFieldDescriptor (TX7 k).2.2.1 = some (tyX7 k) := by decide +kernel
abbrev cX7_init : ByteArray := prog_9_method_1_code
def yX7_init : MethodName := ⟨RX7, "<init>", "()V"⟩
abbrev cX7_takeFrom : ByteArray := prog_9_method_2_code
def yX7_takeFrom : MethodName := ⟨RX7, "takeFrom", "(LRuneBands$Words;)V"⟩
abbrev cX7_has : ByteArray := prog_9_method_3_code
def yX7_has : MethodName := ⟨RX7, "has", "(I)Z"⟩
abbrev cX7_isFull : ByteArray := prog_9_method_4_code
def yX7_isFull : MethodName := ⟨RX7, "isFull", "()Z"⟩
abbrev cX7_letterAt : ByteArray := prog_9_method_5_code
def yX7_letterAt : MethodName := ⟨RX7, "letterAt", "(II)I"⟩
abbrev cX7_byteAt : ByteArray := prog_9_method_6_code
def yX7_byteAt : MethodName := ⟨RX7, "byteAt", "(II)I"⟩
abbrev cX7_add : ByteArray := prog_9_method_7_code
def yX7_add : MethodName := ⟨RX7, "add", "([II)I"⟩
abbrev cX7_remove : ByteArray := prog_9_method_8_code
def yX7_remove : MethodName := ⟨RX7, "remove", "(I)V"⟩
abbrev cX7_find : ByteArray := prog_9_method_9_code
def yX7_find : MethodName := ⟨RX7, "find", "([III)I"⟩
abbrev cX7_stands : ByteArray := prog_9_method_10_code
def yX7_stands : MethodName := ⟨RX7, "stands", "(I[II)Z"⟩
def RX8 : String := "RuneBands"
def TX8 : u_T := fun k => match k with
  | 0 => ("RuneBands", "stone", "LRuneBands$Stone;", true)
  | 1 => ("RuneBands", "words", "LRuneBands$Words;", true)
  | 2 => ("RuneBands", "history", "LRuneBands$History;", true)
  | 3 => ("RuneBands", "bands", "LRuneBands$Bands;", true)
  | 4 => ("RuneBands", "search", "LRuneBands$Search;", true)
  | 5 => ("RuneBands", "reading", "LRuneBands$Reading;", true)
  | 6 => ("RuneBands", "otherReading", "LRuneBands$Reading;", true)
  | _ => ("RuneBands", "text", "LRuneBands$Text;", true)
def tyX8 : Nat → FieldType := fun k => match k with
  | 0 => .object "RuneBands$Stone"
  | 1 => .object "RuneBands$Words"
  | 2 => .object "RuneBands$History"
  | 3 => .object "RuneBands$Bands"
  | 4 => .object "RuneBands$Search"
  | 5 => .object "RuneBands$Reading"
  | 6 => .object "RuneBands$Reading"
  | _ => .object "RuneBands$Text"
abbrev wsX80 : List Cond := u_ws RX8 TX8 8
theorem nmX8 : ∀ a, a < 8 → ∀ b, b < 8 → a ≠ b → (TX8 a).2.1 ≠ (TX8 b).2.1 := by decide +kernel
theorem tyX8_ok : ∀ k, k < 8 → parseFieldDescriptor (TX8 k).2.2.1 = some (tyX8 k) := by decide +kernel
abbrev cX8_init : ByteArray := prog_1_method_1_code
def yX8_init : MethodName := ⟨RX8, "<init>", "()V"⟩
abbrev cX8_setSize : ByteArray := prog_1_method_2_code
def yX8_setSize : MethodName := ⟨RX8, "setSize", "(II)I"⟩
abbrev cX8_setCell : ByteArray := prog_1_method_3_code
def yX8_setCell : MethodName := ⟨RX8, "setCell", "(II)I"⟩
abbrev cX8_turnCorners : ByteArray := prog_1_method_4_code
def yX8_turnCorners : MethodName := ⟨RX8, "turnCorners", "()I"⟩
abbrev cX8_turnStone : ByteArray := prog_1_method_5_code
def yX8_turnStone : MethodName := ⟨RX8, "turnStone", "()I"⟩
abbrev cX8_addWord : ByteArray := prog_1_method_6_code
def yX8_addWord : MethodName := ⟨RX8, "addWord", "()I"⟩
abbrev cX8_removeWord : ByteArray := prog_1_method_7_code
def yX8_removeWord : MethodName := ⟨RX8, "removeWord", "(I)I"⟩
abbrev cX8_cell : ByteArray := prog_1_method_8_code
def yX8_cell : MethodName := ⟨RX8, "cell", "(II)I"⟩
abbrev cX8_value : ByteArray := prog_1_method_9_code
def yX8_value : MethodName := ⟨RX8, "value", "(I)I"⟩
abbrev cX8_word : ByteArray := prog_1_method_10_code
def yX8_word : MethodName := ⟨RX8, "word", "(II)I"⟩
abbrev cX8_band : ByteArray := prog_1_method_11_code
def yX8_band : MethodName := ⟨RX8, "band", "(II)I"⟩
abbrev cX8_cellOf : ByteArray := prog_1_method_12_code
def yX8_cellOf : MethodName := ⟨RX8, "cellOf", "(II)I"⟩
abbrev cX8_read : ByteArray := prog_1_method_13_code
def yX8_read : MethodName := ⟨RX8, "read", "(II)I"⟩
abbrev cX8_wordsOf : ByteArray := prog_1_method_14_code
def yX8_wordsOf : MethodName := ⟨RX8, "wordsOf", "(I)I"⟩
abbrev cX8_alike : ByteArray := prog_1_method_15_code
def yX8_alike : MethodName := ⟨RX8, "alike", "(I)Z"⟩
abbrev cX8_choices : ByteArray := prog_1_method_16_code
def yX8_choices : MethodName := ⟨RX8, "choices", "(I)I"⟩
abbrev cX8_nodes : ByteArray := prog_1_method_17_code
def yX8_nodes : MethodName := ⟨RX8, "nodes", "(I)I"⟩
abbrev cX8_chosen : ByteArray := prog_1_method_18_code
def yX8_chosen : MethodName := ⟨RX8, "chosen", "(I)I"⟩
abbrev cX8_fewest : ByteArray := prog_1_method_19_code
def yX8_fewest : MethodName := ⟨RX8, "fewest", "()I"⟩
abbrev cX8_repair : ByteArray := prog_1_method_20_code
def yX8_repair : MethodName := ⟨RX8, "repair", "()I"⟩
abbrev cX8_told : ByteArray := prog_1_method_21_code
def yX8_told : MethodName := ⟨RX8, "told", "()D"⟩
abbrev cX8_append : ByteArray := prog_1_method_22_code
def yX8_append : MethodName := ⟨RX8, "append", "(I)I"⟩
abbrev cX8_clearText : ByteArray := prog_1_method_23_code
def yX8_clearText : MethodName := ⟨RX8, "clearText", "()I"⟩
abbrev cX8_undo : ByteArray := prog_1_method_25_code
def yX8_undo : MethodName := ⟨RX8, "undo", "()I"⟩
abbrev cX8_saveState : ByteArray := prog_1_method_27_code
def yX8_saveState : MethodName := ⟨RX8, "saveState", "()V"⟩
abbrev cX8_cellFact : ByteArray := prog_1_method_28_code
def yX8_cellFact : MethodName := ⟨RX8, "cellFact", "(II)I"⟩
abbrev cX8_numberOf : ByteArray := prog_1_method_29_code
def yX8_numberOf : MethodName := ⟨RX8, "numberOf", "(I)I"⟩
abbrev cX8_bandFact : ByteArray := prog_1_method_30_code
def yX8_bandFact : MethodName := ⟨RX8, "bandFact", "(II)I"⟩
abbrev cX8_scoreOf : ByteArray := prog_1_method_31_code
def yX8_scoreOf : MethodName := ⟨RX8, "scoreOf", "(I)I"⟩
abbrev cX8_repairOf : ByteArray := prog_1_method_32_code
def yX8_repairOf : MethodName := ⟨RX8, "repairOf", "(I)I"⟩
abbrev cX8_hasChoiceWith : ByteArray := prog_1_method_33_code
def yX8_hasChoiceWith : MethodName := ⟨RX8, "hasChoiceWith", "(II)Z"⟩
abbrev cX8_isWithin : ByteArray := prog_1_method_37_code
def yX8_isWithin : MethodName := ⟨RX8, "isWithin", "(III)Z"⟩
abbrev cX8_isSide : ByteArray := prog_1_method_38_code
def yX8_isSide : MethodName := ⟨RX8, "isSide", "(I)Z"⟩
abbrev cX8_isLetter : ByteArray := prog_1_method_39_code
def yX8_isLetter : MethodName := ⟨RX8, "isLetter", "(I)Z"⟩
abbrev cX8_isSharedRune : ByteArray := prog_1_method_40_code
def yX8_isSharedRune : MethodName := ⟨RX8, "isSharedRune", "(I)Z"⟩
abbrev cX8_isRune : ByteArray := prog_1_method_41_code
def yX8_isRune : MethodName := ⟨RX8, "isRune", "(I)Z"⟩
abbrev cX8_isCorner : ByteArray := prog_1_method_42_code
def yX8_isCorner : MethodName := ⟨RX8, "isCorner", "(I)Z"⟩
abbrev cX8_isCellByte : ByteArray := prog_1_method_43_code
def yX8_isCellByte : MethodName := ⟨RX8, "isCellByte", "(I)Z"⟩
abbrev cX8_letterOf : ByteArray := prog_1_method_44_code
def yX8_letterOf : MethodName := ⟨RX8, "letterOf", "(I)I"⟩
abbrev cX8_turnedCorner : ByteArray := prog_1_method_45_code
def yX8_turnedCorner : MethodName := ⟨RX8, "turnedCorner", "(I)I"⟩
abbrev cX8_at : ByteArray := prog_1_method_46_code
def yX8_at : MethodName := ⟨RX8, "at", "([II)I"⟩
abbrev cX8_at_ : ByteArray := prog_1_method_47_code
def yX8_at_ : MethodName := ⟨RX8, "at", "([JI)J"⟩
abbrev cX8_put : ByteArray := prog_1_method_48_code
def yX8_put : MethodName := ⟨RX8, "put", "([III)V"⟩
abbrev cX8_put_ : ByteArray := prog_1_method_49_code
def yX8_put_ : MethodName := ⟨RX8, "put", "([JIJ)V"⟩
abbrev cX8_copy : ByteArray := prog_1_method_50_code
def yX8_copy : MethodName := ⟨RX8, "copy", "([I[I)V"⟩
def RX9 : String := "RuneBandsModel"
def TX9 : u_T := fun k => match k with
  | _ => ("", "", "", false)
def tyX9 : Nat → FieldType := fun k => match k with
  | _ => .int
abbrev wsX90 : List Cond := u_ws RX9 TX9 0
theorem nmX9 : ∀ a, a < 0 → ∀ b, b < 0 → a ≠ b → (TX9 a).2.1 ≠ (TX9 b).2.1 := by decide +kernel
theorem tyX9_ok : ∀ k, k < 0 → parseFieldDescriptor (TX9 k).2.2.1 = some (tyX9 k) := by decide +kernel
def RJx145de : String := "java/io/Serializable"
def TJx145de : u_T := fun k => match k with
  | _ => ("", "", "", false)
def tyJx145de : Nat → FieldType := fun k => match k with
  | _ => .int
abbrev wsJx145de0 : List Cond := u_ws RJx145de TJx145de 0
def RJ13 : String := "java/lang/Long"
def TJ13 : u_T := fun k => match k with
  | _ => ("", "", "", false)
def tyJ13 : Nat → FieldType := fun k => match k with
  | _ => .int
abbrev wsJ130 : List Cond := u_ws RJ13 TJ13 0
abbrev cJ13_bitCount_95d88 : ByteArray := prog_16_method_50_code
def yJ13_bitCount_95d88 : MethodName := ⟨RJ13, "bitCount", "(J)I"⟩
def RJ9 : String := "java/lang/Math"
def TJ9 : u_T := fun k => match k with
  | _ => ("", "", "", false)
def tyJ9 : Nat → FieldType := fun k => match k with
  | _ => .int
abbrev wsJ90 : List Cond := u_ws RJ9 TJ9 0
abbrev cJ9_max_7cf53 : ByteArray := prog_17_method_65_code
def yJ9_max_7cf53 : MethodName := ⟨RJ9, "max", "(II)I"⟩
abbrev cJ9_min_7cf53 : ByteArray := prog_17_method_69_code
def yJ9_min_7cf53 : MethodName := ⟨RJ9, "min", "(II)I"⟩
def RJ0 : String := "java/lang/String"
def TJ0 : u_T := fun k => match k with
  | _ => ("", "", "", false)
def tyJ0 : Nat → FieldType := fun k => match k with
  | _ => .int
abbrev wsJ00 : List Cond := u_ws RJ0 TJ0 0
def RJ7 : String := "java/util/Arrays"
def TJ7 : u_T := fun k => match k with
  | _ => ("", "", "", false)
def tyJ7 : Nat → FieldType := fun k => match k with
  | _ => .int
abbrev wsJ70 : List Cond := u_ws RJ7 TJ7 0
abbrev cJ7_fill_d0a16 : ByteArray := prog_21_method_101_code
def yJ7_fill_d0a16 : MethodName := ⟨RJ7, "fill", "([JJ)V"⟩
abbrev cJ7_fill_53178 : ByteArray := prog_21_method_103_code
def yJ7_fill_53178 : MethodName := ⟨RJ7, "fill", "([II)V"⟩
def RL : String := "RuneBandsLaw"
abbrev cL_cell : ByteArray := method_2_code
def yL_cell : MethodName := ⟨RL, "cell", "([II)I"⟩
abbrev cL_low : ByteArray := method_3_code
def yL_low : MethodName := ⟨RL, "low", "(II)I"⟩
abbrev cL_setSize : ByteArray := method_4_code
def yL_setSize : MethodName := ⟨RL, "setSize", "(LRuneBands;II)I"⟩
abbrev cL_setCell : ByteArray := method_5_code
def yL_setCell : MethodName := ⟨RL, "setCell", "(LRuneBands;II)I"⟩
abbrev cL_addWord : ByteArray := method_6_code
def yL_addWord : MethodName := ⟨RL, "addWord", "(LRuneBands;)I"⟩
abbrev cL_removeWord : ByteArray := method_7_code
def yL_removeWord : MethodName := ⟨RL, "removeWord", "(LRuneBands;I)I"⟩
abbrev cL_cellAt : ByteArray := method_8_code
def yL_cellAt : MethodName := ⟨RL, "cellAt", "(LRuneBands;II)I"⟩
abbrev cL_value : ByteArray := method_9_code
def yL_value : MethodName := ⟨RL, "value", "(LRuneBands;I)I"⟩
abbrev cL_word : ByteArray := method_10_code
def yL_word : MethodName := ⟨RL, "word", "(LRuneBands;II)I"⟩
abbrev cL_band : ByteArray := method_11_code
def yL_band : MethodName := ⟨RL, "band", "(LRuneBands;II)I"⟩
abbrev cL_cellOf : ByteArray := method_12_code
def yL_cellOf : MethodName := ⟨RL, "cellOf", "(LRuneBands;II)I"⟩
abbrev cL_read : ByteArray := method_13_code
def yL_read : MethodName := ⟨RL, "read", "(LRuneBands;II)I"⟩
abbrev cL_wordsOf : ByteArray := method_14_code
def yL_wordsOf : MethodName := ⟨RL, "wordsOf", "(LRuneBands;I)I"⟩
abbrev cL_alike : ByteArray := method_15_code
def yL_alike : MethodName := ⟨RL, "alike", "(LRuneBands;I)I"⟩
abbrev cL_choices : ByteArray := method_16_code
def yL_choices : MethodName := ⟨RL, "choices", "(LRuneBands;I)I"⟩
abbrev cL_nodes : ByteArray := method_17_code
def yL_nodes : MethodName := ⟨RL, "nodes", "(LRuneBands;I)I"⟩
abbrev cL_chosen : ByteArray := method_18_code
def yL_chosen : MethodName := ⟨RL, "chosen", "(LRuneBands;I)I"⟩
abbrev cL_append : ByteArray := method_19_code
def yL_append : MethodName := ⟨RL, "append", "(LRuneBands;I)I"⟩
abbrev cL_undo : ByteArray := method_20_code
def yL_undo : MethodName := ⟨RL, "undo", "(LRuneBands;)I"⟩
abbrev cL_print : ByteArray := method_21_code
def yL_print : MethodName := ⟨RL, "print", "(LRuneBands;)J"⟩
abbrev cL_refused : ByteArray := method_22_code
def yL_refused : MethodName := ⟨RL, "refused", "(LRuneBands;)Z"⟩
abbrev cL_areBands : ByteArray := method_23_code
def yL_areBands : MethodName := ⟨RL, "areBands", "(LRuneBands;)Z"⟩
abbrev cL_isReading : ByteArray := method_24_code
def yL_isReading : MethodName := ⟨RL, "isReading", "(LRuneBands;I)Z"⟩
abbrev cL_isListed : ByteArray := method_25_code
def yL_isListed : MethodName := ⟨RL, "isListed", "(LRuneBands;III)Z"⟩
abbrev cL_areWords : ByteArray := method_26_code
def yL_areWords : MethodName := ⟨RL, "areWords", "(LRuneBands;I)Z"⟩
abbrev cL_areChoices : ByteArray := method_27_code
def yL_areChoices : MethodName := ⟨RL, "areChoices", "(LRuneBands;)Z"⟩
abbrev cL_isTurned : ByteArray := method_28_code
def yL_isTurned : MethodName := ⟨RL, "isTurned", "(LRuneBands;)Z"⟩
abbrev cL_byteOf : ByteArray := method_29_code
def yL_byteOf : MethodName := ⟨RL, "byteOf", "(I)I"⟩
abbrev cL_acts : ByteArray := method_30_code
def yL_acts : MethodName := ⟨RL, "acts", "(LRuneBands;II)I"⟩
abbrev cL_law : ByteArray := code
def yL_law : MethodName := ⟨RL, "law", "([I)Z"⟩
abbrev vwCl : List vw_C := [(RX0, TX0, 13), (RX1, TX1, 3), (RX2, TX2, 4), (RX3, TX3, 3), (RX4, TX4, 12), (RX5, TX5, 4), (RX6, TX6, 2), (RX7, TX7, 3), (RX8, TX8, 8)]
end
section
/-! ===== the tables of the methods: by program (wip/p28/gen1.py) ===== -/
def Rn (a : Nat) : String := [RX0, RX1, RX2, RX3, RX4, RX5, RX6, RX7, RX8, RX8, RL, RJ13, RJ9, RJ7].getD a ""
def mNL : List MethodName := [yX0_init, yX0_trace, yX0_forget, yX0_follow, yX0_note, yX0_countBand, yX0_noteEntry, yX0_bandFrom, yX0_endOf, yX0_lengthOf, yX0_turnsOf, yX0_runesOn, yX0_crossesItself, yX0_maskOf, yX0_cellAt, yX0_bandInRow, yX0_bandInColumn, yX0_entriesInto, yX1_init, yX1_enter, yX1_stand, yX1_cellOn, yX1_goOn, yX1_directionBehind, yX1_gateBehind, yX2_init, yX2_save, yX2_restore, yX2_stoneAt, yX2_wordsAt, yX3_init, yX3_take, yX3_takeCell, yX3_addLetter, yX3_add, yX3_byteAt, yX3_hasBytesOf, yX3_score, yX4_init, yX4_run, yX4_takeBands, yX4_pairBands, yX4_look, yX4_isOver, yX4_keepChoice, yX4_firstBandAt, yX5_init, yX5_clear, yX5_takeFrom, yX5_cellCount, yX5_gateCount, yX5_hasCell, yX5_hasGate, yX5_byteAt, yX5_putByte, yX5_turnEachCorner, yX5_turnRight, yX5_runeMask, yX5_countRunes, yX5_countSharedRunes, yX5_countCorners, yX5_countBrokenCorners, yX6_init, yX6_isFull, yX6_add, yX6_isWord, yX8_isLetter, yX8_isLetter, yX8_isLetter, yX7_init, yX7_takeFrom, yX7_has, yX7_isFull, yX7_letterAt, yX7_byteAt, yX7_add, yX7_remove, yX7_find, yX7_stands, yX8_isLetter, yX8_init, yX8_setSize, yX8_setCell, yX8_turnCorners, yX8_turnStone, yX8_addWord, yX8_removeWord, yX8_cell, yX8_value, yX8_word, yX8_band, yX8_cellOf, yX8_read, yX8_wordsOf, yX8_alike, yX8_choices, yX8_nodes, yX8_chosen, yX8_fewest, yX8_repair, yX8_told, yX8_append, yX8_clearText, yX8_isLetter, yX8_undo, yX8_isLetter, yX8_saveState, yX8_cellFact, yX8_numberOf, yX8_bandFact, yX8_scoreOf, yX8_repairOf, yX8_hasChoiceWith, yX8_isLetter, yX8_isLetter, yX8_isLetter, yX8_isWithin, yX8_isSide, yX8_isLetter, yX8_isSharedRune, yX8_isRune, yX8_isCorner, yX8_isCellByte, yX8_letterOf, yX8_turnedCorner, yX8_at, yX8_at_, yX8_put, yX8_put_, yX8_copy, yL_cell, yL_low, yL_setSize, yL_setCell, yL_addWord, yL_removeWord, yL_cellAt, yL_value, yL_word, yL_band, yL_cellOf, yL_read, yL_wordsOf, yL_alike, yL_choices, yL_nodes, yL_chosen, yL_append, yL_undo, yL_print, yL_refused, yL_areBands, yL_isReading, yL_isListed, yL_areWords, yL_areChoices, yL_isTurned, yL_byteOf, yL_acts, yX8_isLetter, yX8_isLetter, yX8_isLetter, yX8_isLetter, yX8_isLetter, yX8_isLetter, yX8_isLetter, yX8_isLetter, yX8_isLetter, yX8_isLetter, yX8_isLetter, yX8_isLetter, yX8_isLetter, yX8_isLetter, yX8_isLetter, yX8_isLetter, yX8_isLetter, yX8_isLetter, yX8_isLetter, yX8_isLetter, yX8_isLetter, yX8_isLetter, yX8_isLetter, yX8_isLetter, yX8_isLetter, yX8_isLetter, yX8_isLetter, yX8_isLetter, yX8_isLetter, yX8_isLetter, yX8_isLetter, yX8_isLetter, yX8_isLetter, yX8_isLetter, yX8_isLetter, yX8_isLetter, yX8_isLetter, yX8_isLetter, yX8_isLetter, yX8_isLetter, yJ13_bitCount_95d88, yJ7_fill_d0a16, yJ7_fill_53178, yL_law]
def mBL : List ByteArray := [cX0_init, cX0_trace, cX0_forget, cX0_follow, cX0_note, cX0_countBand, cX0_noteEntry, cX0_bandFrom, cX0_endOf, cX0_lengthOf, cX0_turnsOf, cX0_runesOn, cX0_crossesItself, cX0_maskOf, cX0_cellAt, cX0_bandInRow, cX0_bandInColumn, cX0_entriesInto, cX1_init, cX1_enter, cX1_stand, cX1_cellOn, cX1_goOn, cX1_directionBehind, cX1_gateBehind, cX2_init, cX2_save, cX2_restore, cX2_stoneAt, cX2_wordsAt, cX3_init, cX3_take, cX3_takeCell, cX3_addLetter, cX3_add, cX3_byteAt, cX3_hasBytesOf, cX3_score, cX4_init, cX4_run, cX4_takeBands, cX4_pairBands, cX4_look, cX4_isOver, cX4_keepChoice, cX4_firstBandAt, cX5_init, cX5_clear, cX5_takeFrom, cX5_cellCount, cX5_gateCount, cX5_hasCell, cX5_hasGate, cX5_byteAt, cX5_putByte, cX5_turnEachCorner, cX5_turnRight, cX5_runeMask, cX5_countRunes, cX5_countSharedRunes, cX5_countCorners, cX5_countBrokenCorners, cX6_init, cX6_isFull, cX6_add, cX6_isWord, cX8_isLetter, cX8_isLetter, cX8_isLetter, cX7_init, cX7_takeFrom, cX7_has, cX7_isFull, cX7_letterAt, cX7_byteAt, cX7_add, cX7_remove, cX7_find, cX7_stands, cX8_isLetter, cX8_init, cX8_setSize, cX8_setCell, cX8_turnCorners, cX8_turnStone, cX8_addWord, cX8_removeWord, cX8_cell, cX8_value, cX8_word, cX8_band, cX8_cellOf, cX8_read, cX8_wordsOf, cX8_alike, cX8_choices, cX8_nodes, cX8_chosen, cX8_fewest, cX8_repair, cX8_told, cX8_append, cX8_clearText, cX8_isLetter, cX8_undo, cX8_isLetter, cX8_saveState, cX8_cellFact, cX8_numberOf, cX8_bandFact, cX8_scoreOf, cX8_repairOf, cX8_hasChoiceWith, cX8_isLetter, cX8_isLetter, cX8_isLetter, cX8_isWithin, cX8_isSide, cX8_isLetter, cX8_isSharedRune, cX8_isRune, cX8_isCorner, cX8_isCellByte, cX8_letterOf, cX8_turnedCorner, cX8_at, cX8_at_, cX8_put, cX8_put_, cX8_copy, cL_cell, cL_low, cL_setSize, cL_setCell, cL_addWord, cL_removeWord, cL_cellAt, cL_value, cL_word, cL_band, cL_cellOf, cL_read, cL_wordsOf, cL_alike, cL_choices, cL_nodes, cL_chosen, cL_append, cL_undo, cL_print, cL_refused, cL_areBands, cL_isReading, cL_isListed, cL_areWords, cL_areChoices, cL_isTurned, cL_byteOf, cL_acts, cX8_isLetter, cX8_isLetter, cX8_isLetter, cX8_isLetter, cX8_isLetter, cX8_isLetter, cX8_isLetter, cX8_isLetter, cX8_isLetter, cX8_isLetter, cX8_isLetter, cX8_isLetter, cX8_isLetter, cX8_isLetter, cX8_isLetter, cX8_isLetter, cX8_isLetter, cX8_isLetter, cX8_isLetter, cX8_isLetter, cX8_isLetter, cX8_isLetter, cX8_isLetter, cX8_isLetter, cX8_isLetter, cX8_isLetter, cX8_isLetter, cX8_isLetter, cX8_isLetter, cX8_isLetter, cX8_isLetter, cX8_isLetter, cX8_isLetter, cX8_isLetter, cX8_isLetter, cX8_isLetter, cX8_isLetter, cX8_isLetter, cX8_isLetter, cX8_isLetter, cJ13_bitCount_95d88, cJ7_fill_d0a16, cJ7_fill_53178, cL_law]
def retL : List (Option FieldType) := [none, none, none, none, none, none, none, (some .int), (some .int), (some .int), (some .int), (some .int), (some .boolean), (some .long), (some .int), (some .int), (some .int), (some .int), none, none, none, (some .int), none, (some .int), (some .int), none, none, none, (some (.object "RuneBands$Stone")), (some (.object "RuneBands$Words")), none, none, none, none, none, (some .int), (some .boolean), (some .int), none, none, none, none, none, (some .boolean), none, (some .int), none, none, none, (some .int), (some .int), (some .boolean), (some .boolean), (some .int), none, none, none, (some .long), (some .int), (some .int), (some .int), (some .int), none, (some .boolean), none, (some .boolean), (some .boolean), (some .boolean), (some .boolean), none, none, (some .boolean), (some .boolean), (some .int), (some .int), (some .int), none, (some .int), (some .boolean), (some .boolean), none, (some .int), (some .int), (some .int), (some .int), (some .int), (some .int), (some .int), (some .int), (some .int), (some .int), (some .int), (some .int), (some .int), (some .boolean), (some .int), (some .int), (some .int), (some .int), (some .int), (some .double), (some .int), (some .int), (some .boolean), (some .int), (some .boolean), none, (some .int), (some .int), (some .int), (some .int), (some .int), (some .boolean), (some .boolean), (some .boolean), (some .boolean), (some .boolean), (some .boolean), (some .boolean), (some .boolean), (some .boolean), (some .boolean), (some .boolean), (some .int), (some .int), (some .int), (some .long), none, none, none, (some .int), (some .int), (some .int), (some .int), (some .int), (some .int), (some .int), (some .int), (some .int), (some .int), (some .int), (some .int), (some .int), (some .int), (some .int), (some .int), (some .int), (some .int), (some .int), (some .long), (some .boolean), (some .boolean), (some .boolean), (some .boolean), (some .boolean), (some .boolean), (some .boolean), (some .int), (some .int), (some .boolean), (some .boolean), (some .boolean), (some .boolean), (some .boolean), (some .boolean), (some .boolean), (some .boolean), (some .boolean), (some .boolean), (some .boolean), (some .boolean), (some .boolean), (some .boolean), (some .boolean), (some .boolean), (some .boolean), (some .boolean), (some .boolean), (some .boolean), (some .boolean), (some .boolean), (some .boolean), (some .boolean), (some .boolean), (some .boolean), (some .boolean), (some .boolean), (some .boolean), (some .boolean), (some .boolean), (some .boolean), (some .boolean), (some .boolean), (some .boolean), (some .boolean), (some .boolean), (some .boolean), (some .boolean), (some .boolean), (some .int), none, none, (some .boolean)]
def mxlL : List Nat := [1, 3, 1, 7, 9, 6, 4, 3, 2, 2, 2, 2, 2, 2, 3, 2, 2, 2, 1, 5, 4, 2, 2, 2, 4, 2, 5, 5, 2, 2, 1, 5, 3, 2, 2, 2, 3, 6, 1, 4, 4, 5, 13, 1, 2, 2, 1, 3, 2, 1, 1, 2, 2, 2, 3, 2, 4, 4, 1, 3, 3, 3, 1, 1, 2, 2, 1, 1, 1, 1, 2, 2, 1, 3, 3, 5, 4, 5, 6, 1, 1, 3, 4, 1, 1, 1, 2, 3, 2, 3, 3, 3, 3, 2, 3, 2, 2, 2, 1, 3, 6, 2, 2, 1, 1, 1, 1, 3, 2, 3, 2, 3, 3, 1, 1, 1, 3, 1, 1, 1, 1, 1, 1, 1, 1, 2, 2, 3, 4, 3, 3, 2, 5, 5, 3, 4, 5, 4, 5, 5, 5, 5, 4, 4, 4, 4, 4, 4, 3, 4, 6, 20, 9, 9, 6, 17, 13, 2, 7, 1, 1, 1, 1, 1, 1, 1, 1, 1, 1, 1, 1, 1, 1, 1, 1, 1, 1, 1, 1, 1, 1, 1, 1, 1, 1, 1, 1, 1, 1, 1, 1, 1, 1, 1, 1, 1, 1, 1, 1, 2, 5, 4, 10]
def rkL : List Nat := [0, 0, 0, 0, 0, 0, 0, 1, 1, 1, 1, 1, 2, 3, 1, 1, 1, 1, 0, 0, 0, 1, 0, 1, 1, 0, 0, 0, 5, 5, 0, 0, 0, 0, 0, 1, 2, 1, 0, 0, 0, 0, 0, 2, 0, 1, 0, 0, 0, 1, 1, 2, 2, 1, 0, 0, 0, 3, 1, 1, 1, 1, 0, 2, 0, 2, 2, 2, 2, 0, 0, 2, 2, 1, 1, 1, 0, 1, 2, 2, 0, 1, 1, 1, 1, 1, 1, 1, 1, 1, 1, 1, 1, 1, 2, 1, 1, 1, 1, 1, 4, 1, 1, 2, 1, 2, 0, 1, 1, 1, 1, 1, 2, 2, 2, 2, 2, 2, 2, 2, 2, 2, 2, 1, 1, 1, 3, 0, 0, 0, 1, 1, 1, 1, 1, 1, 1, 1, 1, 1, 1, 1, 1, 1, 1, 1, 1, 1, 1, 3, 2, 6, 2, 2, 2, 2, 2, 1, 1, 2, 2, 2, 2, 2, 2, 2, 2, 2, 2, 2, 2, 2, 2, 2, 2, 2, 2, 2, 2, 2, 2, 2, 2, 2, 2, 2, 2, 2, 2, 2, 2, 2, 2, 2, 2, 2, 2, 2, 2, 1, 0, 0, 2]
def ownL : List Nat := [0, 0, 0, 0, 0, 0, 0, 0, 0, 0, 0, 0, 0, 0, 0, 0, 0, 0, 1, 1, 1, 1, 1, 1, 1, 2, 2, 2, 2, 2, 3, 3, 3, 3, 3, 3, 3, 3, 4, 4, 4, 4, 4, 4, 4, 4, 5, 5, 5, 5, 5, 5, 5, 5, 5, 5, 5, 5, 5, 5, 5, 5, 6, 6, 6, 6, 8, 8, 8, 7, 7, 7, 7, 7, 7, 7, 7, 7, 7, 8, 8, 8, 8, 8, 8, 8, 8, 8, 8, 8, 8, 8, 8, 8, 8, 8, 8, 8, 8, 8, 8, 8, 8, 8, 8, 8, 8, 8, 8, 8, 8, 8, 8, 8, 8, 8, 8, 8, 8, 8, 8, 8, 8, 8, 8, 8, 8, 8, 8, 8, 10, 10, 10, 10, 10, 10, 10, 10, 10, 10, 10, 10, 10, 10, 10, 10, 10, 10, 10, 10, 10, 10, 10, 10, 10, 10, 10, 10, 10, 8, 8, 8, 8, 8, 8, 8, 8, 8, 8, 8, 8, 8, 8, 8, 8, 8, 8, 8, 8, 8, 8, 8, 8, 8, 8, 8, 8, 8, 8, 8, 8, 8, 8, 8, 8, 8, 8, 8, 8, 11, 13, 13, 10]
def narL : List Nat := [1, 2, 1, 3, 4, 3, 4, 2, 2, 2, 2, 2, 2, 2, 3, 2, 2, 2, 1, 3, 4, 2, 2, 2, 2, 1, 3, 3, 2, 2, 1, 4, 2, 2, 2, 2, 2, 2, 1, 4, 2, 2, 3, 1, 2, 2, 1, 3, 2, 1, 1, 2, 2, 2, 3, 1, 1, 1, 1, 1, 1, 1, 1, 1, 2, 1, 1, 1, 1, 1, 2, 2, 1, 3, 3, 3, 2, 4, 4, 1, 1, 3, 3, 1, 1, 1, 2, 3, 2, 3, 3, 3, 3, 2, 2, 2, 2, 2, 1, 1, 1, 2, 1, 1, 1, 1, 1, 3, 2, 3, 2, 2, 3, 1, 1, 1, 3, 1, 1, 1, 1, 1, 1, 1, 1, 2, 2, 3, 3, 2, 2, 2, 3, 3, 1, 2, 3, 2, 3, 3, 3, 3, 2, 2, 2, 2, 2, 2, 1, 1, 1, 1, 2, 4, 2, 1, 1, 1, 3, 1, 1, 1, 1, 1, 1, 1, 1, 1, 1, 1, 1, 1, 1, 1, 1, 1, 1, 1, 1, 1, 1, 1, 1, 1, 1, 1, 1, 1, 1, 1, 1, 1, 1, 1, 1, 1, 1, 1, 1, 1, 2, 2, 1]
def bcL : List Nat := [11, 0, 0, 0, 0, 0, 0, 0, 0, 0, 0, 0, 0, 0, 0, 0, 0, 0, 0, 0, 0, 0, 0, 0, 0, 26, 0, 0, 0, 0, 1, 0, 0, 0, 0, 0, 0, 0, 5, 0, 0, 0, 0, 0, 0, 0, 2, 0, 0, 0, 0, 0, 0, 0, 0, 0, 0, 0, 0, 0, 0, 0, 1, 0, 0, 0, 0, 0, 0, 2, 0, 0, 0, 0, 0, 0, 0, 0, 0, 0, 57, 0, 0, 0, 0, 0, 0, 0, 0, 0, 0, 0, 0, 0, 0, 0, 0, 0, 0, 0, 0, 0, 0, 0, 0, 0, 0, 0, 0, 0, 0, 0, 0, 0, 0, 0, 0, 0, 0, 0, 0, 0, 0, 0, 0, 0, 0, 0, 0, 0, 0, 0, 0, 0, 0, 0, 0, 0, 0, 0, 0, 0, 0, 0, 0, 0, 0, 0, 0, 0, 0, 0, 0, 0, 0, 0, 0, 0, 0, 0, 0, 0, 0, 0, 0, 0, 0, 0, 0, 0, 0, 0, 0, 0, 0, 0, 0, 0, 0, 0, 0, 0, 0, 0, 0, 0, 0, 0, 0, 0, 0, 0, 0, 0, 0, 0, 0, 0, 0, 0, 0, 0, 58]
def bsL : List Nat := [3062, 0, 0, 0, 0, 0, 0, 0, 0, 0, 0, 0, 0, 0, 0, 0, 0, 0, 0, 0, 0, 0, 0, 0, 0, 716, 0, 0, 0, 0, 294, 0, 0, 0, 0, 0, 0, 0, 182, 0, 0, 0, 0, 0, 0, 0, 98, 0, 0, 0, 0, 0, 0, 0, 0, 0, 0, 0, 0, 0, 0, 0, 60, 0, 0, 0, 0, 0, 0, 72, 0, 0, 0, 0, 0, 0, 0, 0, 0, 0, 4822, 0, 0, 0, 0, 0, 0, 0, 0, 0, 0, 0, 0, 0, 0, 0, 0, 0, 0, 0, 0, 0, 0, 0, 0, 0, 0, 0, 0, 0, 0, 0, 0, 0, 0, 0, 0, 0, 0, 0, 0, 0, 0, 0, 0, 0, 0, 0, 0, 0, 0, 0, 0, 0, 0, 0, 0, 0, 0, 0, 0, 0, 0, 0, 0, 0, 0, 0, 0, 0, 0, 0, 0, 0, 0, 0, 0, 0, 0, 0, 0, 0, 0, 0, 0, 0, 0, 0, 0, 0, 0, 0, 0, 0, 0, 0, 0, 0, 0, 0, 0, 0, 0, 0, 0, 0, 0, 0, 0, 0, 0, 0, 0, 0, 0, 0, 0, 0, 0, 0, 0, 0, 4830]
def hhL : List (List (Nat × Nat × Nat × Nat)) := [[], [], [], [], [], [], [], [], [], [], [], [], [], [], [], [], [], [], [], [], [], [], [], [], [], [], [], [], [], [], [], [], [], [], [], [], [], [], [], [], [], [], [], [], [], [], [], [], [], [], [], [], [], [], [], [], [], [], [], [], [], [], [], [], [], [], [], [], [], [], [], [], [], [], [], [], [], [], [], [], [], [], [], [], [], [], [], [], [], [], [], [], [], [], [], [], [], [], [], [], [], [], [], [], [], [], [], [], [], [], [], [], [], [], [], [], [], [], [], [], [], [], [], [], [], [], [], [], [], [], [], [], [(0, 7, 10, 15)], [(0, 7, 10, 21), (0, 7, 15, 15)], [(0, 5, 8, 28)], [(0, 6, 9, 21)], [(0, 7, 10, 21), (0, 7, 15, 15)], [(0, 6, 9, 15)], [(0, 7, 10, 21)], [(0, 7, 10, 21), (0, 7, 15, 15)], [(0, 7, 10, 21)], [(0, 7, 10, 21)], [(0, 6, 9, 21)], [(0, 6, 9, 21)], [(0, 6, 9, 15)], [(0, 6, 9, 15)], [(0, 6, 9, 21)], [(0, 6, 9, 15), (0, 6, 13, 28)], [(0, 5, 8, 28)], [], [], [], [], [], [], [], [], [], [], [], [], [], [], [], [], [], [], [], [], [], [], [], [], [], [], [], [], [], [], [], [], [], [], [], [], [], [], [], [], [], [], [], [], [], [], [], [], [], [], [], [], [], []]
def hndL : List (List (Nat × Int32)) := [[], [], [], [], [], [], [], [], [], [], [], [], [], [], [], [], [], [], [], [], [], [], [], [], [], [], [], [], [], [], [], [], [], [], [], [], [], [], [], [], [], [], [], [], [], [], [], [], [], [], [], [], [], [], [], [], [], [], [], [], [], [], [], [], [], [], [], [], [], [], [], [], [], [], [], [], [], [], [], [], [], [], [], [], [], [], [], [], [], [], [], [], [], [], [], [], [], [], [], [], [], [], [], [], [], [], [], [], [], [], [], [], [], [], [], [], [], [], [], [], [], [], [], [], [], [], [], [], [], [], [], [], [(0, (-5000001))], [(1, (-5000003)), (0, (-5000001))], [(2, (-5000002))], [(1, (-5000003))], [(1, (-5000003)), (0, (-5000001))], [(0, (-5000001))], [(1, (-5000003))], [(1, (-5000003)), (0, (-5000001))], [(1, (-5000003))], [(1, (-5000003))], [(1, (-5000003))], [(1, (-5000003))], [(0, (-5000001))], [(0, (-5000001))], [(1, (-5000003))], [(0, (-5000001)), (2, (-5000002))], [(2, (-5000002))], [], [], [], [], [], [], [], [], [], [], [], [], [], [], [], [], [], [], [], [], [], [], [], [], [], [], [], [], [], [], [], [], [], [], [], [], [], [], [], [], [], [], [], [], [], [], [], [], [], [], [], [], [], []]
def lcvL : List Int64 := [(-1), 191, 31, 6148914691236517205, 3689348814741910323, 1085102592571150095]
def icvL : List Int32 := [916318735, 2147483647, (-5000001), (-5000003), (-5000002), 1000000, 9999999]
def icv (a : Nat) : Int32 := icvL.getD a 0
def mN (k : Nat) : MethodName := mNL.getD k yX8_init
def mB (k : Nat) : ByteArray := mBL.getD k ⟨#[]⟩
def mR (k : Nat) : Option FieldType := retL.getD k none
def mxl (k : Nat) : Nat := mxlL.getD k 0
def rk (k : Nat) : Nat := rkL.getD k 0
def own (k : Nat) : Nat := ownL.getD k 0
def nar (k : Nat) : Nat := narL.getD k 0
def bc (k : Nat) : Nat := bcL.getD k 0
def bs (k : Nat) : Nat := bsL.getD k 0
def hhs (k : Nat) : List (Nat × Nat × Nat × Nat) := hhL.getD k []
def hnd (k e : Nat) : Option Int32 := ((hndL.getD k []).find? fun q => q.1 == e).map fun q => q.2
def lcv (a : Nat) : Int64 := lcvL.getD a 0
def fty (a : Nat) : Nat → FieldType := match a with
  | 0 => tyX0
  | 1 => tyX1
  | 2 => tyX2
  | 3 => tyX3
  | 4 => tyX4
  | 5 => tyX5
  | 6 => tyX6
  | 7 => tyX7
  | 8 => tyX8
  | _ => tyX0
def nf (a : Nat) : Nat := [13, 3, 4, 3, 12, 4, 2, 3, 8].getD a 0
def fs0 (a : Nat) : List Value := (List.range (nf a)).map fun j => defaultValue (fty a j)
def hdR (vs : List Value) : Nat := match vs with
  | .ref x :: _ => x
  | _ => 1000000
def cd_0 : List (Nat × Instr × Nat × Nat × Nat × Nat × List Nat) := [(0, .aload_n 0, 1, 0, 0, 0, []), (1, .invokespecial 3, 3, 0, 1, 6, []), (4, .aload_n 0, 1, 0, 0, 0, []), (5, .new 9, 3, 1, 0, 0, []), (8, .dup, 1, 0, 0, 0, []), (9, .invokespecial 11, 3, 18, 1, 5, []), (12, .putfield 12, 3, 0, 0, 0, []), (15, .aload_n 0, 1, 0, 0, 0, []), (16, .bipush 28, 2, 0, 0, 0, []), (18, .newarray .int, 2, 0, 0, 0, []), (20, .putfield 18, 3, 0, 1, 0, []), (23, .aload_n 0, 1, 0, 0, 0, []), (24, .bipush 28, 2, 0, 0, 0, []), (26, .newarray .int, 2, 0, 0, 0, []), (28, .putfield 22, 3, 0, 2, 0, []), (31, .aload_n 0, 1, 0, 0, 0, []), (32, .bipush 28, 2, 0, 0, 0, []), (34, .newarray .int, 2, 0, 0, 0, []), (36, .putfield 25, 3, 0, 3, 0, []), (39, .aload_n 0, 1, 0, 0, 0, []), (40, .bipush 28, 2, 0, 0, 0, []), (42, .newarray .int, 2, 0, 0, 0, []), (44, .putfield 28, 3, 0, 4, 0, []), (47, .aload_n 0, 1, 0, 0, 0, []), (48, .bipush 28, 2, 0, 0, 0, []), (50, .newarray .long, 2, 0, 0, 0, []), (52, .putfield 31, 3, 0, 5, 0, []), (55, .aload_n 0, 1, 0, 0, 0, []), (56, .bipush 28, 2, 0, 0, 0, []), (58, .newarray .long, 2, 0, 0, 0, []), (60, .putfield 35, 3, 0, 6, 0, []), (63, .aload_n 0, 1, 0, 0, 0, []), (64, .sipush 2744, 3, 0, 0, 0, []), (67, .newarray .int, 2, 0, 0, 0, []), (69, .putfield 38, 3, 0, 7, 0, []), (72, .aload_n 0, 1, 0, 0, 0, []), (73, .bipush 49, 2, 0, 0, 0, []), (75, .newarray .int, 2, 0, 0, 0, []), (77, .putfield 41, 3, 0, 8, 0, []), (80, .aload_n 0, 1, 0, 0, 0, []), (81, .bipush 49, 2, 0, 0, 0, []), (83, .newarray .int, 2, 0, 0, 0, []), (85, .putfield 44, 3, 0, 9, 0, []), (88, .aload_n 0, 1, 0, 0, 0, []), (89, .bipush 49, 2, 0, 0, 0, []), (91, .newarray .int, 2, 0, 0, 0, []), (93, .putfield 47, 3, 0, 10, 0, []), (96, .return_, 1, 0, 0, 0, [])]
def cd_1 : List (Nat × Instr × Nat × Nat × Nat × Nat × List Nat) := [(0, .aload_n 0, 1, 0, 0, 0, []), (1, .invokevirtual 50, 3, 2, 1, 0, []), (4, .iconst 0, 1, 0, 0, 0, []), (5, .istore_n 2, 1, 0, 0, 0, []), (6, .iload_n 2, 1, 0, 0, 0, []), (7, .aload_n 1, 1, 0, 0, 0, []), (8, .invokevirtual 53, 3, 50, 1, 0, []), (11, .if_icmp .ge 30, 3, 0, 0, 0, []), (14, .aload_n 0, 1, 0, 0, 0, []), (15, .aload_n 1, 1, 0, 0, 0, []), (16, .iload_n 2, 1, 0, 0, 0, []), (17, .invokevirtual 59, 3, 3, 3, 0, []), (20, .aload_n 0, 1, 0, 0, 0, []), (21, .iload_n 2, 1, 0, 0, 0, []), (22, .invokevirtual 63, 3, 7, 2, 0, []), (25, .iload_n 2, 1, 0, 0, 0, []), (26, .if_icmp .ne 9, 3, 0, 0, 0, []), (29, .aload_n 0, 1, 0, 0, 0, []), (30, .aload_n 1, 1, 0, 0, 0, []), (31, .iload_n 2, 1, 0, 0, 0, []), (32, .invokevirtual 67, 3, 5, 3, 0, []), (35, .iinc 2 1, 3, 0, 0, 0, []), (38, .goto (-32), 3, 0, 0, 0, []), (41, .return_, 1, 0, 0, 0, [])]
def cd_2 : List (Nat × Instr × Nat × Nat × Nat × Nat × List Nat) := [(0, .aload_n 0, 1, 0, 0, 0, []), (1, .getfield 18, 3, 0, 1, 0, []), (4, .iconst (-1), 1, 0, 0, 0, []), (5, .invokestatic 70, 3, 201, 2, 2, []), (8, .aload_n 0, 1, 0, 0, 0, []), (9, .getfield 22, 3, 0, 2, 0, []), (12, .iconst 0, 1, 0, 0, 0, []), (13, .invokestatic 70, 3, 201, 2, 2, []), (16, .aload_n 0, 1, 0, 0, 0, []), (17, .getfield 25, 3, 0, 3, 0, []), (20, .iconst 0, 1, 0, 0, 0, []), (21, .invokestatic 70, 3, 201, 2, 2, []), (24, .aload_n 0, 1, 0, 0, 0, []), (25, .getfield 28, 3, 0, 4, 0, []), (28, .iconst 0, 1, 0, 0, 0, []), (29, .invokestatic 70, 3, 201, 2, 2, []), (32, .aload_n 0, 1, 0, 0, 0, []), (33, .getfield 31, 3, 0, 5, 0, []), (36, .lconst 0, 1, 0, 0, 0, []), (37, .invokestatic 76, 3, 200, 2, 2, []), (40, .aload_n 0, 1, 0, 0, 0, []), (41, .getfield 35, 3, 0, 6, 0, []), (44, .lconst 0, 1, 0, 0, 0, []), (45, .invokestatic 76, 3, 200, 2, 2, []), (48, .aload_n 0, 1, 0, 0, 0, []), (49, .getfield 41, 3, 0, 8, 0, []), (52, .iconst (-1), 1, 0, 0, 0, []), (53, .invokestatic 70, 3, 201, 2, 2, []), (56, .aload_n 0, 1, 0, 0, 0, []), (57, .getfield 44, 3, 0, 9, 0, []), (60, .iconst (-1), 1, 0, 0, 0, []), (61, .invokestatic 70, 3, 201, 2, 2, []), (64, .aload_n 0, 1, 0, 0, 0, []), (65, .getfield 47, 3, 0, 10, 0, []), (68, .iconst 0, 1, 0, 0, 0, []), (69, .invokestatic 70, 3, 201, 2, 2, []), (72, .aload_n 0, 1, 0, 0, 0, []), (73, .iconst 0, 1, 0, 0, 0, []), (74, .putfield 79, 3, 0, 11, 0, []), (77, .aload_n 0, 1, 0, 0, 0, []), (78, .iconst 0, 1, 0, 0, 0, []), (79, .putfield 83, 3, 0, 12, 0, []), (82, .return_, 1, 0, 0, 0, [])]
def cd_3 : List (Nat × Instr × Nat × Nat × Nat × Nat × List Nat) := [(0, .aload_n 0, 1, 0, 0, 0, []), (1, .getfield 12, 3, 0, 0, 0, []), (4, .aload_n 1, 1, 0, 0, 0, []), (5, .iload_n 2, 1, 0, 0, 0, []), (6, .invokevirtual 86, 3, 19, 3, 0, []), (9, .iconst 0, 1, 0, 0, 0, []), (10, .istore_n 3, 1, 0, 0, 0, []), (11, .iload_n 3, 1, 0, 0, 0, [4, 5, 6]), (12, .bipush 98, 2, 0, 0, 0, []), (14, .if_icmp .ge 80, 3, 0, 0, 0, []), (17, .aload_n 0, 1, 0, 0, 0, []), (18, .getfield 12, 3, 0, 0, 0, []), (21, .aload_n 1, 1, 0, 0, 0, []), (22, .invokevirtual 89, 3, 21, 2, 0, []), (25, .istore 4, 2, 0, 0, 0, []), (27, .aload_n 1, 1, 0, 0, 0, []), (28, .iload 4, 2, 0, 0, 0, []), (30, .invokevirtual 93, 3, 53, 2, 0, []), (33, .istore 5, 2, 0, 0, 0, []), (35, .aload_n 0, 1, 0, 0, 0, []), (36, .iload_n 2, 1, 0, 0, 0, []), (37, .iload 4, 2, 0, 0, 0, []), (39, .iload 5, 2, 0, 0, 0, []), (41, .invokevirtual 96, 3, 4, 4, 0, []), (44, .iload 5, 2, 0, 0, 0, []), (46, .bipush 35, 2, 0, 0, 0, []), (48, .if_icmp .ne 4, 3, 0, 0, 0, []), (51, .return_, 1, 0, 0, 0, []), (52, .aload_n 0, 1, 0, 0, 0, []), (53, .getfield 12, 3, 0, 0, 0, []), (56, .iload 5, 2, 0, 0, 0, []), (58, .invokevirtual 100, 3, 22, 2, 0, []), (61, .aload_n 0, 1, 0, 0, 0, []), (62, .getfield 12, 3, 0, 0, 0, []), (65, .aload_n 1, 1, 0, 0, 0, []), (66, .invokevirtual 104, 3, 24, 2, 0, []), (69, .istore 6, 2, 0, 0, 0, []), (71, .iload 6, 2, 0, 0, 0, []), (73, .iconst (-1), 1, 0, 0, 0, []), (74, .if_icmp .eq 14, 3, 0, 0, 0, []), (77, .aload_n 0, 1, 0, 0, 0, []), (78, .getfield 18, 3, 0, 1, 0, []), (81, .iload_n 2, 1, 0, 0, 0, []), (82, .iload 6, 2, 0, 0, 0, []), (84, .invokestatic 107, 3, 127, 3, 3, []), (87, .return_, 1, 0, 0, 0, []), (88, .iinc 3 1, 3, 0, 0, 0, []), (91, .goto (-80), 3, 0, 0, 0, []), (94, .return_, 1, 0, 0, 0, [])]
def cd_4 : List (Nat × Instr × Nat × Nat × Nat × Nat × List Nat) := [(0, .aload_n 0, 1, 0, 0, 0, []), (1, .getfield 22, 3, 0, 2, 0, []), (4, .iload_n 1, 1, 0, 0, 0, []), (5, .invokestatic 111, 3, 125, 2, 3, []), (8, .istore 4, 2, 0, 0, 0, []), (10, .aload_n 0, 1, 0, 0, 0, []), (11, .getfield 38, 3, 0, 7, 0, []), (14, .iload_n 1, 1, 0, 0, 0, []), (15, .bipush 98, 2, 0, 0, 0, []), (17, .imul, 1, 0, 0, 0, []), (18, .iload 4, 2, 0, 0, 0, []), (20, .iadd, 1, 0, 0, 0, []), (21, .iload_n 2, 1, 0, 0, 0, []), (22, .invokestatic 107, 3, 127, 3, 3, []), (25, .aload_n 0, 1, 0, 0, 0, []), (26, .getfield 22, 3, 0, 2, 0, []), (29, .iload_n 1, 1, 0, 0, 0, []), (30, .iload 4, 2, 0, 0, 0, []), (32, .iconst 1, 1, 0, 0, 0, []), (33, .iadd, 1, 0, 0, 0, []), (34, .invokestatic 107, 3, 127, 3, 3, []), (37, .aload_n 0, 1, 0, 0, 0, []), (38, .getfield 25, 3, 0, 3, 0, []), (41, .iload_n 1, 1, 0, 0, 0, []), (42, .aload_n 0, 1, 0, 0, 0, []), (43, .getfield 25, 3, 0, 3, 0, []), (46, .iload_n 1, 1, 0, 0, 0, []), (47, .invokestatic 111, 3, 125, 2, 3, []), (50, .iload_n 3, 1, 0, 0, 0, []), (51, .invokestatic 115, 3, 121, 1, 3, []), (54, .ifCond .eq 7, 3, 0, 0, 0, []), (57, .iconst 1, 1, 0, 0, 0, []), (58, .goto 4, 3, 0, 0, 0, []), (61, .iconst 0, 1, 0, 0, 0, []), (62, .iadd, 1, 0, 0, 0, []), (63, .invokestatic 107, 3, 127, 3, 3, []), (66, .aload_n 0, 1, 0, 0, 0, []), (67, .getfield 28, 3, 0, 4, 0, []), (70, .iload_n 1, 1, 0, 0, 0, []), (71, .aload_n 0, 1, 0, 0, 0, []), (72, .getfield 28, 3, 0, 4, 0, []), (75, .iload_n 1, 1, 0, 0, 0, []), (76, .invokestatic 111, 3, 125, 2, 3, []), (79, .iload_n 3, 1, 0, 0, 0, []), (80, .invokestatic 119, 3, 120, 1, 3, []), (83, .ifCond .eq 7, 3, 0, 0, 0, []), (86, .iconst 1, 1, 0, 0, 0, []), (87, .goto 4, 3, 0, 0, 0, []), (90, .iconst 0, 1, 0, 0, 0, []), (91, .iadd, 1, 0, 0, 0, []), (92, .invokestatic 107, 3, 127, 3, 3, []), (95, .aload_n 0, 1, 0, 0, 0, []), (96, .getfield 31, 3, 0, 5, 0, []), (99, .iload_n 1, 1, 0, 0, 0, []), (100, .invokestatic 122, 3, 126, 2, 3, []), (103, .lstore 5, 2, 0, 0, 0, []), (105, .lconst 1, 1, 0, 0, 0, []), (106, .iload_n 2, 1, 0, 0, 0, []), (107, .lshl, 1, 0, 0, 0, []), (108, .lstore 7, 2, 0, 0, 0, []), (110, .aload_n 0, 1, 0, 0, 0, []), (111, .getfield 35, 3, 0, 6, 0, []), (114, .iload_n 1, 1, 0, 0, 0, []), (115, .aload_n 0, 1, 0, 0, 0, []), (116, .getfield 35, 3, 0, 6, 0, []), (119, .iload_n 1, 1, 0, 0, 0, []), (120, .invokestatic 122, 3, 126, 2, 3, []), (123, .lload 5, 2, 0, 0, 0, []), (125, .lload 7, 2, 0, 0, 0, []), (127, .land, 1, 0, 0, 0, []), (128, .lor, 1, 0, 0, 0, []), (129, .invokestatic 125, 3, 128, 3, 3, []), (132, .aload_n 0, 1, 0, 0, 0, []), (133, .getfield 31, 3, 0, 5, 0, []), (136, .iload_n 1, 1, 0, 0, 0, []), (137, .lload 5, 2, 0, 0, 0, []), (139, .lload 7, 2, 0, 0, 0, []), (141, .lor, 1, 0, 0, 0, []), (142, .invokestatic 125, 3, 128, 3, 3, []), (145, .return_, 1, 0, 0, 0, [])]
def cd_5 : List (Nat × Instr × Nat × Nat × Nat × Nat × List Nat) := [(0, .aload_n 0, 1, 0, 0, 0, []), (1, .dup, 1, 0, 0, 0, []), (2, .getfield 79, 3, 0, 11, 0, []), (5, .iconst 1, 1, 0, 0, 0, []), (6, .iadd, 1, 0, 0, 0, []), (7, .putfield 79, 3, 0, 11, 0, []), (10, .aload_n 0, 1, 0, 0, 0, []), (11, .dup, 1, 0, 0, 0, []), (12, .getfield 83, 3, 0, 12, 0, []), (15, .aload_n 0, 1, 0, 0, 0, []), (16, .iload_n 2, 1, 0, 0, 0, []), (17, .invokevirtual 128, 3, 12, 2, 0, []), (20, .ifCond .eq 7, 3, 0, 0, 0, []), (23, .iconst 1, 1, 0, 0, 0, []), (24, .goto 4, 3, 0, 0, 0, []), (27, .iconst 0, 1, 0, 0, 0, []), (28, .iadd, 1, 0, 0, 0, []), (29, .putfield 83, 3, 0, 12, 0, []), (32, .aload_n 0, 1, 0, 0, 0, []), (33, .getfield 12, 3, 0, 0, 0, []), (36, .aload_n 1, 1, 0, 0, 0, []), (37, .iload_n 2, 1, 0, 0, 0, []), (38, .invokevirtual 86, 3, 19, 3, 0, []), (41, .iconst 0, 1, 0, 0, 0, []), (42, .istore_n 3, 1, 0, 0, 0, []), (43, .iload_n 3, 1, 0, 0, 0, [4, 5]), (44, .aload_n 0, 1, 0, 0, 0, []), (45, .iload_n 2, 1, 0, 0, 0, []), (46, .invokevirtual 131, 3, 9, 2, 0, []), (49, .if_icmp .ge 82, 3, 0, 0, 0, []), (52, .aload_n 0, 1, 0, 0, 0, []), (53, .iload_n 2, 1, 0, 0, 0, []), (54, .iload_n 3, 1, 0, 0, 0, []), (55, .invokevirtual 134, 3, 14, 3, 0, []), (58, .istore 4, 2, 0, 0, 0, []), (60, .aload_n 0, 1, 0, 0, 0, []), (61, .getfield 12, 3, 0, 0, 0, []), (64, .getfield 138, 3, 1, 2, 1, []), (67, .iconst 3, 1, 0, 0, 0, []), (68, .if_icmp .eq 14, 3, 0, 0, 0, []), (71, .aload_n 0, 1, 0, 0, 0, []), (72, .getfield 12, 3, 0, 0, 0, []), (75, .getfield 138, 3, 1, 2, 1, []), (78, .iconst 1, 1, 0, 0, 0, []), (79, .if_icmp .ne 7, 3, 0, 0, 0, []), (82, .iconst 1, 1, 0, 0, 0, []), (83, .goto 4, 3, 0, 0, 0, []), (86, .iconst 0, 1, 0, 0, 0, []), (87, .istore 5, 2, 0, 0, 0, []), (89, .aload_n 0, 1, 0, 0, 0, []), (90, .iload 5, 2, 0, 0, 0, []), (92, .ifCond .eq 10, 3, 0, 0, 0, []), (95, .aload_n 0, 1, 0, 0, 0, []), (96, .getfield 41, 3, 0, 8, 0, []), (99, .goto 7, 3, 0, 0, 0, []), (102, .aload_n 0, 1, 0, 0, 0, []), (103, .getfield 44, 3, 0, 9, 0, []), (106, .iload 4, 2, 0, 0, 0, []), (108, .iload_n 2, 1, 0, 0, 0, []), (109, .invokevirtual 141, 3, 6, 4, 0, []), (112, .aload_n 0, 1, 0, 0, 0, []), (113, .getfield 12, 3, 0, 0, 0, []), (116, .aload_n 1, 1, 0, 0, 0, []), (117, .iload 4, 2, 0, 0, 0, []), (119, .invokevirtual 93, 3, 53, 2, 0, []), (122, .invokevirtual 100, 3, 22, 2, 0, []), (125, .iinc 3 1, 3, 0, 0, 0, []), (128, .goto (-85), 3, 0, 0, 0, []), (131, .return_, 1, 0, 0, 0, [])]
def cd_6 : List (Nat × Instr × Nat × Nat × Nat × Nat × List Nat) := [(0, .aload_n 1, 1, 0, 0, 0, []), (1, .iload_n 2, 1, 0, 0, 0, []), (2, .invokestatic 111, 3, 125, 2, 3, []), (5, .iconst (-1), 1, 0, 0, 0, []), (6, .if_icmp .ne 9, 3, 0, 0, 0, []), (9, .aload_n 1, 1, 0, 0, 0, []), (10, .iload_n 2, 1, 0, 0, 0, []), (11, .iload_n 3, 1, 0, 0, 0, []), (12, .invokestatic 107, 3, 127, 3, 3, []), (15, .aload_n 0, 1, 0, 0, 0, []), (16, .getfield 47, 3, 0, 10, 0, []), (19, .iload_n 2, 1, 0, 0, 0, []), (20, .aload_n 0, 1, 0, 0, 0, []), (21, .getfield 47, 3, 0, 10, 0, []), (24, .iload_n 2, 1, 0, 0, 0, []), (25, .invokestatic 111, 3, 125, 2, 3, []), (28, .iconst 1, 1, 0, 0, 0, []), (29, .iadd, 1, 0, 0, 0, []), (30, .invokestatic 107, 3, 127, 3, 3, []), (33, .return_, 1, 0, 0, 0, [])]
def cd_7 : List (Nat × Instr × Nat × Nat × Nat × Nat × List Nat) := [(0, .aload_n 0, 1, 0, 0, 0, []), (1, .getfield 18, 3, 0, 1, 0, []), (4, .iload_n 1, 1, 0, 0, 0, []), (5, .invokestatic 111, 3, 125, 2, 3, []), (8, .istore_n 2, 1, 0, 0, 0, []), (9, .iload_n 2, 1, 0, 0, 0, []), (10, .iconst (-1), 1, 0, 0, 0, []), (11, .if_icmp .ne 7, 3, 0, 0, 0, []), (14, .iload_n 1, 1, 0, 0, 0, []), (15, .goto 8, 3, 0, 0, 0, []), (18, .iload_n 1, 1, 0, 0, 0, []), (19, .iload_n 2, 1, 0, 0, 0, []), (20, .invokestatic 144, 3, 0, 2, 9, []), (23, .ireturn, 1, 0, 0, 0, [])]
def cd_8 : List (Nat × Instr × Nat × Nat × Nat × Nat × List Nat) := [(0, .aload_n 0, 1, 0, 0, 0, []), (1, .getfield 18, 3, 0, 1, 0, []), (4, .iload_n 1, 1, 0, 0, 0, []), (5, .invokestatic 111, 3, 125, 2, 3, []), (8, .ireturn, 1, 0, 0, 0, [])]
def cd_9 : List (Nat × Instr × Nat × Nat × Nat × Nat × List Nat) := [(0, .aload_n 0, 1, 0, 0, 0, []), (1, .getfield 22, 3, 0, 2, 0, []), (4, .iload_n 1, 1, 0, 0, 0, []), (5, .invokestatic 111, 3, 125, 2, 3, []), (8, .ireturn, 1, 0, 0, 0, [])]
def cd_10 : List (Nat × Instr × Nat × Nat × Nat × Nat × List Nat) := [(0, .aload_n 0, 1, 0, 0, 0, []), (1, .getfield 25, 3, 0, 3, 0, []), (4, .iload_n 1, 1, 0, 0, 0, []), (5, .invokestatic 111, 3, 125, 2, 3, []), (8, .ireturn, 1, 0, 0, 0, [])]
def cd_11 : List (Nat × Instr × Nat × Nat × Nat × Nat × List Nat) := [(0, .aload_n 0, 1, 0, 0, 0, []), (1, .getfield 28, 3, 0, 4, 0, []), (4, .iload_n 1, 1, 0, 0, 0, []), (5, .invokestatic 111, 3, 125, 2, 3, []), (8, .ireturn, 1, 0, 0, 0, [])]
def cd_12 : List (Nat × Instr × Nat × Nat × Nat × Nat × List Nat) := [(0, .aload_n 0, 1, 0, 0, 0, []), (1, .getfield 35, 3, 0, 6, 0, []), (4, .iload_n 1, 1, 0, 0, 0, []), (5, .invokestatic 122, 3, 126, 2, 3, []), (8, .lconst 0, 1, 0, 0, 0, []), (9, .lcmp, 1, 0, 0, 0, []), (10, .ifCond .eq 7, 3, 0, 0, 0, []), (13, .iconst 1, 1, 0, 0, 0, []), (14, .goto 4, 3, 0, 0, 0, []), (17, .iconst 0, 1, 0, 0, 0, []), (18, .ireturn, 1, 0, 0, 0, [])]
def cd_13 : List (Nat × Instr × Nat × Nat × Nat × Nat × List Nat) := [(0, .aload_n 0, 1, 0, 0, 0, []), (1, .getfield 31, 3, 0, 5, 0, []), (4, .iload_n 1, 1, 0, 0, 0, []), (5, .invokestatic 122, 3, 126, 2, 3, []), (8, .lreturn, 1, 0, 0, 0, [])]
def cd_14 : List (Nat × Instr × Nat × Nat × Nat × Nat × List Nat) := [(0, .aload_n 0, 1, 0, 0, 0, []), (1, .getfield 38, 3, 0, 7, 0, []), (4, .iload_n 1, 1, 0, 0, 0, []), (5, .bipush 98, 2, 0, 0, 0, []), (7, .imul, 1, 0, 0, 0, []), (8, .iload_n 2, 1, 0, 0, 0, []), (9, .iadd, 1, 0, 0, 0, []), (10, .invokestatic 111, 3, 125, 2, 3, []), (13, .ireturn, 1, 0, 0, 0, [])]
def cd_15 : List (Nat × Instr × Nat × Nat × Nat × Nat × List Nat) := [(0, .aload_n 0, 1, 0, 0, 0, []), (1, .getfield 41, 3, 0, 8, 0, []), (4, .iload_n 1, 1, 0, 0, 0, []), (5, .invokestatic 111, 3, 125, 2, 3, []), (8, .ireturn, 1, 0, 0, 0, [])]
def cd_16 : List (Nat × Instr × Nat × Nat × Nat × Nat × List Nat) := [(0, .aload_n 0, 1, 0, 0, 0, []), (1, .getfield 44, 3, 0, 9, 0, []), (4, .iload_n 1, 1, 0, 0, 0, []), (5, .invokestatic 111, 3, 125, 2, 3, []), (8, .ireturn, 1, 0, 0, 0, [])]
def cd_17 : List (Nat × Instr × Nat × Nat × Nat × Nat × List Nat) := [(0, .aload_n 0, 1, 0, 0, 0, []), (1, .getfield 47, 3, 0, 10, 0, []), (4, .iload_n 1, 1, 0, 0, 0, []), (5, .invokestatic 111, 3, 125, 2, 3, []), (8, .ireturn, 1, 0, 0, 0, [])]
def cd_18 : List (Nat × Instr × Nat × Nat × Nat × Nat × List Nat) := [(0, .aload_n 0, 1, 0, 0, 0, []), (1, .invokespecial 3, 3, 0, 1, 6, []), (4, .return_, 1, 0, 0, 0, [])]
def cd_19 : List (Nat × Instr × Nat × Nat × Nat × Nat × List Nat) := [(0, .aload_n 1, 1, 0, 0, 0, []), (1, .getfield 9, 3, 5, 0, 1, []), (4, .istore_n 3, 1, 0, 0, 0, []), (5, .aload_n 1, 1, 0, 0, 0, []), (6, .getfield 15, 3, 5, 1, 1, []), (9, .istore 4, 2, 0, 0, 0, []), (11, .iload_n 2, 1, 0, 0, 0, []), (12, .iload_n 3, 1, 0, 0, 0, []), (13, .if_icmp .ge 13, 3, 0, 0, 0, []), (16, .aload_n 0, 1, 0, 0, 0, []), (17, .iconst 0, 1, 0, 0, 0, []), (18, .iload_n 2, 1, 0, 0, 0, []), (19, .iconst 2, 1, 0, 0, 0, []), (20, .invokevirtual 18, 3, 20, 4, 0, []), (23, .goto 67, 3, 0, 0, 0, []), (26, .iload_n 2, 1, 0, 0, 0, []), (27, .iload_n 3, 1, 0, 0, 0, []), (28, .iload 4, 2, 0, 0, 0, []), (30, .iadd, 1, 0, 0, 0, []), (31, .if_icmp .ge 17, 3, 0, 0, 0, []), (34, .aload_n 0, 1, 0, 0, 0, []), (35, .iload_n 2, 1, 0, 0, 0, []), (36, .iload_n 3, 1, 0, 0, 0, []), (37, .isub, 1, 0, 0, 0, []), (38, .iload_n 3, 1, 0, 0, 0, []), (39, .iconst 1, 1, 0, 0, 0, []), (40, .isub, 1, 0, 0, 0, []), (41, .iconst 3, 1, 0, 0, 0, []), (42, .invokevirtual 18, 3, 20, 4, 0, []), (45, .goto 45, 3, 0, 0, 0, []), (48, .iload_n 2, 1, 0, 0, 0, []), (49, .iconst 2, 1, 0, 0, 0, []), (50, .iload_n 3, 1, 0, 0, 0, []), (51, .imul, 1, 0, 0, 0, []), (52, .iload 4, 2, 0, 0, 0, []), (54, .iadd, 1, 0, 0, 0, []), (55, .if_icmp .ge 21, 3, 0, 0, 0, []), (58, .aload_n 0, 1, 0, 0, 0, []), (59, .iload 4, 2, 0, 0, 0, []), (61, .iconst 1, 1, 0, 0, 0, []), (62, .isub, 1, 0, 0, 0, []), (63, .iload_n 2, 1, 0, 0, 0, []), (64, .iload_n 3, 1, 0, 0, 0, []), (65, .isub, 1, 0, 0, 0, []), (66, .iload 4, 2, 0, 0, 0, []), (68, .isub, 1, 0, 0, 0, []), (69, .iconst 0, 1, 0, 0, 0, []), (70, .invokevirtual 18, 3, 20, 4, 0, []), (73, .goto 17, 3, 0, 0, 0, []), (76, .aload_n 0, 1, 0, 0, 0, []), (77, .iload_n 2, 1, 0, 0, 0, []), (78, .iconst 2, 1, 0, 0, 0, []), (79, .iload_n 3, 1, 0, 0, 0, []), (80, .imul, 1, 0, 0, 0, []), (81, .isub, 1, 0, 0, 0, []), (82, .iload 4, 2, 0, 0, 0, []), (84, .isub, 1, 0, 0, 0, []), (85, .iconst 0, 1, 0, 0, 0, []), (86, .iconst 1, 1, 0, 0, 0, []), (87, .invokevirtual 18, 3, 20, 4, 0, []), (90, .return_, 1, 0, 0, 0, [])]
def cd_20 : List (Nat × Instr × Nat × Nat × Nat × Nat × List Nat) := [(0, .aload_n 0, 1, 0, 0, 0, []), (1, .iload_n 1, 1, 0, 0, 0, []), (2, .putfield 24, 3, 1, 0, 0, []), (5, .aload_n 0, 1, 0, 0, 0, []), (6, .iload_n 2, 1, 0, 0, 0, []), (7, .putfield 27, 3, 1, 1, 0, []), (10, .aload_n 0, 1, 0, 0, 0, []), (11, .iload_n 3, 1, 0, 0, 0, []), (12, .putfield 30, 3, 1, 2, 0, []), (15, .return_, 1, 0, 0, 0, [])]
def cd_21 : List (Nat × Instr × Nat × Nat × Nat × Nat × List Nat) := [(0, .aload_n 0, 1, 0, 0, 0, []), (1, .getfield 24, 3, 1, 0, 0, []), (4, .aload_n 1, 1, 0, 0, 0, []), (5, .getfield 9, 3, 5, 0, 1, []), (8, .imul, 1, 0, 0, 0, []), (9, .aload_n 0, 1, 0, 0, 0, []), (10, .getfield 27, 3, 1, 1, 0, []), (13, .iadd, 1, 0, 0, 0, []), (14, .ireturn, 1, 0, 0, 0, [])]
def cd_22 : List (Nat × Instr × Nat × Nat × Nat × Nat × List Nat) := [(0, .aload_n 0, 1, 0, 0, 0, []), (1, .aload_n 0, 1, 0, 0, 0, []), (2, .iload_n 1, 1, 0, 0, 0, []), (3, .invokevirtual 33, 3, 23, 2, 0, []), (6, .putfield 30, 3, 1, 2, 0, []), (9, .aload_n 0, 1, 0, 0, 0, []), (10, .getfield 30, 3, 1, 2, 0, []), (13, .tableswitch 66 0 2 #[27, 40, 53], 27, 0, 0, 0, []), (40, .aload_n 0, 1, 0, 0, 0, []), (41, .dup, 1, 0, 0, 0, []), (42, .getfield 24, 3, 1, 0, 0, []), (45, .iconst 1, 1, 0, 0, 0, []), (46, .isub, 1, 0, 0, 0, []), (47, .putfield 24, 3, 1, 0, 0, []), (50, .goto 39, 3, 0, 0, 0, []), (53, .aload_n 0, 1, 0, 0, 0, []), (54, .dup, 1, 0, 0, 0, []), (55, .getfield 27, 3, 1, 1, 0, []), (58, .iconst 1, 1, 0, 0, 0, []), (59, .iadd, 1, 0, 0, 0, []), (60, .putfield 27, 3, 1, 1, 0, []), (63, .goto 26, 3, 0, 0, 0, []), (66, .aload_n 0, 1, 0, 0, 0, []), (67, .dup, 1, 0, 0, 0, []), (68, .getfield 24, 3, 1, 0, 0, []), (71, .iconst 1, 1, 0, 0, 0, []), (72, .iadd, 1, 0, 0, 0, []), (73, .putfield 24, 3, 1, 0, 0, []), (76, .goto 13, 3, 0, 0, 0, []), (79, .aload_n 0, 1, 0, 0, 0, []), (80, .dup, 1, 0, 0, 0, []), (81, .getfield 27, 3, 1, 1, 0, []), (84, .iconst 1, 1, 0, 0, 0, []), (85, .isub, 1, 0, 0, 0, []), (86, .putfield 27, 3, 1, 1, 0, []), (89, .return_, 1, 0, 0, 0, [])]
def cd_23 : List (Nat × Instr × Nat × Nat × Nat × Nat × List Nat) := [(0, .iload_n 1, 1, 0, 0, 0, []), (1, .bipush 47, 2, 0, 0, 0, []), (3, .if_icmp .ne 40, 3, 0, 0, 0, []), (6, .aload_n 0, 1, 0, 0, 0, []), (7, .getfield 30, 3, 1, 2, 0, []), (10, .ifCond .ne 7, 3, 0, 0, 0, []), (13, .iconst 1, 1, 0, 0, 0, []), (14, .goto 28, 3, 0, 0, 0, []), (17, .aload_n 0, 1, 0, 0, 0, []), (18, .getfield 30, 3, 1, 2, 0, []), (21, .iconst 1, 1, 0, 0, 0, []), (22, .if_icmp .ne 7, 3, 0, 0, 0, []), (25, .iconst 0, 1, 0, 0, 0, []), (26, .goto 16, 3, 0, 0, 0, []), (29, .aload_n 0, 1, 0, 0, 0, []), (30, .getfield 30, 3, 1, 2, 0, []), (33, .iconst 2, 1, 0, 0, 0, []), (34, .if_icmp .ne 7, 3, 0, 0, 0, []), (37, .iconst 3, 1, 0, 0, 0, []), (38, .goto 4, 3, 0, 0, 0, []), (41, .iconst 2, 1, 0, 0, 0, []), (42, .ireturn, 1, 0, 0, 0, []), (43, .iload_n 1, 1, 0, 0, 0, []), (44, .bipush 92, 2, 0, 0, 0, []), (46, .if_icmp .ne 40, 3, 0, 0, 0, []), (49, .aload_n 0, 1, 0, 0, 0, []), (50, .getfield 30, 3, 1, 2, 0, []), (53, .ifCond .ne 7, 3, 0, 0, 0, []), (56, .iconst 3, 1, 0, 0, 0, []), (57, .goto 28, 3, 0, 0, 0, []), (60, .aload_n 0, 1, 0, 0, 0, []), (61, .getfield 30, 3, 1, 2, 0, []), (64, .iconst 3, 1, 0, 0, 0, []), (65, .if_icmp .ne 7, 3, 0, 0, 0, []), (68, .iconst 0, 1, 0, 0, 0, []), (69, .goto 16, 3, 0, 0, 0, []), (72, .aload_n 0, 1, 0, 0, 0, []), (73, .getfield 30, 3, 1, 2, 0, []), (76, .iconst 2, 1, 0, 0, 0, []), (77, .if_icmp .ne 7, 3, 0, 0, 0, []), (80, .iconst 1, 1, 0, 0, 0, []), (81, .goto 4, 3, 0, 0, 0, []), (84, .iconst 2, 1, 0, 0, 0, []), (85, .ireturn, 1, 0, 0, 0, []), (86, .aload_n 0, 1, 0, 0, 0, []), (87, .getfield 30, 3, 1, 2, 0, []), (90, .ireturn, 1, 0, 0, 0, [])]
def cd_24 : List (Nat × Instr × Nat × Nat × Nat × Nat × List Nat) := [(0, .aload_n 1, 1, 0, 0, 0, []), (1, .getfield 9, 3, 5, 0, 1, []), (4, .istore_n 2, 1, 0, 0, 0, []), (5, .aload_n 1, 1, 0, 0, 0, []), (6, .getfield 15, 3, 5, 1, 1, []), (9, .istore_n 3, 1, 0, 0, 0, []), (10, .aload_n 0, 1, 0, 0, 0, []), (11, .getfield 24, 3, 1, 0, 0, []), (14, .ifCond .ge 8, 3, 0, 0, 0, []), (17, .aload_n 0, 1, 0, 0, 0, []), (18, .getfield 27, 3, 1, 1, 0, []), (21, .ireturn, 1, 0, 0, 0, []), (22, .aload_n 0, 1, 0, 0, 0, []), (23, .getfield 27, 3, 1, 1, 0, []), (26, .iload_n 2, 1, 0, 0, 0, []), (27, .if_icmp .lt 10, 3, 0, 0, 0, []), (30, .iload_n 2, 1, 0, 0, 0, []), (31, .aload_n 0, 1, 0, 0, 0, []), (32, .getfield 24, 3, 1, 0, 0, []), (35, .iadd, 1, 0, 0, 0, []), (36, .ireturn, 1, 0, 0, 0, []), (37, .aload_n 0, 1, 0, 0, 0, []), (38, .getfield 24, 3, 1, 0, 0, []), (41, .iload_n 3, 1, 0, 0, 0, []), (42, .if_icmp .lt 12, 3, 0, 0, 0, []), (45, .iload_n 2, 1, 0, 0, 0, []), (46, .iload_n 3, 1, 0, 0, 0, []), (47, .iadd, 1, 0, 0, 0, []), (48, .aload_n 0, 1, 0, 0, 0, []), (49, .getfield 27, 3, 1, 1, 0, []), (52, .iadd, 1, 0, 0, 0, []), (53, .ireturn, 1, 0, 0, 0, []), (54, .aload_n 0, 1, 0, 0, 0, []), (55, .getfield 27, 3, 1, 1, 0, []), (58, .ifCond .ge 16, 3, 0, 0, 0, []), (61, .iconst 2, 1, 0, 0, 0, []), (62, .iload_n 2, 1, 0, 0, 0, []), (63, .imul, 1, 0, 0, 0, []), (64, .iload_n 3, 1, 0, 0, 0, []), (65, .iadd, 1, 0, 0, 0, []), (66, .aload_n 0, 1, 0, 0, 0, []), (67, .getfield 24, 3, 1, 0, 0, []), (70, .iadd, 1, 0, 0, 0, []), (71, .goto 4, 3, 0, 0, 0, []), (74, .iconst (-1), 1, 0, 0, 0, []), (75, .ireturn, 1, 0, 0, 0, [])]
def cd_25 : List (Nat × Instr × Nat × Nat × Nat × Nat × List Nat) := [(0, .aload_n 0, 1, 0, 0, 0, []), (1, .invokespecial 3, 3, 0, 1, 6, []), (4, .aload_n 0, 1, 0, 0, 0, []), (5, .iconst 4, 1, 0, 0, 0, []), (6, .anewarray 9, 3, 3, 0, 0, []), (9, .putfield 11, 3, 2, 0, 0, []), (12, .aload_n 0, 1, 0, 0, 0, []), (13, .iconst 4, 1, 0, 0, 0, []), (14, .anewarray 17, 3, 4, 0, 0, []), (17, .putfield 19, 3, 2, 1, 0, []), (20, .iconst 0, 1, 0, 0, 0, []), (21, .istore_n 1, 1, 0, 0, 0, []), (22, .iload_n 1, 1, 0, 0, 0, []), (23, .aload_n 0, 1, 0, 0, 0, []), (24, .getfield 11, 3, 2, 0, 0, []), (27, .arraylength, 1, 0, 0, 0, []), (28, .if_icmp .ge 44, 3, 0, 0, 0, []), (31, .iload_n 1, 1, 0, 0, 0, []), (32, .aload_n 0, 1, 0, 0, 0, []), (33, .getfield 19, 3, 2, 1, 0, []), (36, .arraylength, 1, 0, 0, 0, []), (37, .if_icmp .ge 35, 3, 0, 0, 0, []), (40, .aload_n 0, 1, 0, 0, 0, []), (41, .getfield 11, 3, 2, 0, 0, []), (44, .iload_n 1, 1, 0, 0, 0, []), (45, .new 9, 3, 5, 0, 0, []), (48, .dup, 1, 0, 0, 0, []), (49, .invokespecial 23, 3, 46, 1, 4, []), (52, .aastore, 1, 0, 0, 0, []), (53, .aload_n 0, 1, 0, 0, 0, []), (54, .getfield 19, 3, 2, 1, 0, []), (57, .iload_n 1, 1, 0, 0, 0, []), (58, .new 17, 3, 7, 0, 0, []), (61, .dup, 1, 0, 0, 0, []), (62, .invokespecial 24, 3, 69, 1, 5, []), (65, .aastore, 1, 0, 0, 0, []), (66, .iinc 1 1, 3, 0, 0, 0, []), (69, .goto (-47), 3, 0, 0, 0, []), (72, .return_, 1, 0, 0, 0, [])]
def cd_26 : List (Nat × Instr × Nat × Nat × Nat × Nat × List Nat) := [(0, .aload_n 0, 1, 0, 0, 0, []), (1, .aload_n 0, 1, 0, 0, 0, []), (2, .getfield 25, 3, 2, 3, 0, []), (5, .invokevirtual 29, 3, 28, 2, 0, []), (8, .astore_n 3, 1, 0, 0, 0, []), (9, .aload_n 0, 1, 0, 0, 0, []), (10, .aload_n 0, 1, 0, 0, 0, []), (11, .getfield 25, 3, 2, 3, 0, []), (14, .invokevirtual 33, 3, 29, 2, 0, []), (17, .astore 4, 2, 0, 0, 0, []), (19, .aload_n 3, 1, 0, 0, 0, []), (20, .ifnull 19, 3, 0, 0, 0, []), (23, .aload 4, 2, 0, 0, 0, []), (25, .ifnull 14, 3, 0, 0, 0, []), (28, .aload_n 3, 1, 0, 0, 0, []), (29, .aload_n 1, 1, 0, 0, 0, []), (30, .invokevirtual 37, 3, 48, 2, 0, []), (33, .aload 4, 2, 0, 0, 0, []), (35, .aload_n 2, 1, 0, 0, 0, []), (36, .invokevirtual 41, 3, 70, 2, 0, []), (39, .aload_n 0, 1, 0, 0, 0, []), (40, .aload_n 0, 1, 0, 0, 0, []), (41, .getfield 25, 3, 2, 3, 0, []), (44, .iconst 1, 1, 0, 0, 0, []), (45, .iadd, 1, 0, 0, 0, []), (46, .iconst 4, 1, 0, 0, 0, []), (47, .irem, 1, 0, 0, 0, []), (48, .putfield 25, 3, 2, 3, 0, []), (51, .aload_n 0, 1, 0, 0, 0, []), (52, .aload_n 0, 1, 0, 0, 0, []), (53, .getfield 44, 3, 2, 2, 0, []), (56, .iconst 1, 1, 0, 0, 0, []), (57, .iadd, 1, 0, 0, 0, []), (58, .iconst 4, 1, 0, 0, 0, []), (59, .invokestatic 47, 3, 0, 2, 9, []), (62, .putfield 44, 3, 2, 2, 0, []), (65, .return_, 1, 0, 0, 0, [])]
def cd_27 : List (Nat × Instr × Nat × Nat × Nat × Nat × List Nat) := [(0, .aload_n 0, 1, 0, 0, 0, []), (1, .aload_n 0, 1, 0, 0, 0, []), (2, .getfield 25, 3, 2, 3, 0, []), (5, .iconst 4, 1, 0, 0, 0, []), (6, .iadd, 1, 0, 0, 0, []), (7, .iconst 1, 1, 0, 0, 0, []), (8, .isub, 1, 0, 0, 0, []), (9, .iconst 4, 1, 0, 0, 0, []), (10, .irem, 1, 0, 0, 0, []), (11, .putfield 25, 3, 2, 3, 0, []), (14, .aload_n 0, 1, 0, 0, 0, []), (15, .aload_n 0, 1, 0, 0, 0, []), (16, .getfield 44, 3, 2, 2, 0, []), (19, .iconst 1, 1, 0, 0, 0, []), (20, .isub, 1, 0, 0, 0, []), (21, .iconst 0, 1, 0, 0, 0, []), (22, .invokestatic 53, 3, 0, 2, 8, []), (25, .putfield 44, 3, 2, 2, 0, []), (28, .aload_n 0, 1, 0, 0, 0, []), (29, .aload_n 0, 1, 0, 0, 0, []), (30, .getfield 25, 3, 2, 3, 0, []), (33, .invokevirtual 29, 3, 28, 2, 0, []), (36, .astore_n 3, 1, 0, 0, 0, []), (37, .aload_n 0, 1, 0, 0, 0, []), (38, .aload_n 0, 1, 0, 0, 0, []), (39, .getfield 25, 3, 2, 3, 0, []), (42, .invokevirtual 33, 3, 29, 2, 0, []), (45, .astore 4, 2, 0, 0, 0, []), (47, .aload_n 3, 1, 0, 0, 0, []), (48, .ifnull 19, 3, 0, 0, 0, []), (51, .aload 4, 2, 0, 0, 0, []), (53, .ifnull 14, 3, 0, 0, 0, []), (56, .aload_n 1, 1, 0, 0, 0, []), (57, .aload_n 3, 1, 0, 0, 0, []), (58, .invokevirtual 37, 3, 48, 2, 0, []), (61, .aload_n 2, 1, 0, 0, 0, []), (62, .aload 4, 2, 0, 0, 0, []), (64, .invokevirtual 41, 3, 70, 2, 0, []), (67, .return_, 1, 0, 0, 0, [])]
def cd_28 : List (Nat × Instr × Nat × Nat × Nat × Nat × List Nat) := [(0, .iload_n 1, 1, 0, 0, 0, []), (1, .ifCond .lt 21, 3, 0, 0, 0, []), (4, .iload_n 1, 1, 0, 0, 0, []), (5, .aload_n 0, 1, 0, 0, 0, []), (6, .getfield 11, 3, 2, 0, 0, []), (9, .arraylength, 1, 0, 0, 0, []), (10, .if_icmp .ge 12, 3, 0, 0, 0, []), (13, .aload_n 0, 1, 0, 0, 0, []), (14, .getfield 11, 3, 2, 0, 0, []), (17, .iload_n 1, 1, 0, 0, 0, []), (18, .aaload, 1, 0, 0, 0, []), (19, .goto 4, 3, 0, 0, 0, []), (22, .aconst_null, 1, 0, 0, 0, []), (23, .areturn, 1, 0, 0, 0, [])]
def cd_29 : List (Nat × Instr × Nat × Nat × Nat × Nat × List Nat) := [(0, .iload_n 1, 1, 0, 0, 0, []), (1, .ifCond .lt 21, 3, 0, 0, 0, []), (4, .iload_n 1, 1, 0, 0, 0, []), (5, .aload_n 0, 1, 0, 0, 0, []), (6, .getfield 19, 3, 2, 1, 0, []), (9, .arraylength, 1, 0, 0, 0, []), (10, .if_icmp .ge 12, 3, 0, 0, 0, []), (13, .aload_n 0, 1, 0, 0, 0, []), (14, .getfield 19, 3, 2, 1, 0, []), (17, .iload_n 1, 1, 0, 0, 0, []), (18, .aaload, 1, 0, 0, 0, []), (19, .goto 4, 3, 0, 0, 0, []), (22, .aconst_null, 1, 0, 0, 0, []), (23, .areturn, 1, 0, 0, 0, [])]
def cd_30 : List (Nat × Instr × Nat × Nat × Nat × Nat × List Nat) := [(0, .aload_n 0, 1, 0, 0, 0, []), (1, .invokespecial 3, 3, 0, 1, 6, []), (4, .aload_n 0, 1, 0, 0, 0, []), (5, .sipush 294, 3, 0, 0, 0, []), (8, .newarray .int, 2, 0, 0, 0, []), (10, .putfield 9, 3, 3, 0, 0, []), (13, .return_, 1, 0, 0, 0, [])]
def cd_31 : List (Nat × Instr × Nat × Nat × Nat × Nat × List Nat) := [(0, .aload_n 0, 1, 0, 0, 0, []), (1, .iconst 0, 1, 0, 0, 0, []), (2, .putfield 15, 3, 3, 1, 0, []), (5, .aload_n 0, 1, 0, 0, 0, []), (6, .iconst 0, 1, 0, 0, 0, []), (7, .putfield 19, 3, 3, 2, 0, []), (10, .iconst 0, 1, 0, 0, 0, []), (11, .istore 4, 2, 0, 0, 0, []), (13, .iload 4, 2, 0, 0, 0, []), (15, .aload_n 2, 1, 0, 0, 0, []), (16, .iload_n 3, 1, 0, 0, 0, []), (17, .invokevirtual 23, 3, 9, 2, 0, []), (20, .if_icmp .ge 24, 3, 0, 0, 0, []), (23, .aload_n 0, 1, 0, 0, 0, []), (24, .aload_n 1, 1, 0, 0, 0, []), (25, .aload_n 2, 1, 0, 0, 0, []), (26, .iload_n 3, 1, 0, 0, 0, []), (27, .iload 4, 2, 0, 0, 0, []), (29, .invokevirtual 29, 3, 14, 3, 0, []), (32, .invokevirtual 33, 3, 53, 2, 0, []), (35, .invokevirtual 38, 3, 32, 2, 0, []), (38, .iinc 4 1, 3, 0, 0, 0, []), (41, .goto (-28), 3, 0, 0, 0, []), (44, .return_, 1, 0, 0, 0, [])]
def cd_32 : List (Nat × Instr × Nat × Nat × Nat × Nat × List Nat) := [(0, .iload_n 1, 1, 0, 0, 0, []), (1, .invokestatic 42, 3, 118, 1, 3, []), (4, .ifCond .eq 11, 3, 0, 0, 0, []), (7, .aload_n 0, 1, 0, 0, 0, []), (8, .iload_n 1, 1, 0, 0, 0, []), (9, .invokevirtual 46, 3, 33, 2, 0, []), (12, .goto 47, 3, 0, 0, 0, []), (15, .iload_n 1, 1, 0, 0, 0, []), (16, .invokestatic 49, 3, 119, 1, 3, []), (19, .ifCond .eq 29, 3, 0, 0, 0, []), (22, .iload_n 1, 1, 0, 0, 0, []), (23, .bipush 65, 2, 0, 0, 0, []), (25, .isub, 1, 0, 0, 0, []), (26, .bipush 97, 2, 0, 0, 0, []), (28, .iadd, 1, 0, 0, 0, []), (29, .istore_n 2, 1, 0, 0, 0, []), (30, .aload_n 0, 1, 0, 0, 0, []), (31, .iload_n 2, 1, 0, 0, 0, []), (32, .invokevirtual 46, 3, 33, 2, 0, []), (35, .aload_n 0, 1, 0, 0, 0, []), (36, .iconst 1, 1, 0, 0, 0, []), (37, .putfield 19, 3, 3, 2, 0, []), (40, .aload_n 0, 1, 0, 0, 0, []), (41, .iload_n 2, 1, 0, 0, 0, []), (42, .invokevirtual 46, 3, 33, 2, 0, []), (45, .goto 14, 3, 0, 0, 0, []), (48, .iload_n 1, 1, 0, 0, 0, []), (49, .bipush 58, 2, 0, 0, 0, []), (51, .if_icmp .ne 8, 3, 0, 0, 0, []), (54, .aload_n 0, 1, 0, 0, 0, []), (55, .iconst 1, 1, 0, 0, 0, []), (56, .putfield 19, 3, 3, 2, 0, []), (59, .return_, 1, 0, 0, 0, [])]
def cd_33 : List (Nat × Instr × Nat × Nat × Nat × Nat × List Nat) := [(0, .aload_n 0, 1, 0, 0, 0, []), (1, .getfield 19, 3, 3, 2, 0, []), (4, .ifCond .eq 16, 3, 0, 0, 0, []), (7, .aload_n 0, 1, 0, 0, 0, []), (8, .getfield 15, 3, 3, 1, 0, []), (11, .ifCond .le 9, 3, 0, 0, 0, []), (14, .aload_n 0, 1, 0, 0, 0, []), (15, .bipush 32, 2, 0, 0, 0, []), (17, .invokevirtual 52, 3, 34, 2, 0, []), (20, .aload_n 0, 1, 0, 0, 0, []), (21, .iconst 0, 1, 0, 0, 0, []), (22, .putfield 19, 3, 3, 2, 0, []), (25, .aload_n 0, 1, 0, 0, 0, []), (26, .iload_n 1, 1, 0, 0, 0, []), (27, .invokevirtual 52, 3, 34, 2, 0, []), (30, .return_, 1, 0, 0, 0, [])]
def cd_34 : List (Nat × Instr × Nat × Nat × Nat × Nat × List Nat) := [(0, .aload_n 0, 1, 0, 0, 0, []), (1, .getfield 9, 3, 3, 0, 0, []), (4, .aload_n 0, 1, 0, 0, 0, []), (5, .getfield 15, 3, 3, 1, 0, []), (8, .iload_n 1, 1, 0, 0, 0, []), (9, .invokestatic 55, 3, 127, 3, 3, []), (12, .aload_n 0, 1, 0, 0, 0, []), (13, .dup, 1, 0, 0, 0, []), (14, .getfield 15, 3, 3, 1, 0, []), (17, .iconst 1, 1, 0, 0, 0, []), (18, .iadd, 1, 0, 0, 0, []), (19, .putfield 15, 3, 3, 1, 0, []), (22, .return_, 1, 0, 0, 0, [])]
def cd_35 : List (Nat × Instr × Nat × Nat × Nat × Nat × List Nat) := [(0, .iload_n 1, 1, 0, 0, 0, []), (1, .aload_n 0, 1, 0, 0, 0, []), (2, .getfield 15, 3, 3, 1, 0, []), (5, .if_icmp .ge 14, 3, 0, 0, 0, []), (8, .aload_n 0, 1, 0, 0, 0, []), (9, .getfield 9, 3, 3, 0, 0, []), (12, .iload_n 1, 1, 0, 0, 0, []), (13, .invokestatic 59, 3, 125, 2, 3, []), (16, .goto 4, 3, 0, 0, 0, []), (19, .iconst (-1), 1, 0, 0, 0, []), (20, .ireturn, 1, 0, 0, 0, [])]
def cd_36 : List (Nat × Instr × Nat × Nat × Nat × Nat × List Nat) := [(0, .aload_n 0, 1, 0, 0, 0, []), (1, .getfield 15, 3, 3, 1, 0, []), (4, .aload_n 1, 1, 0, 0, 0, []), (5, .getfield 15, 3, 3, 1, 0, []), (8, .if_icmp .eq 5, 3, 0, 0, 0, []), (11, .iconst 0, 1, 0, 0, 0, []), (12, .ireturn, 1, 0, 0, 0, []), (13, .iconst 0, 1, 0, 0, 0, []), (14, .istore_n 2, 1, 0, 0, 0, []), (15, .iload_n 2, 1, 0, 0, 0, []), (16, .aload_n 0, 1, 0, 0, 0, []), (17, .getfield 15, 3, 3, 1, 0, []), (20, .if_icmp .ge 24, 3, 0, 0, 0, []), (23, .aload_n 0, 1, 0, 0, 0, []), (24, .iload_n 2, 1, 0, 0, 0, []), (25, .invokevirtual 63, 3, 35, 2, 0, []), (28, .aload_n 1, 1, 0, 0, 0, []), (29, .iload_n 2, 1, 0, 0, 0, []), (30, .invokevirtual 63, 3, 35, 2, 0, []), (33, .if_icmp .eq 5, 3, 0, 0, 0, []), (36, .iconst 0, 1, 0, 0, 0, []), (37, .ireturn, 1, 0, 0, 0, []), (38, .iinc 2 1, 3, 0, 0, 0, []), (41, .goto (-26), 3, 0, 0, 0, []), (44, .iconst 1, 1, 0, 0, 0, []), (45, .ireturn, 1, 0, 0, 0, [])]
def cd_37 : List (Nat × Instr × Nat × Nat × Nat × Nat × List Nat) := [(0, .iconst 0, 1, 0, 0, 0, []), (1, .istore_n 2, 1, 0, 0, 0, []), (2, .iconst 0, 1, 0, 0, 0, []), (3, .istore_n 3, 1, 0, 0, 0, []), (4, .iconst 0, 1, 0, 0, 0, []), (5, .istore 4, 2, 0, 0, 0, []), (7, .iconst 0, 1, 0, 0, 0, []), (8, .istore 5, 2, 0, 0, 0, []), (10, .iload 5, 2, 0, 0, 0, []), (12, .aload_n 0, 1, 0, 0, 0, []), (13, .getfield 15, 3, 3, 1, 0, []), (16, .if_icmp .gt 75, 3, 0, 0, 0, []), (19, .iload 5, 2, 0, 0, 0, []), (21, .aload_n 0, 1, 0, 0, 0, []), (22, .getfield 15, 3, 3, 1, 0, []), (25, .if_icmp .eq 17, 3, 0, 0, 0, []), (28, .aload_n 0, 1, 0, 0, 0, []), (29, .getfield 9, 3, 3, 0, 0, []), (32, .iload 5, 2, 0, 0, 0, []), (34, .invokestatic 59, 3, 125, 2, 3, []), (37, .bipush 32, 2, 0, 0, 0, []), (39, .if_icmp .ne 46, 3, 0, 0, 0, []), (42, .iload 5, 2, 0, 0, 0, []), (44, .iload 4, 2, 0, 0, 0, []), (46, .if_icmp .le 33, 3, 0, 0, 0, []), (49, .iinc 2 1, 3, 0, 0, 0, []), (52, .iload_n 3, 1, 0, 0, 0, []), (53, .aload_n 1, 1, 0, 0, 0, []), (54, .aload_n 0, 1, 0, 0, 0, []), (55, .getfield 9, 3, 3, 0, 0, []), (58, .iload 4, 2, 0, 0, 0, []), (60, .iload 5, 2, 0, 0, 0, []), (62, .iload 4, 2, 0, 0, 0, []), (64, .isub, 1, 0, 0, 0, []), (65, .invokevirtual 64, 3, 77, 4, 0, []), (68, .iconst (-1), 1, 0, 0, 0, []), (69, .if_icmp .eq 7, 3, 0, 0, 0, []), (72, .iconst 1, 1, 0, 0, 0, []), (73, .goto 4, 3, 0, 0, 0, []), (76, .iconst 0, 1, 0, 0, 0, []), (77, .iadd, 1, 0, 0, 0, []), (78, .istore_n 3, 1, 0, 0, 0, []), (79, .iload 5, 2, 0, 0, 0, []), (81, .iconst 1, 1, 0, 0, 0, []), (82, .iadd, 1, 0, 0, 0, []), (83, .istore 4, 2, 0, 0, 0, []), (85, .iinc 5 1, 3, 0, 0, 0, []), (88, .goto (-78), 3, 0, 0, 0, []), (91, .iload_n 2, 1, 0, 0, 0, []), (92, .ifCond .le 12, 3, 0, 0, 0, []), (95, .iload_n 3, 1, 0, 0, 0, []), (96, .iload_n 2, 1, 0, 0, 0, []), (97, .if_icmp .ne 7, 3, 0, 0, 0, []), (100, .iload_n 3, 1, 0, 0, 0, []), (101, .goto 6, 3, 0, 0, 0, []), (104, .iconst (-1), 1, 0, 0, 0, []), (105, .iload_n 3, 1, 0, 0, 0, []), (106, .isub, 1, 0, 0, 0, []), (107, .ireturn, 1, 0, 0, 0, [])]
def cd_38 : List (Nat × Instr × Nat × Nat × Nat × Nat × List Nat) := [(0, .aload_n 0, 1, 0, 0, 0, []), (1, .invokespecial 3, 3, 0, 1, 6, []), (4, .aload_n 0, 1, 0, 0, 0, []), (5, .bipush 28, 2, 0, 0, 0, []), (7, .newarray .long, 2, 0, 0, 0, []), (9, .putfield 9, 3, 4, 0, 0, []), (12, .aload_n 0, 1, 0, 0, 0, []), (13, .bipush 49, 2, 0, 0, 0, []), (15, .newarray .int, 2, 0, 0, 0, []), (17, .putfield 15, 3, 4, 1, 0, []), (20, .aload_n 0, 1, 0, 0, 0, []), (21, .bipush 49, 2, 0, 0, 0, []), (23, .newarray .int, 2, 0, 0, 0, []), (25, .putfield 19, 3, 4, 2, 0, []), (28, .aload_n 0, 1, 0, 0, 0, []), (29, .bipush 28, 2, 0, 0, 0, []), (31, .newarray .int, 2, 0, 0, 0, []), (33, .putfield 22, 3, 4, 3, 0, []), (36, .aload_n 0, 1, 0, 0, 0, []), (37, .bipush 28, 2, 0, 0, 0, []), (39, .newarray .int, 2, 0, 0, 0, []), (41, .putfield 25, 3, 4, 4, 0, []), (44, .return_, 1, 0, 0, 0, [])]
def cd_39 : List (Nat × Instr × Nat × Nat × Nat × Nat × List Nat) := [(0, .aload_n 0, 1, 0, 0, 0, []), (1, .aload_n 1, 1, 0, 0, 0, []), (2, .invokevirtual 28, 3, 57, 1, 0, []), (5, .putfield 34, 3, 4, 5, 0, []), (8, .aload_n 0, 1, 0, 0, 0, []), (9, .iload_n 3, 1, 0, 0, 0, []), (10, .putfield 38, 3, 4, 6, 0, []), (13, .aload_n 0, 1, 0, 0, 0, []), (14, .iconst 0, 1, 0, 0, 0, []), (15, .putfield 42, 3, 4, 7, 0, []), (18, .aload_n 0, 1, 0, 0, 0, []), (19, .iconst 0, 1, 0, 0, 0, []), (20, .putfield 45, 3, 4, 8, 0, []), (23, .aload_n 0, 1, 0, 0, 0, []), (24, .iconst 0, 1, 0, 0, 0, []), (25, .putfield 48, 3, 4, 9, 0, []), (28, .aload_n 0, 1, 0, 0, 0, []), (29, .iconst (-1), 1, 0, 0, 0, []), (30, .putfield 51, 3, 4, 10, 0, []), (33, .aload_n 0, 1, 0, 0, 0, []), (34, .iconst 0, 1, 0, 0, 0, []), (35, .putfield 54, 3, 4, 11, 0, []), (38, .aload_n 0, 1, 0, 0, 0, []), (39, .aload_n 2, 1, 0, 0, 0, []), (40, .invokevirtual 58, 3, 40, 2, 0, []), (43, .aload_n 0, 1, 0, 0, 0, []), (44, .aload_n 2, 1, 0, 0, 0, []), (45, .invokevirtual 62, 3, 41, 2, 0, []), (48, .aload_n 0, 1, 0, 0, 0, []), (49, .iconst 0, 1, 0, 0, 0, []), (50, .lconst 0, 1, 0, 0, 0, []), (51, .invokestatic 65, 3, 42, 3, 2, []), (54, .return_, 1, 0, 0, 0, [])]
def cd_40 : List (Nat × Instr × Nat × Nat × Nat × Nat × List Nat) := [(0, .iconst 0, 1, 0, 0, 0, []), (1, .istore_n 2, 1, 0, 0, 0, []), (2, .iload_n 2, 1, 0, 0, 0, [3]), (3, .bipush 28, 2, 0, 0, 0, []), (5, .if_icmp .ge 58, 3, 0, 0, 0, []), (8, .aload_n 1, 1, 0, 0, 0, []), (9, .iload_n 2, 1, 0, 0, 0, []), (10, .invokevirtual 69, 3, 7, 2, 0, []), (13, .iload_n 2, 1, 0, 0, 0, []), (14, .if_icmp .ne 15, 3, 0, 0, 0, []), (17, .aload_n 1, 1, 0, 0, 0, []), (18, .iload_n 2, 1, 0, 0, 0, []), (19, .invokevirtual 75, 3, 12, 2, 0, []), (22, .ifCond .ne 7, 3, 0, 0, 0, []), (25, .iconst 1, 1, 0, 0, 0, []), (26, .goto 4, 3, 0, 0, 0, []), (29, .iconst 0, 1, 0, 0, 0, []), (30, .istore_n 3, 1, 0, 0, 0, []), (31, .aload_n 0, 1, 0, 0, 0, []), (32, .getfield 9, 3, 4, 0, 0, []), (35, .iload_n 2, 1, 0, 0, 0, []), (36, .iload_n 3, 1, 0, 0, 0, []), (37, .ifCond .eq 16, 3, 0, 0, 0, []), (40, .aload_n 1, 1, 0, 0, 0, []), (41, .iload_n 2, 1, 0, 0, 0, []), (42, .invokevirtual 79, 3, 13, 2, 0, []), (45, .aload_n 0, 1, 0, 0, 0, []), (46, .getfield 34, 3, 4, 5, 0, []), (49, .land, 1, 0, 0, 0, []), (50, .goto 4, 3, 0, 0, 0, []), (53, .lconst 0, 1, 0, 0, 0, []), (54, .invokestatic 83, 3, 128, 3, 3, []), (57, .iinc 2 1, 3, 0, 0, 0, []), (60, .goto (-58), 3, 0, 0, 0, []), (63, .return_, 1, 0, 0, 0, [])]
def cd_41 : List (Nat × Instr × Nat × Nat × Nat × Nat × List Nat) := [(0, .iconst 0, 1, 0, 0, 0, []), (1, .istore_n 2, 1, 0, 0, 0, []), (2, .iload_n 2, 1, 0, 0, 0, [3, 4]), (3, .bipush 49, 2, 0, 0, 0, []), (5, .if_icmp .ge 50, 3, 0, 0, 0, []), (8, .aload_n 1, 1, 0, 0, 0, []), (9, .iload_n 2, 1, 0, 0, 0, []), (10, .invokevirtual 87, 3, 15, 2, 0, []), (13, .istore_n 3, 1, 0, 0, 0, []), (14, .aload_n 1, 1, 0, 0, 0, []), (15, .iload_n 2, 1, 0, 0, 0, []), (16, .invokevirtual 90, 3, 16, 2, 0, []), (19, .istore 4, 2, 0, 0, 0, []), (21, .aload_n 0, 1, 0, 0, 0, []), (22, .getfield 15, 3, 4, 1, 0, []), (25, .iload_n 2, 1, 0, 0, 0, []), (26, .iload_n 3, 1, 0, 0, 0, []), (27, .iload 4, 2, 0, 0, 0, []), (29, .invokestatic 93, 3, 0, 2, 9, []), (32, .invokestatic 99, 3, 127, 3, 3, []), (35, .aload_n 0, 1, 0, 0, 0, []), (36, .getfield 19, 3, 4, 2, 0, []), (39, .iload_n 2, 1, 0, 0, 0, []), (40, .iload_n 3, 1, 0, 0, 0, []), (41, .iload 4, 2, 0, 0, 0, []), (43, .invokestatic 102, 3, 0, 2, 8, []), (46, .invokestatic 99, 3, 127, 3, 3, []), (49, .iinc 2 1, 3, 0, 0, 0, []), (52, .goto (-50), 3, 0, 0, 0, []), (55, .return_, 1, 0, 0, 0, [])]
def cd_42 : List (Nat × Instr × Nat × Nat × Nat × Nat × List Nat) := [(0, .aload_n 0, 1, 0, 0, 0, []), (1, .getfield 42, 3, 4, 7, 0, []), (4, .sipush 2000, 3, 0, 0, 0, []), (7, .if_icmp .eq 9, 3, 0, 0, 0, []), (10, .iload_n 1, 1, 0, 0, 0, []), (11, .bipush 28, 2, 0, 0, 0, []), (13, .if_icmp .le 9, 3, 0, 0, 0, []), (16, .aload_n 0, 1, 0, 0, 0, []), (17, .iconst 1, 1, 0, 0, 0, []), (18, .putfield 54, 3, 4, 11, 0, []), (21, .return_, 1, 0, 0, 0, []), (22, .aload_n 0, 1, 0, 0, 0, []), (23, .dup, 1, 0, 0, 0, []), (24, .getfield 42, 3, 4, 7, 0, []), (27, .iconst 1, 1, 0, 0, 0, []), (28, .iadd, 1, 0, 0, 0, []), (29, .putfield 42, 3, 4, 7, 0, []), (32, .aload_n 0, 1, 0, 0, 0, []), (33, .getfield 34, 3, 4, 5, 0, []), (36, .lload_n 2, 1, 0, 0, 0, []), (37, .ldc2_w 105, 3, 0, 0, 0, []), (40, .lxor, 1, 0, 0, 0, []), (41, .land, 1, 0, 0, 0, []), (42, .lstore 4, 2, 0, 0, 0, []), (44, .lload 4, 2, 0, 0, 0, []), (46, .lconst 0, 1, 0, 0, 0, []), (47, .lcmp, 1, 0, 0, 0, []), (48, .ifCond .ne 9, 3, 0, 0, 0, []), (51, .aload_n 0, 1, 0, 0, 0, []), (52, .iload_n 1, 1, 0, 0, 0, []), (53, .invokevirtual 107, 3, 44, 2, 0, []), (56, .return_, 1, 0, 0, 0, []), (57, .lload 4, 2, 0, 0, 0, []), (59, .lload 4, 2, 0, 0, 0, []), (61, .lneg, 1, 0, 0, 0, []), (62, .land, 1, 0, 0, 0, []), (63, .lstore 6, 2, 0, 0, 0, []), (65, .lload 6, 2, 0, 0, 0, []), (67, .lconst 1, 1, 0, 0, 0, []), (68, .lsub, 1, 0, 0, 0, []), (69, .invokestatic 111, 3, 199, 1, 2, []), (72, .istore 8, 2, 0, 0, 0, []), (74, .iconst 0, 1, 0, 0, 0, []), (75, .istore 9, 2, 0, 0, 0, []), (77, .iload 9, 2, 0, 0, 0, [3, 4, 5, 7, 10, 11, 12]), (79, .iconst 2, 1, 0, 0, 0, []), (80, .if_icmp .ge 90, 3, 0, 0, 0, []), (83, .aload_n 0, 1, 0, 0, 0, []), (84, .invokevirtual 117, 3, 43, 1, 0, []), (87, .ifCond .ne 83, 3, 0, 0, 0, []), (90, .iload 9, 2, 0, 0, 0, []), (92, .ifCond .ne 10, 3, 0, 0, 0, []), (95, .aload_n 0, 1, 0, 0, 0, []), (96, .getfield 15, 3, 4, 1, 0, []), (99, .goto 7, 3, 0, 0, 0, []), (102, .aload_n 0, 1, 0, 0, 0, []), (103, .getfield 19, 3, 4, 2, 0, []), (106, .iload 8, 2, 0, 0, 0, []), (108, .invokestatic 121, 3, 125, 2, 3, []), (111, .istore 10, 2, 0, 0, 0, []), (113, .aload_n 0, 1, 0, 0, 0, []), (114, .getfield 9, 3, 4, 0, 0, []), (117, .iload 10, 2, 0, 0, 0, []), (119, .invokestatic 125, 3, 126, 2, 3, []), (122, .lstore 11, 2, 0, 0, 0, []), (124, .lload 11, 2, 0, 0, 0, []), (126, .lload 6, 2, 0, 0, 0, []), (128, .land, 1, 0, 0, 0, []), (129, .lconst 0, 1, 0, 0, 0, []), (130, .lcmp, 1, 0, 0, 0, []), (131, .ifCond .eq 33, 3, 0, 0, 0, []), (134, .lload 11, 2, 0, 0, 0, []), (136, .lload_n 2, 1, 0, 0, 0, []), (137, .land, 1, 0, 0, 0, []), (138, .lconst 0, 1, 0, 0, 0, []), (139, .lcmp, 1, 0, 0, 0, []), (140, .ifCond .ne 24, 3, 0, 0, 0, []), (143, .aload_n 0, 1, 0, 0, 0, []), (144, .getfield 22, 3, 4, 3, 0, []), (147, .iload_n 1, 1, 0, 0, 0, []), (148, .iload 10, 2, 0, 0, 0, []), (150, .invokestatic 99, 3, 127, 3, 3, []), (153, .aload_n 0, 1, 0, 0, 0, []), (154, .iload_n 1, 1, 0, 0, 0, []), (155, .iconst 1, 1, 0, 0, 0, []), (156, .iadd, 1, 0, 0, 0, []), (157, .lload_n 2, 1, 0, 0, 0, []), (158, .lload 11, 2, 0, 0, 0, []), (160, .lor, 1, 0, 0, 0, []), (161, .invokestatic 65, 3, 42, 3, 2, []), (164, .iinc 9 1, 3, 0, 0, 0, []), (167, .goto (-90), 3, 0, 0, 0, []), (170, .return_, 1, 0, 0, 0, [])]
def cd_43 : List (Nat × Instr × Nat × Nat × Nat × Nat × List Nat) := [(0, .aload_n 0, 1, 0, 0, 0, []), (1, .getfield 54, 3, 4, 11, 0, []), (4, .ifCond .ne 14, 3, 0, 0, 0, []), (7, .aload_n 0, 1, 0, 0, 0, []), (8, .getfield 45, 3, 4, 8, 0, []), (11, .aload_n 0, 1, 0, 0, 0, []), (12, .getfield 38, 3, 4, 6, 0, []), (15, .if_icmp .ne 7, 3, 0, 0, 0, []), (18, .iconst 1, 1, 0, 0, 0, []), (19, .goto 4, 3, 0, 0, 0, []), (22, .iconst 0, 1, 0, 0, 0, []), (23, .ireturn, 1, 0, 0, 0, [])]
def cd_44 : List (Nat × Instr × Nat × Nat × Nat × Nat × List Nat) := [(0, .aload_n 0, 1, 0, 0, 0, []), (1, .getfield 45, 3, 4, 8, 0, []), (4, .ifCond .ne 19, 3, 0, 0, 0, []), (7, .aload_n 0, 1, 0, 0, 0, []), (8, .getfield 22, 3, 4, 3, 0, []), (11, .aload_n 0, 1, 0, 0, 0, []), (12, .getfield 25, 3, 4, 4, 0, []), (15, .invokestatic 128, 3, 129, 2, 3, []), (18, .aload_n 0, 1, 0, 0, 0, []), (19, .iload_n 1, 1, 0, 0, 0, []), (20, .putfield 48, 3, 4, 9, 0, []), (23, .aload_n 0, 1, 0, 0, 0, []), (24, .aload_n 0, 1, 0, 0, 0, []), (25, .getfield 45, 3, 4, 8, 0, []), (28, .ifCond .ne 7, 3, 0, 0, 0, []), (31, .iload_n 1, 1, 0, 0, 0, []), (32, .goto 11, 3, 0, 0, 0, []), (35, .aload_n 0, 1, 0, 0, 0, []), (36, .getfield 51, 3, 4, 10, 0, []), (39, .iload_n 1, 1, 0, 0, 0, []), (40, .invokestatic 93, 3, 0, 2, 9, []), (43, .putfield 51, 3, 4, 10, 0, []), (46, .aload_n 0, 1, 0, 0, 0, []), (47, .dup, 1, 0, 0, 0, []), (48, .getfield 45, 3, 4, 8, 0, []), (51, .iconst 1, 1, 0, 0, 0, []), (52, .iadd, 1, 0, 0, 0, []), (53, .putfield 45, 3, 4, 8, 0, []), (56, .return_, 1, 0, 0, 0, [])]
def cd_45 : List (Nat × Instr × Nat × Nat × Nat × Nat × List Nat) := [(0, .aload_n 0, 1, 0, 0, 0, []), (1, .getfield 45, 3, 4, 8, 0, []), (4, .ifCond .le 22, 3, 0, 0, 0, []), (7, .iload_n 1, 1, 0, 0, 0, []), (8, .aload_n 0, 1, 0, 0, 0, []), (9, .getfield 48, 3, 4, 9, 0, []), (12, .if_icmp .ge 14, 3, 0, 0, 0, []), (15, .aload_n 0, 1, 0, 0, 0, []), (16, .getfield 25, 3, 4, 4, 0, []), (19, .iload_n 1, 1, 0, 0, 0, []), (20, .invokestatic 121, 3, 125, 2, 3, []), (23, .goto 4, 3, 0, 0, 0, []), (26, .iconst (-1), 1, 0, 0, 0, []), (27, .ireturn, 1, 0, 0, 0, [])]
def cd_46 : List (Nat × Instr × Nat × Nat × Nat × Nat × List Nat) := [(0, .aload_n 0, 1, 0, 0, 0, []), (1, .invokespecial 3, 3, 0, 1, 6, []), (4, .aload_n 0, 1, 0, 0, 0, []), (5, .bipush 49, 2, 0, 0, 0, []), (7, .newarray .int, 2, 0, 0, 0, []), (9, .putfield 9, 3, 5, 2, 0, []), (12, .aload_n 0, 1, 0, 0, 0, []), (13, .bipush 49, 2, 0, 0, 0, []), (15, .newarray .int, 2, 0, 0, 0, []), (17, .putfield 15, 3, 5, 3, 0, []), (20, .aload_n 0, 1, 0, 0, 0, []), (21, .iconst 4, 1, 0, 0, 0, []), (22, .iconst 4, 1, 0, 0, 0, []), (23, .invokevirtual 18, 3, 47, 3, 0, []), (26, .return_, 1, 0, 0, 0, [])]
def cd_47 : List (Nat × Instr × Nat × Nat × Nat × Nat × List Nat) := [(0, .aload_n 0, 1, 0, 0, 0, []), (1, .iload_n 1, 1, 0, 0, 0, []), (2, .putfield 22, 3, 5, 0, 0, []), (5, .aload_n 0, 1, 0, 0, 0, []), (6, .iload_n 2, 1, 0, 0, 0, []), (7, .putfield 26, 3, 5, 1, 0, []), (10, .aload_n 0, 1, 0, 0, 0, []), (11, .getfield 9, 3, 5, 2, 0, []), (14, .bipush 46, 2, 0, 0, 0, []), (16, .invokestatic 29, 3, 201, 2, 2, []), (19, .return_, 1, 0, 0, 0, [])]
def cd_48 : List (Nat × Instr × Nat × Nat × Nat × Nat × List Nat) := [(0, .aload_n 0, 1, 0, 0, 0, []), (1, .aload_n 1, 1, 0, 0, 0, []), (2, .getfield 22, 3, 5, 0, 0, []), (5, .putfield 22, 3, 5, 0, 0, []), (8, .aload_n 0, 1, 0, 0, 0, []), (9, .aload_n 1, 1, 0, 0, 0, []), (10, .getfield 26, 3, 5, 1, 0, []), (13, .putfield 26, 3, 5, 1, 0, []), (16, .aload_n 1, 1, 0, 0, 0, []), (17, .getfield 9, 3, 5, 2, 0, []), (20, .aload_n 0, 1, 0, 0, 0, []), (21, .getfield 9, 3, 5, 2, 0, []), (24, .invokestatic 35, 3, 129, 2, 3, []), (27, .return_, 1, 0, 0, 0, [])]
def cd_49 : List (Nat × Instr × Nat × Nat × Nat × Nat × List Nat) := [(0, .aload_n 0, 1, 0, 0, 0, []), (1, .getfield 22, 3, 5, 0, 0, []), (4, .aload_n 0, 1, 0, 0, 0, []), (5, .getfield 26, 3, 5, 1, 0, []), (8, .imul, 1, 0, 0, 0, []), (9, .ireturn, 1, 0, 0, 0, [])]
def cd_50 : List (Nat × Instr × Nat × Nat × Nat × Nat × List Nat) := [(0, .iconst 2, 1, 0, 0, 0, []), (1, .aload_n 0, 1, 0, 0, 0, []), (2, .getfield 22, 3, 5, 0, 0, []), (5, .aload_n 0, 1, 0, 0, 0, []), (6, .getfield 26, 3, 5, 1, 0, []), (9, .iadd, 1, 0, 0, 0, []), (10, .imul, 1, 0, 0, 0, []), (11, .ireturn, 1, 0, 0, 0, [])]
def cd_51 : List (Nat × Instr × Nat × Nat × Nat × Nat × List Nat) := [(0, .iload_n 1, 1, 0, 0, 0, []), (1, .ifCond .lt 15, 3, 0, 0, 0, []), (4, .iload_n 1, 1, 0, 0, 0, []), (5, .aload_n 0, 1, 0, 0, 0, []), (6, .invokevirtual 39, 3, 49, 1, 0, []), (9, .if_icmp .ge 7, 3, 0, 0, 0, []), (12, .iconst 1, 1, 0, 0, 0, []), (13, .goto 4, 3, 0, 0, 0, []), (16, .iconst 0, 1, 0, 0, 0, []), (17, .ireturn, 1, 0, 0, 0, [])]
def cd_52 : List (Nat × Instr × Nat × Nat × Nat × Nat × List Nat) := [(0, .iload_n 1, 1, 0, 0, 0, []), (1, .ifCond .lt 15, 3, 0, 0, 0, []), (4, .iload_n 1, 1, 0, 0, 0, []), (5, .aload_n 0, 1, 0, 0, 0, []), (6, .invokevirtual 43, 3, 50, 1, 0, []), (9, .if_icmp .ge 7, 3, 0, 0, 0, []), (12, .iconst 1, 1, 0, 0, 0, []), (13, .goto 4, 3, 0, 0, 0, []), (16, .iconst 0, 1, 0, 0, 0, []), (17, .ireturn, 1, 0, 0, 0, [])]
def cd_53 : List (Nat × Instr × Nat × Nat × Nat × Nat × List Nat) := [(0, .aload_n 0, 1, 0, 0, 0, []), (1, .getfield 9, 3, 5, 2, 0, []), (4, .iload_n 1, 1, 0, 0, 0, []), (5, .invokestatic 46, 3, 125, 2, 3, []), (8, .ireturn, 1, 0, 0, 0, [])]
def cd_54 : List (Nat × Instr × Nat × Nat × Nat × Nat × List Nat) := [(0, .aload_n 0, 1, 0, 0, 0, []), (1, .getfield 9, 3, 5, 2, 0, []), (4, .iload_n 1, 1, 0, 0, 0, []), (5, .iload_n 2, 1, 0, 0, 0, []), (6, .invokestatic 50, 3, 127, 3, 3, []), (9, .return_, 1, 0, 0, 0, [])]
def cd_55 : List (Nat × Instr × Nat × Nat × Nat × Nat × List Nat) := [(0, .iconst 0, 1, 0, 0, 0, []), (1, .istore_n 1, 1, 0, 0, 0, []), (2, .iload_n 1, 1, 0, 0, 0, []), (3, .aload_n 0, 1, 0, 0, 0, []), (4, .invokevirtual 39, 3, 49, 1, 0, []), (7, .if_icmp .ge 22, 3, 0, 0, 0, []), (10, .aload_n 0, 1, 0, 0, 0, []), (11, .iload_n 1, 1, 0, 0, 0, []), (12, .aload_n 0, 1, 0, 0, 0, []), (13, .iload_n 1, 1, 0, 0, 0, []), (14, .invokevirtual 54, 3, 53, 2, 0, []), (17, .invokestatic 58, 3, 124, 1, 3, []), (20, .invokevirtual 61, 3, 54, 3, 0, []), (23, .iinc 1 1, 3, 0, 0, 0, []), (26, .goto (-24), 3, 0, 0, 0, []), (29, .return_, 1, 0, 0, 0, [])]
def cd_56 : List (Nat × Instr × Nat × Nat × Nat × Nat × List Nat) := [(0, .iconst 0, 1, 0, 0, 0, []), (1, .istore_n 1, 1, 0, 0, 0, []), (2, .iload_n 1, 1, 0, 0, 0, [2, 3]), (3, .aload_n 0, 1, 0, 0, 0, []), (4, .getfield 26, 3, 5, 1, 0, []), (7, .if_icmp .ge 64, 3, 0, 0, 0, []), (10, .iconst 0, 1, 0, 0, 0, []), (11, .istore_n 2, 1, 0, 0, 0, []), (12, .iload_n 2, 1, 0, 0, 0, [3]), (13, .aload_n 0, 1, 0, 0, 0, []), (14, .getfield 22, 3, 5, 0, 0, []), (17, .if_icmp .ge 48, 3, 0, 0, 0, []), (20, .aload_n 0, 1, 0, 0, 0, []), (21, .iload_n 1, 1, 0, 0, 0, []), (22, .aload_n 0, 1, 0, 0, 0, []), (23, .getfield 22, 3, 5, 0, 0, []), (26, .imul, 1, 0, 0, 0, []), (27, .iload_n 2, 1, 0, 0, 0, []), (28, .iadd, 1, 0, 0, 0, []), (29, .invokevirtual 54, 3, 53, 2, 0, []), (32, .istore_n 3, 1, 0, 0, 0, []), (33, .aload_n 0, 1, 0, 0, 0, []), (34, .getfield 15, 3, 5, 3, 0, []), (37, .iload_n 2, 1, 0, 0, 0, []), (38, .aload_n 0, 1, 0, 0, 0, []), (39, .getfield 26, 3, 5, 1, 0, []), (42, .imul, 1, 0, 0, 0, []), (43, .aload_n 0, 1, 0, 0, 0, []), (44, .getfield 26, 3, 5, 1, 0, []), (47, .iadd, 1, 0, 0, 0, []), (48, .iconst 1, 1, 0, 0, 0, []), (49, .isub, 1, 0, 0, 0, []), (50, .iload_n 1, 1, 0, 0, 0, []), (51, .isub, 1, 0, 0, 0, []), (52, .iload_n 3, 1, 0, 0, 0, []), (53, .invokestatic 58, 3, 124, 1, 3, []), (56, .invokestatic 50, 3, 127, 3, 3, []), (59, .iinc 2 1, 3, 0, 0, 0, []), (62, .goto (-50), 3, 0, 0, 0, []), (65, .iinc 1 1, 3, 0, 0, 0, []), (68, .goto (-66), 3, 0, 0, 0, []), (71, .aload_n 0, 1, 0, 0, 0, []), (72, .getfield 22, 3, 5, 0, 0, []), (75, .istore_n 1, 1, 0, 0, 0, []), (76, .aload_n 0, 1, 0, 0, 0, []), (77, .aload_n 0, 1, 0, 0, 0, []), (78, .getfield 26, 3, 5, 1, 0, []), (81, .putfield 22, 3, 5, 0, 0, []), (84, .aload_n 0, 1, 0, 0, 0, []), (85, .iload_n 1, 1, 0, 0, 0, []), (86, .putfield 26, 3, 5, 1, 0, []), (89, .aload_n 0, 1, 0, 0, 0, []), (90, .getfield 15, 3, 5, 3, 0, []), (93, .aload_n 0, 1, 0, 0, 0, []), (94, .getfield 9, 3, 5, 2, 0, []), (97, .invokestatic 35, 3, 129, 2, 3, []), (100, .return_, 1, 0, 0, 0, [])]
def cd_57 : List (Nat × Instr × Nat × Nat × Nat × Nat × List Nat) := [(0, .lconst 0, 1, 0, 0, 0, []), (1, .lstore_n 1, 1, 0, 0, 0, []), (2, .iconst 0, 1, 0, 0, 0, []), (3, .istore_n 3, 1, 0, 0, 0, []), (4, .iload_n 3, 1, 0, 0, 0, [2]), (5, .aload_n 0, 1, 0, 0, 0, []), (6, .invokevirtual 39, 3, 49, 1, 0, []), (9, .if_icmp .ge 26, 3, 0, 0, 0, []), (12, .aload_n 0, 1, 0, 0, 0, []), (13, .iload_n 3, 1, 0, 0, 0, []), (14, .invokevirtual 54, 3, 53, 2, 0, []), (17, .invokestatic 64, 3, 120, 1, 3, []), (20, .ifCond .eq 9, 3, 0, 0, 0, []), (23, .lload_n 1, 1, 0, 0, 0, []), (24, .lconst 1, 1, 0, 0, 0, []), (25, .iload_n 3, 1, 0, 0, 0, []), (26, .lshl, 1, 0, 0, 0, []), (27, .lor, 1, 0, 0, 0, []), (28, .lstore_n 1, 1, 0, 0, 0, []), (29, .iinc 3 1, 3, 0, 0, 0, []), (32, .goto (-28), 3, 0, 0, 0, []), (35, .lload_n 1, 1, 0, 0, 0, []), (36, .lreturn, 1, 0, 0, 0, [])]
def cd_58 : List (Nat × Instr × Nat × Nat × Nat × Nat × List Nat) := [(0, .aload_n 0, 1, 0, 0, 0, []), (1, .invokevirtual 68, 3, 57, 1, 0, []), (4, .invokestatic 72, 3, 199, 1, 2, []), (7, .ireturn, 1, 0, 0, 0, [])]
def cd_59 : List (Nat × Instr × Nat × Nat × Nat × Nat × List Nat) := [(0, .iconst 0, 1, 0, 0, 0, []), (1, .istore_n 1, 1, 0, 0, 0, []), (2, .iconst 0, 1, 0, 0, 0, []), (3, .istore_n 2, 1, 0, 0, 0, []), (4, .iload_n 2, 1, 0, 0, 0, []), (5, .aload_n 0, 1, 0, 0, 0, []), (6, .invokevirtual 39, 3, 49, 1, 0, []), (9, .if_icmp .ge 28, 3, 0, 0, 0, []), (12, .iload_n 1, 1, 0, 0, 0, []), (13, .aload_n 0, 1, 0, 0, 0, []), (14, .iload_n 2, 1, 0, 0, 0, []), (15, .invokevirtual 54, 3, 53, 2, 0, []), (18, .invokestatic 78, 3, 119, 1, 3, []), (21, .ifCond .eq 7, 3, 0, 0, 0, []), (24, .iconst 1, 1, 0, 0, 0, []), (25, .goto 4, 3, 0, 0, 0, []), (28, .iconst 0, 1, 0, 0, 0, []), (29, .iadd, 1, 0, 0, 0, []), (30, .istore_n 1, 1, 0, 0, 0, []), (31, .iinc 2 1, 3, 0, 0, 0, []), (34, .goto (-30), 3, 0, 0, 0, []), (37, .iload_n 1, 1, 0, 0, 0, []), (38, .ireturn, 1, 0, 0, 0, [])]
def cd_60 : List (Nat × Instr × Nat × Nat × Nat × Nat × List Nat) := [(0, .iconst 0, 1, 0, 0, 0, []), (1, .istore_n 1, 1, 0, 0, 0, []), (2, .iconst 0, 1, 0, 0, 0, []), (3, .istore_n 2, 1, 0, 0, 0, []), (4, .iload_n 2, 1, 0, 0, 0, []), (5, .aload_n 0, 1, 0, 0, 0, []), (6, .invokevirtual 39, 3, 49, 1, 0, []), (9, .if_icmp .ge 28, 3, 0, 0, 0, []), (12, .iload_n 1, 1, 0, 0, 0, []), (13, .aload_n 0, 1, 0, 0, 0, []), (14, .iload_n 2, 1, 0, 0, 0, []), (15, .invokevirtual 54, 3, 53, 2, 0, []), (18, .invokestatic 81, 3, 121, 1, 3, []), (21, .ifCond .eq 7, 3, 0, 0, 0, []), (24, .iconst 1, 1, 0, 0, 0, []), (25, .goto 4, 3, 0, 0, 0, []), (28, .iconst 0, 1, 0, 0, 0, []), (29, .iadd, 1, 0, 0, 0, []), (30, .istore_n 1, 1, 0, 0, 0, []), (31, .iinc 2 1, 3, 0, 0, 0, []), (34, .goto (-30), 3, 0, 0, 0, []), (37, .iload_n 1, 1, 0, 0, 0, []), (38, .ireturn, 1, 0, 0, 0, [])]
def cd_61 : List (Nat × Instr × Nat × Nat × Nat × Nat × List Nat) := [(0, .iconst 0, 1, 0, 0, 0, []), (1, .istore_n 1, 1, 0, 0, 0, []), (2, .iconst 0, 1, 0, 0, 0, []), (3, .istore_n 2, 1, 0, 0, 0, []), (4, .iload_n 2, 1, 0, 0, 0, []), (5, .aload_n 0, 1, 0, 0, 0, []), (6, .invokevirtual 39, 3, 49, 1, 0, []), (9, .if_icmp .ge 27, 3, 0, 0, 0, []), (12, .iload_n 1, 1, 0, 0, 0, []), (13, .aload_n 0, 1, 0, 0, 0, []), (14, .iload_n 2, 1, 0, 0, 0, []), (15, .invokevirtual 54, 3, 53, 2, 0, []), (18, .bipush 35, 2, 0, 0, 0, []), (20, .if_icmp .ne 7, 3, 0, 0, 0, []), (23, .iconst 1, 1, 0, 0, 0, []), (24, .goto 4, 3, 0, 0, 0, []), (27, .iconst 0, 1, 0, 0, 0, []), (28, .iadd, 1, 0, 0, 0, []), (29, .istore_n 1, 1, 0, 0, 0, []), (30, .iinc 2 1, 3, 0, 0, 0, []), (33, .goto (-29), 3, 0, 0, 0, []), (36, .iload_n 1, 1, 0, 0, 0, []), (37, .ireturn, 1, 0, 0, 0, [])]
def cd_62 : List (Nat × Instr × Nat × Nat × Nat × Nat × List Nat) := [(0, .aload_n 0, 1, 0, 0, 0, []), (1, .invokespecial 3, 3, 0, 1, 6, []), (4, .aload_n 0, 1, 0, 0, 0, []), (5, .bipush 60, 2, 0, 0, 0, []), (7, .newarray .int, 2, 0, 0, 0, []), (9, .putfield 9, 3, 6, 0, 0, []), (12, .return_, 1, 0, 0, 0, [])]
def cd_63 : List (Nat × Instr × Nat × Nat × Nat × Nat × List Nat) := [(0, .aload_n 0, 1, 0, 0, 0, []), (1, .getfield 15, 3, 6, 1, 0, []), (4, .bipush 60, 2, 0, 0, 0, []), (6, .if_icmp .lt 7, 3, 0, 0, 0, []), (9, .iconst 1, 1, 0, 0, 0, []), (10, .goto 4, 3, 0, 0, 0, []), (13, .iconst 0, 1, 0, 0, 0, []), (14, .ireturn, 1, 0, 0, 0, [])]
def cd_64 : List (Nat × Instr × Nat × Nat × Nat × Nat × List Nat) := [(0, .aload_n 0, 1, 0, 0, 0, []), (1, .getfield 9, 3, 6, 0, 0, []), (4, .aload_n 0, 1, 0, 0, 0, []), (5, .getfield 15, 3, 6, 1, 0, []), (8, .iload_n 1, 1, 0, 0, 0, []), (9, .invokestatic 19, 3, 127, 3, 3, []), (12, .aload_n 0, 1, 0, 0, 0, []), (13, .dup, 1, 0, 0, 0, []), (14, .getfield 15, 3, 6, 1, 0, []), (17, .iconst 1, 1, 0, 0, 0, []), (18, .iadd, 1, 0, 0, 0, []), (19, .putfield 15, 3, 6, 1, 0, []), (22, .return_, 1, 0, 0, 0, [])]
def cd_65 : List (Nat × Instr × Nat × Nat × Nat × Nat × List Nat) := [(0, .aload_n 0, 1, 0, 0, 0, []), (1, .getfield 15, 3, 6, 1, 0, []), (4, .iconst 1, 1, 0, 0, 0, []), (5, .bipush 8, 2, 0, 0, 0, []), (7, .invokestatic 23, 3, 116, 3, 3, []), (10, .ifCond .ne 5, 3, 0, 0, 0, []), (13, .iconst 0, 1, 0, 0, 0, []), (14, .ireturn, 1, 0, 0, 0, []), (15, .iconst 0, 1, 0, 0, 0, []), (16, .istore_n 1, 1, 0, 0, 0, []), (17, .iload_n 1, 1, 0, 0, 0, []), (18, .aload_n 0, 1, 0, 0, 0, []), (19, .getfield 15, 3, 6, 1, 0, []), (22, .if_icmp .ge 25, 3, 0, 0, 0, []), (25, .aload_n 0, 1, 0, 0, 0, []), (26, .getfield 9, 3, 6, 0, 0, []), (29, .iload_n 1, 1, 0, 0, 0, []), (30, .invokestatic 27, 3, 125, 2, 3, []), (33, .invokestatic 31, 3, 118, 1, 3, []), (36, .ifCond .ne 5, 3, 0, 0, 0, []), (39, .iconst 0, 1, 0, 0, 0, []), (40, .ireturn, 1, 0, 0, 0, []), (41, .iinc 1 1, 3, 0, 0, 0, []), (44, .goto (-27), 3, 0, 0, 0, []), (47, .iconst 1, 1, 0, 0, 0, []), (48, .ireturn, 1, 0, 0, 0, [])]
def cd_66 : List (Nat × Instr × Nat × Nat × Nat × Nat × List Nat) := []
def cd_67 : List (Nat × Instr × Nat × Nat × Nat × Nat × List Nat) := []
def cd_68 : List (Nat × Instr × Nat × Nat × Nat × Nat × List Nat) := []
def cd_69 : List (Nat × Instr × Nat × Nat × Nat × Nat × List Nat) := [(0, .aload_n 0, 1, 0, 0, 0, []), (1, .invokespecial 3, 3, 0, 1, 6, []), (4, .aload_n 0, 1, 0, 0, 0, []), (5, .bipush 8, 2, 0, 0, 0, []), (7, .newarray .int, 2, 0, 0, 0, []), (9, .putfield 9, 3, 7, 1, 0, []), (12, .aload_n 0, 1, 0, 0, 0, []), (13, .bipush 64, 2, 0, 0, 0, []), (15, .newarray .int, 2, 0, 0, 0, []), (17, .putfield 15, 3, 7, 2, 0, []), (20, .return_, 1, 0, 0, 0, [])]
def cd_70 : List (Nat × Instr × Nat × Nat × Nat × Nat × List Nat) := [(0, .aload_n 0, 1, 0, 0, 0, []), (1, .aload_n 1, 1, 0, 0, 0, []), (2, .getfield 18, 3, 7, 0, 0, []), (5, .putfield 18, 3, 7, 0, 0, []), (8, .aload_n 1, 1, 0, 0, 0, []), (9, .getfield 9, 3, 7, 1, 0, []), (12, .aload_n 0, 1, 0, 0, 0, []), (13, .getfield 9, 3, 7, 1, 0, []), (16, .invokestatic 22, 3, 129, 2, 3, []), (19, .aload_n 1, 1, 0, 0, 0, []), (20, .getfield 15, 3, 7, 2, 0, []), (23, .aload_n 0, 1, 0, 0, 0, []), (24, .getfield 15, 3, 7, 2, 0, []), (27, .invokestatic 22, 3, 129, 2, 3, []), (30, .return_, 1, 0, 0, 0, [])]
def cd_71 : List (Nat × Instr × Nat × Nat × Nat × Nat × List Nat) := [(0, .iload_n 1, 1, 0, 0, 0, []), (1, .ifCond .lt 15, 3, 0, 0, 0, []), (4, .iload_n 1, 1, 0, 0, 0, []), (5, .aload_n 0, 1, 0, 0, 0, []), (6, .getfield 18, 3, 7, 0, 0, []), (9, .if_icmp .ge 7, 3, 0, 0, 0, []), (12, .iconst 1, 1, 0, 0, 0, []), (13, .goto 4, 3, 0, 0, 0, []), (16, .iconst 0, 1, 0, 0, 0, []), (17, .ireturn, 1, 0, 0, 0, [])]
def cd_72 : List (Nat × Instr × Nat × Nat × Nat × Nat × List Nat) := [(0, .aload_n 0, 1, 0, 0, 0, []), (1, .getfield 18, 3, 7, 0, 0, []), (4, .bipush 8, 2, 0, 0, 0, []), (6, .if_icmp .lt 7, 3, 0, 0, 0, []), (9, .iconst 1, 1, 0, 0, 0, []), (10, .goto 4, 3, 0, 0, 0, []), (13, .iconst 0, 1, 0, 0, 0, []), (14, .ireturn, 1, 0, 0, 0, [])]
def cd_73 : List (Nat × Instr × Nat × Nat × Nat × Nat × List Nat) := [(0, .iload_n 2, 1, 0, 0, 0, []), (1, .aload_n 0, 1, 0, 0, 0, []), (2, .getfield 9, 3, 7, 1, 0, []), (5, .iload_n 1, 1, 0, 0, 0, []), (6, .invokestatic 26, 3, 125, 2, 3, []), (9, .if_icmp .ge 15, 3, 0, 0, 0, []), (12, .aload_n 0, 1, 0, 0, 0, []), (13, .iload_n 1, 1, 0, 0, 0, []), (14, .iload_n 2, 1, 0, 0, 0, []), (15, .invokevirtual 30, 3, 74, 3, 0, []), (18, .bipush 97, 2, 0, 0, 0, []), (20, .isub, 1, 0, 0, 0, []), (21, .goto 4, 3, 0, 0, 0, []), (24, .iconst (-1), 1, 0, 0, 0, []), (25, .ireturn, 1, 0, 0, 0, [])]
def cd_74 : List (Nat × Instr × Nat × Nat × Nat × Nat × List Nat) := [(0, .aload_n 0, 1, 0, 0, 0, []), (1, .getfield 15, 3, 7, 2, 0, []), (4, .iload_n 1, 1, 0, 0, 0, []), (5, .bipush 8, 2, 0, 0, 0, []), (7, .imul, 1, 0, 0, 0, []), (8, .iload_n 2, 1, 0, 0, 0, []), (9, .iadd, 1, 0, 0, 0, []), (10, .invokestatic 26, 3, 125, 2, 3, []), (13, .ireturn, 1, 0, 0, 0, [])]
def cd_75 : List (Nat × Instr × Nat × Nat × Nat × Nat × List Nat) := [(0, .aload_n 0, 1, 0, 0, 0, []), (1, .getfield 18, 3, 7, 0, 0, []), (4, .istore_n 3, 1, 0, 0, 0, []), (5, .iconst 0, 1, 0, 0, 0, []), (6, .istore 4, 2, 0, 0, 0, []), (8, .iload 4, 2, 0, 0, 0, []), (10, .iload_n 2, 1, 0, 0, 0, []), (11, .if_icmp .ge 36, 3, 0, 0, 0, []), (14, .iload 4, 2, 0, 0, 0, []), (16, .bipush 8, 2, 0, 0, 0, []), (18, .if_icmp .ge 29, 3, 0, 0, 0, []), (21, .aload_n 0, 1, 0, 0, 0, []), (22, .getfield 15, 3, 7, 2, 0, []), (25, .iload_n 3, 1, 0, 0, 0, []), (26, .bipush 8, 2, 0, 0, 0, []), (28, .imul, 1, 0, 0, 0, []), (29, .iload 4, 2, 0, 0, 0, []), (31, .iadd, 1, 0, 0, 0, []), (32, .aload_n 1, 1, 0, 0, 0, []), (33, .iload 4, 2, 0, 0, 0, []), (35, .invokestatic 26, 3, 125, 2, 3, []), (38, .invokestatic 34, 3, 127, 3, 3, []), (41, .iinc 4 1, 3, 0, 0, 0, []), (44, .goto (-36), 3, 0, 0, 0, []), (47, .aload_n 0, 1, 0, 0, 0, []), (48, .getfield 9, 3, 7, 1, 0, []), (51, .iload_n 3, 1, 0, 0, 0, []), (52, .iload_n 2, 1, 0, 0, 0, []), (53, .invokestatic 34, 3, 127, 3, 3, []), (56, .aload_n 0, 1, 0, 0, 0, []), (57, .dup, 1, 0, 0, 0, []), (58, .getfield 18, 3, 7, 0, 0, []), (61, .iconst 1, 1, 0, 0, 0, []), (62, .iadd, 1, 0, 0, 0, []), (63, .putfield 18, 3, 7, 0, 0, []), (66, .iload_n 3, 1, 0, 0, 0, []), (67, .ireturn, 1, 0, 0, 0, [])]
def cd_76 : List (Nat × Instr × Nat × Nat × Nat × Nat × List Nat) := [(0, .iload_n 1, 1, 0, 0, 0, []), (1, .iconst 1, 1, 0, 0, 0, []), (2, .iadd, 1, 0, 0, 0, []), (3, .istore_n 2, 1, 0, 0, 0, []), (4, .iload_n 2, 1, 0, 0, 0, [1, 3]), (5, .aload_n 0, 1, 0, 0, 0, []), (6, .getfield 18, 3, 7, 0, 0, []), (9, .if_icmp .ge 62, 3, 0, 0, 0, []), (12, .iconst 0, 1, 0, 0, 0, []), (13, .istore_n 3, 1, 0, 0, 0, []), (14, .iload_n 3, 1, 0, 0, 0, [1]), (15, .bipush 8, 2, 0, 0, 0, []), (17, .if_icmp .ge 30, 3, 0, 0, 0, []), (20, .aload_n 0, 1, 0, 0, 0, []), (21, .getfield 15, 3, 7, 2, 0, []), (24, .iload_n 2, 1, 0, 0, 0, []), (25, .iconst 1, 1, 0, 0, 0, []), (26, .isub, 1, 0, 0, 0, []), (27, .bipush 8, 2, 0, 0, 0, []), (29, .imul, 1, 0, 0, 0, []), (30, .iload_n 3, 1, 0, 0, 0, []), (31, .iadd, 1, 0, 0, 0, []), (32, .aload_n 0, 1, 0, 0, 0, []), (33, .iload_n 2, 1, 0, 0, 0, []), (34, .iload_n 3, 1, 0, 0, 0, []), (35, .invokevirtual 30, 3, 74, 3, 0, []), (38, .invokestatic 34, 3, 127, 3, 3, []), (41, .iinc 3 1, 3, 0, 0, 0, []), (44, .goto (-30), 3, 0, 0, 0, []), (47, .aload_n 0, 1, 0, 0, 0, []), (48, .getfield 9, 3, 7, 1, 0, []), (51, .iload_n 2, 1, 0, 0, 0, []), (52, .iconst 1, 1, 0, 0, 0, []), (53, .isub, 1, 0, 0, 0, []), (54, .aload_n 0, 1, 0, 0, 0, []), (55, .getfield 9, 3, 7, 1, 0, []), (58, .iload_n 2, 1, 0, 0, 0, []), (59, .invokestatic 26, 3, 125, 2, 3, []), (62, .invokestatic 34, 3, 127, 3, 3, []), (65, .iinc 2 1, 3, 0, 0, 0, []), (68, .goto (-64), 3, 0, 0, 0, []), (71, .aload_n 0, 1, 0, 0, 0, []), (72, .dup, 1, 0, 0, 0, []), (73, .getfield 18, 3, 7, 0, 0, []), (76, .iconst 1, 1, 0, 0, 0, []), (77, .isub, 1, 0, 0, 0, []), (78, .putfield 18, 3, 7, 0, 0, []), (81, .return_, 1, 0, 0, 0, [])]
def cd_77 : List (Nat × Instr × Nat × Nat × Nat × Nat × List Nat) := [(0, .iconst 0, 1, 0, 0, 0, []), (1, .istore 4, 2, 0, 0, 0, []), (3, .iload 4, 2, 0, 0, 0, []), (5, .aload_n 0, 1, 0, 0, 0, []), (6, .getfield 18, 3, 7, 0, 0, []), (9, .if_icmp .ge 36, 3, 0, 0, 0, []), (12, .aload_n 0, 1, 0, 0, 0, []), (13, .getfield 9, 3, 7, 1, 0, []), (16, .iload 4, 2, 0, 0, 0, []), (18, .invokestatic 26, 3, 125, 2, 3, []), (21, .iload_n 3, 1, 0, 0, 0, []), (22, .if_icmp .ne 17, 3, 0, 0, 0, []), (25, .aload_n 0, 1, 0, 0, 0, []), (26, .iload 4, 2, 0, 0, 0, []), (28, .aload_n 1, 1, 0, 0, 0, []), (29, .iload_n 2, 1, 0, 0, 0, []), (30, .invokevirtual 38, 3, 78, 4, 0, []), (33, .ifCond .eq 6, 3, 0, 0, 0, []), (36, .iload 4, 2, 0, 0, 0, []), (38, .ireturn, 1, 0, 0, 0, []), (39, .iinc 4 1, 3, 0, 0, 0, []), (42, .goto (-39), 3, 0, 0, 0, []), (45, .iconst (-1), 1, 0, 0, 0, []), (46, .ireturn, 1, 0, 0, 0, [])]
def cd_78 : List (Nat × Instr × Nat × Nat × Nat × Nat × List Nat) := [(0, .aload_n 0, 1, 0, 0, 0, []), (1, .getfield 9, 3, 7, 1, 0, []), (4, .iload_n 1, 1, 0, 0, 0, []), (5, .invokestatic 26, 3, 125, 2, 3, []), (8, .istore 4, 2, 0, 0, 0, []), (10, .iconst 0, 1, 0, 0, 0, []), (11, .istore 5, 2, 0, 0, 0, []), (13, .iload 5, 2, 0, 0, 0, []), (15, .iload 4, 2, 0, 0, 0, []), (17, .if_icmp .ge 29, 3, 0, 0, 0, []), (20, .aload_n 0, 1, 0, 0, 0, []), (21, .iload_n 1, 1, 0, 0, 0, []), (22, .iload 5, 2, 0, 0, 0, []), (24, .invokevirtual 30, 3, 74, 3, 0, []), (27, .aload_n 2, 1, 0, 0, 0, []), (28, .iload_n 3, 1, 0, 0, 0, []), (29, .iload 5, 2, 0, 0, 0, []), (31, .iadd, 1, 0, 0, 0, []), (32, .invokestatic 26, 3, 125, 2, 3, []), (35, .if_icmp .eq 5, 3, 0, 0, 0, []), (38, .iconst 0, 1, 0, 0, 0, []), (39, .ireturn, 1, 0, 0, 0, []), (40, .iinc 5 1, 3, 0, 0, 0, []), (43, .goto (-30), 3, 0, 0, 0, []), (46, .iconst 1, 1, 0, 0, 0, []), (47, .ireturn, 1, 0, 0, 0, [])]
def cd_79 : List (Nat × Instr × Nat × Nat × Nat × Nat × List Nat) := []
def cd_80 : List (Nat × Instr × Nat × Nat × Nat × Nat × List Nat) := [(0, .aload_n 0, 1, 0, 0, 0, []), (1, .invokespecial 3, 3, 0, 1, 6, []), (4, .aload_n 0, 1, 0, 0, 0, []), (5, .new 9, 3, 5, 0, 0, []), (8, .dup, 1, 0, 0, 0, []), (9, .invokespecial 11, 3, 46, 1, 4, []), (12, .putfield 12, 3, 8, 0, 0, []), (15, .aload_n 0, 1, 0, 0, 0, []), (16, .new 16, 3, 7, 0, 0, []), (19, .dup, 1, 0, 0, 0, []), (20, .invokespecial 18, 3, 69, 1, 5, []), (23, .putfield 19, 3, 8, 1, 0, []), (26, .aload_n 0, 1, 0, 0, 0, []), (27, .new 23, 3, 2, 0, 0, []), (30, .dup, 1, 0, 0, 0, []), (31, .invokespecial 25, 3, 25, 1, 4, []), (34, .putfield 26, 3, 8, 2, 0, []), (37, .aload_n 0, 1, 0, 0, 0, []), (38, .new 30, 3, 0, 0, 0, []), (41, .dup, 1, 0, 0, 0, []), (42, .invokespecial 32, 3, 0, 1, 5, []), (45, .putfield 33, 3, 8, 3, 0, []), (48, .aload_n 0, 1, 0, 0, 0, []), (49, .new 37, 3, 4, 0, 0, []), (52, .dup, 1, 0, 0, 0, []), (53, .invokespecial 39, 3, 38, 1, 5, []), (56, .putfield 40, 3, 8, 4, 0, []), (59, .aload_n 0, 1, 0, 0, 0, []), (60, .new 44, 3, 3, 0, 0, []), (63, .dup, 1, 0, 0, 0, []), (64, .invokespecial 46, 3, 30, 1, 5, []), (67, .putfield 47, 3, 8, 5, 0, []), (70, .aload_n 0, 1, 0, 0, 0, []), (71, .new 44, 3, 3, 0, 0, []), (74, .dup, 1, 0, 0, 0, []), (75, .invokespecial 46, 3, 30, 1, 5, []), (78, .putfield 51, 3, 8, 6, 0, []), (81, .aload_n 0, 1, 0, 0, 0, []), (82, .new 54, 3, 6, 0, 0, []), (85, .dup, 1, 0, 0, 0, []), (86, .invokespecial 56, 3, 62, 1, 5, []), (89, .putfield 57, 3, 8, 7, 0, []), (92, .aload_n 0, 1, 0, 0, 0, []), (93, .getfield 33, 3, 8, 3, 0, []), (96, .aload_n 0, 1, 0, 0, 0, []), (97, .getfield 12, 3, 8, 0, 0, []), (100, .invokevirtual 61, 3, 1, 2, 0, []), (103, .return_, 1, 0, 0, 0, [])]
def cd_81 : List (Nat × Instr × Nat × Nat × Nat × Nat × List Nat) := [(0, .iload_n 1, 1, 0, 0, 0, []), (1, .invokestatic 65, 3, 117, 1, 2, []), (4, .ifCond .eq 10, 3, 0, 0, 0, []), (7, .iload_n 2, 1, 0, 0, 0, []), (8, .invokestatic 65, 3, 117, 1, 2, []), (11, .ifCond .ne 13, 3, 0, 0, 0, []), (14, .new 69, 3, 0, 0, 1, []), (24, .aload_n 0, 1, 0, 0, 0, []), (25, .invokevirtual 76, 3, 106, 1, 0, []), (28, .aload_n 0, 1, 0, 0, 0, []), (29, .getfield 12, 3, 8, 0, 0, []), (32, .iload_n 1, 1, 0, 0, 0, []), (33, .iload_n 2, 1, 0, 0, 0, []), (34, .invokevirtual 79, 3, 47, 3, 0, []), (37, .aload_n 0, 1, 0, 0, 0, []), (38, .getfield 33, 3, 8, 3, 0, []), (41, .aload_n 0, 1, 0, 0, 0, []), (42, .getfield 12, 3, 8, 0, 0, []), (45, .invokevirtual 61, 3, 1, 2, 0, []), (48, .aload_n 0, 1, 0, 0, 0, []), (49, .getfield 12, 3, 8, 0, 0, []), (52, .invokevirtual 83, 3, 50, 1, 0, []), (55, .ireturn, 1, 0, 0, 0, [])]
def cd_82 : List (Nat × Instr × Nat × Nat × Nat × Nat × List Nat) := [(0, .aload_n 0, 1, 0, 0, 0, []), (1, .getfield 12, 3, 8, 0, 0, []), (4, .iload_n 1, 1, 0, 0, 0, []), (5, .invokevirtual 87, 3, 51, 2, 0, []), (8, .ifCond .ne 13, 3, 0, 0, 0, []), (11, .new 90, 3, 1, 0, 1, []), (21, .iload_n 2, 1, 0, 0, 0, []), (22, .invokestatic 95, 3, 122, 1, 2, []), (25, .ifCond .ne 13, 3, 0, 0, 0, []), (28, .new 69, 3, 0, 0, 1, []), (38, .aload_n 0, 1, 0, 0, 0, []), (39, .invokevirtual 76, 3, 106, 1, 0, []), (42, .aload_n 0, 1, 0, 0, 0, []), (43, .getfield 12, 3, 8, 0, 0, []), (46, .iload_n 1, 1, 0, 0, 0, []), (47, .invokevirtual 100, 3, 53, 2, 0, []), (50, .istore_n 3, 1, 0, 0, 0, []), (51, .aload_n 0, 1, 0, 0, 0, []), (52, .getfield 12, 3, 8, 0, 0, []), (55, .iload_n 1, 1, 0, 0, 0, []), (56, .iload_n 2, 1, 0, 0, 0, []), (57, .invokevirtual 104, 3, 54, 3, 0, []), (60, .aload_n 0, 1, 0, 0, 0, []), (61, .getfield 33, 3, 8, 3, 0, []), (64, .aload_n 0, 1, 0, 0, 0, []), (65, .getfield 12, 3, 8, 0, 0, []), (68, .invokevirtual 61, 3, 1, 2, 0, []), (71, .iload_n 3, 1, 0, 0, 0, []), (72, .ireturn, 1, 0, 0, 0, [])]
def cd_83 : List (Nat × Instr × Nat × Nat × Nat × Nat × List Nat) := [(0, .aload_n 0, 1, 0, 0, 0, []), (1, .invokevirtual 76, 3, 106, 1, 0, []), (4, .aload_n 0, 1, 0, 0, 0, []), (5, .getfield 12, 3, 8, 0, 0, []), (8, .invokevirtual 107, 3, 55, 1, 0, []), (11, .aload_n 0, 1, 0, 0, 0, []), (12, .getfield 33, 3, 8, 3, 0, []), (15, .aload_n 0, 1, 0, 0, 0, []), (16, .getfield 12, 3, 8, 0, 0, []), (19, .invokevirtual 61, 3, 1, 2, 0, []), (22, .aload_n 0, 1, 0, 0, 0, []), (23, .getfield 12, 3, 8, 0, 0, []), (26, .invokevirtual 110, 3, 60, 1, 0, []), (29, .ireturn, 1, 0, 0, 0, [])]
def cd_84 : List (Nat × Instr × Nat × Nat × Nat × Nat × List Nat) := [(0, .aload_n 0, 1, 0, 0, 0, []), (1, .invokevirtual 76, 3, 106, 1, 0, []), (4, .aload_n 0, 1, 0, 0, 0, []), (5, .getfield 12, 3, 8, 0, 0, []), (8, .invokevirtual 113, 3, 56, 1, 0, []), (11, .aload_n 0, 1, 0, 0, 0, []), (12, .getfield 33, 3, 8, 3, 0, []), (15, .aload_n 0, 1, 0, 0, 0, []), (16, .getfield 12, 3, 8, 0, 0, []), (19, .invokevirtual 61, 3, 1, 2, 0, []), (22, .aload_n 0, 1, 0, 0, 0, []), (23, .getfield 12, 3, 8, 0, 0, []), (26, .invokevirtual 83, 3, 50, 1, 0, []), (29, .ireturn, 1, 0, 0, 0, [])]
def cd_85 : List (Nat × Instr × Nat × Nat × Nat × Nat × List Nat) := [(0, .aload_n 0, 1, 0, 0, 0, []), (1, .getfield 57, 3, 8, 7, 0, []), (4, .invokevirtual 116, 3, 65, 1, 0, []), (7, .ifCond .eq 39, 3, 0, 0, 0, []), (10, .aload_n 0, 1, 0, 0, 0, []), (11, .getfield 19, 3, 8, 1, 0, []), (14, .invokevirtual 120, 3, 72, 1, 0, []), (17, .ifCond .ne 29, 3, 0, 0, 0, []), (20, .aload_n 0, 1, 0, 0, 0, []), (21, .getfield 19, 3, 8, 1, 0, []), (24, .aload_n 0, 1, 0, 0, 0, []), (25, .getfield 57, 3, 8, 7, 0, []), (28, .getfield 123, 3, 6, 0, 1, []), (31, .iconst 0, 1, 0, 0, 0, []), (32, .aload_n 0, 1, 0, 0, 0, []), (33, .getfield 57, 3, 8, 7, 0, []), (36, .getfield 127, 3, 6, 1, 1, []), (39, .invokevirtual 131, 3, 77, 4, 0, []), (42, .iconst (-1), 1, 0, 0, 0, []), (43, .if_icmp .eq 13, 3, 0, 0, 0, []), (46, .new 135, 3, 2, 0, 1, []), (56, .aload_n 0, 1, 0, 0, 0, []), (57, .invokevirtual 76, 3, 106, 1, 0, []), (60, .aload_n 0, 1, 0, 0, 0, []), (61, .getfield 19, 3, 8, 1, 0, []), (64, .aload_n 0, 1, 0, 0, 0, []), (65, .getfield 57, 3, 8, 7, 0, []), (68, .getfield 123, 3, 6, 0, 1, []), (71, .aload_n 0, 1, 0, 0, 0, []), (72, .getfield 57, 3, 8, 7, 0, []), (75, .getfield 127, 3, 6, 1, 1, []), (78, .invokevirtual 140, 3, 75, 3, 0, []), (81, .ireturn, 1, 0, 0, 0, [])]
def cd_86 : List (Nat × Instr × Nat × Nat × Nat × Nat × List Nat) := [(0, .aload_n 0, 1, 0, 0, 0, []), (1, .getfield 19, 3, 8, 1, 0, []), (4, .iload_n 1, 1, 0, 0, 0, []), (5, .invokevirtual 144, 3, 71, 2, 0, []), (8, .ifCond .ne 13, 3, 0, 0, 0, []), (11, .new 90, 3, 1, 0, 1, []), (21, .aload_n 0, 1, 0, 0, 0, []), (22, .invokevirtual 76, 3, 106, 1, 0, []), (25, .aload_n 0, 1, 0, 0, 0, []), (26, .getfield 19, 3, 8, 1, 0, []), (29, .iload_n 1, 1, 0, 0, 0, []), (30, .invokevirtual 149, 3, 76, 2, 0, []), (33, .aload_n 0, 1, 0, 0, 0, []), (34, .getfield 19, 3, 8, 1, 0, []), (37, .getfield 153, 3, 7, 0, 1, []), (40, .ireturn, 1, 0, 0, 0, [])]
def cd_87 : List (Nat × Instr × Nat × Nat × Nat × Nat × List Nat) := [(0, .aload_n 0, 1, 0, 0, 0, []), (1, .getfield 12, 3, 8, 0, 0, []), (4, .iload_n 1, 1, 0, 0, 0, []), (5, .invokevirtual 87, 3, 51, 2, 0, []), (8, .ifCond .ne 13, 3, 0, 0, 0, []), (11, .new 90, 3, 1, 0, 1, []), (21, .iload_n 2, 1, 0, 0, 0, []), (22, .iconst 0, 1, 0, 0, 0, []), (23, .iconst 4, 1, 0, 0, 0, []), (24, .invokestatic 156, 3, 116, 3, 2, []), (27, .ifCond .ne 13, 3, 0, 0, 0, []), (30, .new 69, 3, 0, 0, 1, []), (40, .aload_n 0, 1, 0, 0, 0, []), (41, .iload_n 1, 1, 0, 0, 0, []), (42, .iload_n 2, 1, 0, 0, 0, []), (43, .invokevirtual 162, 3, 107, 3, 0, []), (46, .ireturn, 1, 0, 0, 0, [])]
def cd_88 : List (Nat × Instr × Nat × Nat × Nat × Nat × List Nat) := [(0, .iload_n 1, 1, 0, 0, 0, []), (1, .iconst 0, 1, 0, 0, 0, []), (2, .bipush 9, 2, 0, 0, 0, []), (4, .invokestatic 156, 3, 116, 3, 2, []), (7, .ifCond .ne 13, 3, 0, 0, 0, []), (10, .new 69, 3, 0, 0, 1, []), (20, .aload_n 0, 1, 0, 0, 0, []), (21, .iload_n 1, 1, 0, 0, 0, []), (22, .invokevirtual 166, 3, 108, 2, 0, []), (25, .ireturn, 1, 0, 0, 0, [])]
def cd_89 : List (Nat × Instr × Nat × Nat × Nat × Nat × List Nat) := [(0, .aload_n 0, 1, 0, 0, 0, []), (1, .getfield 19, 3, 8, 1, 0, []), (4, .iload_n 1, 1, 0, 0, 0, []), (5, .invokevirtual 144, 3, 71, 2, 0, []), (8, .ifCond .eq 7, 3, 0, 0, 0, []), (11, .iload_n 2, 1, 0, 0, 0, []), (12, .ifCond .ge 13, 3, 0, 0, 0, []), (15, .new 90, 3, 1, 0, 1, []), (25, .aload_n 0, 1, 0, 0, 0, []), (26, .getfield 19, 3, 8, 1, 0, []), (29, .iload_n 1, 1, 0, 0, 0, []), (30, .iload_n 2, 1, 0, 0, 0, []), (31, .invokevirtual 171, 3, 73, 3, 0, []), (34, .ireturn, 1, 0, 0, 0, [])]
def cd_90 : List (Nat × Instr × Nat × Nat × Nat × Nat × List Nat) := [(0, .aload_n 0, 1, 0, 0, 0, []), (1, .getfield 12, 3, 8, 0, 0, []), (4, .iload_n 1, 1, 0, 0, 0, []), (5, .invokevirtual 174, 3, 52, 2, 0, []), (8, .ifCond .ne 13, 3, 0, 0, 0, []), (11, .new 90, 3, 1, 0, 1, []), (21, .iload_n 2, 1, 0, 0, 0, []), (22, .iconst 0, 1, 0, 0, 0, []), (23, .bipush 6, 2, 0, 0, 0, []), (25, .invokestatic 156, 3, 116, 3, 2, []), (28, .ifCond .ne 13, 3, 0, 0, 0, []), (31, .new 69, 3, 0, 0, 1, []), (41, .aload_n 0, 1, 0, 0, 0, []), (42, .iload_n 1, 1, 0, 0, 0, []), (43, .iload_n 2, 1, 0, 0, 0, []), (44, .invokevirtual 179, 3, 109, 3, 0, []), (47, .ireturn, 1, 0, 0, 0, [])]
def cd_91 : List (Nat × Instr × Nat × Nat × Nat × Nat × List Nat) := [(0, .aload_n 0, 1, 0, 0, 0, []), (1, .getfield 12, 3, 8, 0, 0, []), (4, .iload_n 1, 1, 0, 0, 0, []), (5, .invokevirtual 174, 3, 52, 2, 0, []), (8, .ifCond .eq 19, 3, 0, 0, 0, []), (11, .iload_n 2, 1, 0, 0, 0, []), (12, .ifCond .lt 15, 3, 0, 0, 0, []), (15, .iload_n 2, 1, 0, 0, 0, []), (16, .aload_n 0, 1, 0, 0, 0, []), (17, .getfield 33, 3, 8, 3, 0, []), (20, .iload_n 1, 1, 0, 0, 0, []), (21, .invokevirtual 182, 3, 9, 2, 0, []), (24, .if_icmp .lt 13, 3, 0, 0, 0, []), (27, .new 90, 3, 1, 0, 1, []), (37, .aload_n 0, 1, 0, 0, 0, []), (38, .getfield 33, 3, 8, 3, 0, []), (41, .iload_n 1, 1, 0, 0, 0, []), (42, .iload_n 2, 1, 0, 0, 0, []), (43, .invokevirtual 187, 3, 14, 3, 0, []), (46, .ireturn, 1, 0, 0, 0, [])]
def cd_92 : List (Nat × Instr × Nat × Nat × Nat × Nat × List Nat) := [(0, .aload_n 0, 1, 0, 0, 0, []), (1, .getfield 12, 3, 8, 0, 0, []), (4, .iload_n 1, 1, 0, 0, 0, []), (5, .invokevirtual 174, 3, 52, 2, 0, []), (8, .ifCond .eq 7, 3, 0, 0, 0, []), (11, .iload_n 2, 1, 0, 0, 0, []), (12, .ifCond .ge 13, 3, 0, 0, 0, []), (15, .new 90, 3, 1, 0, 1, []), (25, .aload_n 0, 1, 0, 0, 0, []), (26, .getfield 47, 3, 8, 5, 0, []), (29, .aload_n 0, 1, 0, 0, 0, []), (30, .getfield 12, 3, 8, 0, 0, []), (33, .aload_n 0, 1, 0, 0, 0, []), (34, .getfield 33, 3, 8, 3, 0, []), (37, .iload_n 1, 1, 0, 0, 0, []), (38, .invokevirtual 192, 3, 31, 4, 0, []), (41, .aload_n 0, 1, 0, 0, 0, []), (42, .getfield 47, 3, 8, 5, 0, []), (45, .iload_n 2, 1, 0, 0, 0, []), (46, .invokevirtual 196, 3, 35, 2, 0, []), (49, .ireturn, 1, 0, 0, 0, [])]
def cd_93 : List (Nat × Instr × Nat × Nat × Nat × Nat × List Nat) := [(0, .aload_n 0, 1, 0, 0, 0, []), (1, .getfield 12, 3, 8, 0, 0, []), (4, .iload_n 1, 1, 0, 0, 0, []), (5, .invokevirtual 174, 3, 52, 2, 0, []), (8, .ifCond .ne 13, 3, 0, 0, 0, []), (11, .new 90, 3, 1, 0, 1, []), (21, .aload_n 0, 1, 0, 0, 0, []), (22, .iload_n 1, 1, 0, 0, 0, []), (23, .invokevirtual 197, 3, 110, 2, 0, []), (26, .ireturn, 1, 0, 0, 0, [])]
def cd_94 : List (Nat × Instr × Nat × Nat × Nat × Nat × List Nat) := [(0, .aload_n 0, 1, 0, 0, 0, []), (1, .getfield 12, 3, 8, 0, 0, []), (4, .iload_n 1, 1, 0, 0, 0, []), (5, .invokevirtual 174, 3, 52, 2, 0, []), (8, .ifCond .ne 13, 3, 0, 0, 0, []), (11, .new 90, 3, 1, 0, 1, []), (21, .aload_n 0, 1, 0, 0, 0, []), (22, .getfield 33, 3, 8, 3, 0, []), (25, .iload_n 1, 1, 0, 0, 0, []), (26, .invokevirtual 200, 3, 8, 2, 0, []), (29, .istore_n 2, 1, 0, 0, 0, []), (30, .iload_n 2, 1, 0, 0, 0, []), (31, .iconst (-1), 1, 0, 0, 0, []), (32, .if_icmp .ne 5, 3, 0, 0, 0, []), (35, .iconst 0, 1, 0, 0, 0, []), (36, .ireturn, 1, 0, 0, 0, []), (37, .aload_n 0, 1, 0, 0, 0, []), (38, .getfield 47, 3, 8, 5, 0, []), (41, .aload_n 0, 1, 0, 0, 0, []), (42, .getfield 12, 3, 8, 0, 0, []), (45, .aload_n 0, 1, 0, 0, 0, []), (46, .getfield 33, 3, 8, 3, 0, []), (49, .iload_n 1, 1, 0, 0, 0, []), (50, .invokevirtual 192, 3, 31, 4, 0, []), (53, .aload_n 0, 1, 0, 0, 0, []), (54, .getfield 51, 3, 8, 6, 0, []), (57, .aload_n 0, 1, 0, 0, 0, []), (58, .getfield 12, 3, 8, 0, 0, []), (61, .aload_n 0, 1, 0, 0, 0, []), (62, .getfield 33, 3, 8, 3, 0, []), (65, .iload_n 2, 1, 0, 0, 0, []), (66, .invokevirtual 192, 3, 31, 4, 0, []), (69, .aload_n 0, 1, 0, 0, 0, []), (70, .getfield 47, 3, 8, 5, 0, []), (73, .aload_n 0, 1, 0, 0, 0, []), (74, .getfield 51, 3, 8, 6, 0, []), (77, .invokevirtual 203, 3, 36, 2, 0, []), (80, .ireturn, 1, 0, 0, 0, [])]
def cd_95 : List (Nat × Instr × Nat × Nat × Nat × Nat × List Nat) := [(0, .iload_n 1, 1, 0, 0, 0, []), (1, .iconst 1, 1, 0, 0, 0, []), (2, .bipush 50, 2, 0, 0, 0, []), (4, .invokestatic 156, 3, 116, 3, 2, []), (7, .ifCond .ne 13, 3, 0, 0, 0, []), (10, .new 69, 3, 0, 0, 1, []), (20, .aload_n 0, 1, 0, 0, 0, []), (21, .getfield 40, 3, 8, 4, 0, []), (24, .aload_n 0, 1, 0, 0, 0, []), (25, .getfield 12, 3, 8, 0, 0, []), (28, .aload_n 0, 1, 0, 0, 0, []), (29, .getfield 33, 3, 8, 3, 0, []), (32, .iload_n 1, 1, 0, 0, 0, []), (33, .invokevirtual 209, 3, 39, 4, 0, []), (36, .aload_n 0, 1, 0, 0, 0, []), (37, .getfield 40, 3, 8, 4, 0, []), (40, .getfield 212, 3, 4, 8, 1, []), (43, .ireturn, 1, 0, 0, 0, [])]
def cd_96 : List (Nat × Instr × Nat × Nat × Nat × Nat × List Nat) := [(0, .iload_n 1, 1, 0, 0, 0, []), (1, .iconst 1, 1, 0, 0, 0, []), (2, .bipush 50, 2, 0, 0, 0, []), (4, .invokestatic 156, 3, 116, 3, 2, []), (7, .ifCond .ne 13, 3, 0, 0, 0, []), (10, .new 69, 3, 0, 0, 1, []), (20, .aload_n 0, 1, 0, 0, 0, []), (21, .getfield 40, 3, 8, 4, 0, []), (24, .aload_n 0, 1, 0, 0, 0, []), (25, .getfield 12, 3, 8, 0, 0, []), (28, .aload_n 0, 1, 0, 0, 0, []), (29, .getfield 33, 3, 8, 3, 0, []), (32, .iload_n 1, 1, 0, 0, 0, []), (33, .invokevirtual 209, 3, 39, 4, 0, []), (36, .aload_n 0, 1, 0, 0, 0, []), (37, .getfield 40, 3, 8, 4, 0, []), (40, .getfield 215, 3, 4, 11, 1, []), (43, .ifCond .eq 9, 3, 0, 0, 0, []), (46, .sipush (-2000), 3, 0, 0, 0, []), (49, .goto 10, 3, 0, 0, 0, []), (52, .aload_n 0, 1, 0, 0, 0, []), (53, .getfield 40, 3, 8, 4, 0, []), (56, .getfield 219, 3, 4, 7, 1, []), (59, .ireturn, 1, 0, 0, 0, [])]
def cd_97 : List (Nat × Instr × Nat × Nat × Nat × Nat × List Nat) := [(0, .iload_n 1, 1, 0, 0, 0, []), (1, .ifCond .ge 13, 3, 0, 0, 0, []), (4, .new 90, 3, 1, 0, 1, []), (14, .aload_n 0, 1, 0, 0, 0, []), (15, .getfield 40, 3, 8, 4, 0, []), (18, .aload_n 0, 1, 0, 0, 0, []), (19, .getfield 12, 3, 8, 0, 0, []), (22, .aload_n 0, 1, 0, 0, 0, []), (23, .getfield 33, 3, 8, 3, 0, []), (26, .iconst 1, 1, 0, 0, 0, []), (27, .invokevirtual 209, 3, 39, 4, 0, []), (30, .aload_n 0, 1, 0, 0, 0, []), (31, .getfield 40, 3, 8, 4, 0, []), (34, .iload_n 1, 1, 0, 0, 0, []), (35, .invokevirtual 224, 3, 45, 2, 0, []), (38, .ireturn, 1, 0, 0, 0, [])]
def cd_98 : List (Nat × Instr × Nat × Nat × Nat × Nat × List Nat) := [(0, .aload_n 0, 1, 0, 0, 0, []), (1, .getfield 40, 3, 8, 4, 0, []), (4, .aload_n 0, 1, 0, 0, 0, []), (5, .getfield 12, 3, 8, 0, 0, []), (8, .aload_n 0, 1, 0, 0, 0, []), (9, .getfield 33, 3, 8, 3, 0, []), (12, .bipush 50, 2, 0, 0, 0, []), (14, .invokevirtual 209, 3, 39, 4, 0, []), (17, .aload_n 0, 1, 0, 0, 0, []), (18, .getfield 40, 3, 8, 4, 0, []), (21, .getfield 227, 3, 4, 10, 1, []), (24, .ireturn, 1, 0, 0, 0, [])]
def cd_99 : List (Nat × Instr × Nat × Nat × Nat × Nat × List Nat) := [(0, .iconst (-1), 1, 0, 0, 0, []), (1, .istore_n 1, 1, 0, 0, 0, []), (2, .iconst 0, 1, 0, 0, 0, []), (3, .istore_n 2, 1, 0, 0, 0, []), (4, .iload_n 2, 1, 0, 0, 0, []), (5, .aload_n 0, 1, 0, 0, 0, []), (6, .getfield 12, 3, 8, 0, 0, []), (9, .invokevirtual 230, 3, 49, 1, 0, []), (12, .if_icmp .ge 33, 3, 0, 0, 0, []), (15, .iload_n 1, 1, 0, 0, 0, []), (16, .iconst (-1), 1, 0, 0, 0, []), (17, .if_icmp .ne 28, 3, 0, 0, 0, []), (20, .aload_n 0, 1, 0, 0, 0, []), (21, .getfield 12, 3, 8, 0, 0, []), (24, .iload_n 2, 1, 0, 0, 0, []), (25, .invokevirtual 100, 3, 53, 2, 0, []), (28, .bipush 35, 2, 0, 0, 0, []), (30, .if_icmp .ne 9, 3, 0, 0, 0, []), (33, .aload_n 0, 1, 0, 0, 0, []), (34, .iload_n 2, 1, 0, 0, 0, []), (35, .invokevirtual 233, 3, 111, 2, 0, []), (38, .istore_n 1, 1, 0, 0, 0, []), (39, .iinc 2 1, 3, 0, 0, 0, []), (42, .goto (-38), 3, 0, 0, 0, []), (45, .aload_n 0, 1, 0, 0, 0, []), (46, .getfield 33, 3, 8, 3, 0, []), (49, .aload_n 0, 1, 0, 0, 0, []), (50, .getfield 12, 3, 8, 0, 0, []), (53, .invokevirtual 61, 3, 1, 2, 0, []), (56, .iload_n 1, 1, 0, 0, 0, []), (57, .ireturn, 1, 0, 0, 0, [])]
def cd_100 : List (Nat × Instr × Nat × Nat × Nat × Nat × List Nat) := [(0, .aload_n 0, 1, 0, 0, 0, []), (1, .getfield 12, 3, 8, 0, 0, []), (4, .invokevirtual 236, 3, 57, 1, 0, []), (7, .lstore_n 1, 1, 0, 0, 0, []), (8, .lload_n 1, 1, 0, 0, 0, []), (9, .lconst 0, 1, 0, 0, 0, []), (10, .lcmp, 1, 0, 0, 0, []), (11, .ifCond .ne 5, 3, 0, 0, 0, []), (14, .dconst 1, 1, 0, 0, 0, []), (15, .dreturn, 1, 0, 0, 0, []), (16, .lconst 0, 1, 0, 0, 0, []), (17, .lstore_n 3, 1, 0, 0, 0, []), (18, .iconst 0, 1, 0, 0, 0, []), (19, .istore 5, 2, 0, 0, 0, []), (21, .iload 5, 2, 0, 0, 0, [2, 4]), (23, .aload_n 0, 1, 0, 0, 0, []), (24, .getfield 12, 3, 8, 0, 0, []), (27, .invokevirtual 83, 3, 50, 1, 0, []), (30, .if_icmp .ge 30, 3, 0, 0, 0, []), (33, .aload_n 0, 1, 0, 0, 0, []), (34, .iload 5, 2, 0, 0, 0, []), (36, .invokevirtual 197, 3, 110, 2, 0, []), (39, .ifCond .lt 15, 3, 0, 0, 0, []), (42, .lload_n 3, 1, 0, 0, 0, []), (43, .aload_n 0, 1, 0, 0, 0, []), (44, .getfield 33, 3, 8, 3, 0, []), (47, .iload 5, 2, 0, 0, 0, []), (49, .invokevirtual 240, 3, 13, 2, 0, []), (52, .lor, 1, 0, 0, 0, []), (53, .lstore_n 3, 1, 0, 0, 0, []), (54, .iinc 5 1, 3, 0, 0, 0, []), (57, .goto (-36), 3, 0, 0, 0, []), (60, .lload_n 3, 1, 0, 0, 0, []), (61, .lload_n 1, 1, 0, 0, 0, []), (62, .land, 1, 0, 0, 0, []), (63, .invokestatic 244, 3, 199, 1, 2, []), (66, .i2d, 1, 0, 0, 0, []), (67, .lload_n 1, 1, 0, 0, 0, []), (68, .invokestatic 244, 3, 199, 1, 2, []), (71, .i2d, 1, 0, 0, 0, []), (72, .ddiv, 1, 0, 0, 0, []), (73, .dreturn, 1, 0, 0, 0, [])]
def cd_101 : List (Nat × Instr × Nat × Nat × Nat × Nat × List Nat) := [(0, .iload_n 1, 1, 0, 0, 0, []), (1, .iconst 0, 1, 0, 0, 0, []), (2, .bipush 127, 2, 0, 0, 0, []), (4, .invokestatic 156, 3, 116, 3, 2, []), (7, .ifCond .ne 13, 3, 0, 0, 0, []), (10, .new 69, 3, 0, 0, 1, []), (20, .aload_n 0, 1, 0, 0, 0, []), (21, .getfield 57, 3, 8, 7, 0, []), (24, .invokevirtual 252, 3, 63, 1, 0, []), (27, .ifCond .eq 13, 3, 0, 0, 0, []), (30, .new 135, 3, 2, 0, 1, []), (40, .aload_n 0, 1, 0, 0, 0, []), (41, .getfield 57, 3, 8, 7, 0, []), (44, .iload_n 1, 1, 0, 0, 0, []), (45, .invokevirtual 255, 3, 64, 2, 0, []), (48, .aload_n 0, 1, 0, 0, 0, []), (49, .getfield 57, 3, 8, 7, 0, []), (52, .getfield 127, 3, 6, 1, 1, []), (55, .ireturn, 1, 0, 0, 0, [])]
def cd_102 : List (Nat × Instr × Nat × Nat × Nat × Nat × List Nat) := [(0, .aload_n 0, 1, 0, 0, 0, []), (1, .getfield 57, 3, 8, 7, 0, []), (4, .getfield 127, 3, 6, 1, 1, []), (7, .istore_n 1, 1, 0, 0, 0, []), (8, .aload_n 0, 1, 0, 0, 0, []), (9, .getfield 57, 3, 8, 7, 0, []), (12, .iconst 0, 1, 0, 0, 0, []), (13, .putfield 127, 3, 6, 1, 1, []), (16, .iload_n 1, 1, 0, 0, 0, []), (17, .ireturn, 1, 0, 0, 0, [])]
def cd_103 : List (Nat × Instr × Nat × Nat × Nat × Nat × List Nat) := []
def cd_104 : List (Nat × Instr × Nat × Nat × Nat × Nat × List Nat) := [(0, .aload_n 0, 1, 0, 0, 0, []), (1, .getfield 26, 3, 8, 2, 0, []), (4, .getfield 266, 3, 2, 2, 1, []), (7, .ifCond .ne 14, 3, 0, 0, 0, []), (10, .new 135, 3, 2, 0, 1, []), (21, .aload_n 0, 1, 0, 0, 0, []), (22, .getfield 26, 3, 8, 2, 0, []), (25, .aload_n 0, 1, 0, 0, 0, []), (26, .getfield 12, 3, 8, 0, 0, []), (29, .aload_n 0, 1, 0, 0, 0, []), (30, .getfield 19, 3, 8, 1, 0, []), (33, .invokevirtual 269, 3, 27, 3, 0, []), (36, .aload_n 0, 1, 0, 0, 0, []), (37, .getfield 33, 3, 8, 3, 0, []), (40, .aload_n 0, 1, 0, 0, 0, []), (41, .getfield 12, 3, 8, 0, 0, []), (44, .invokevirtual 61, 3, 1, 2, 0, []), (47, .aload_n 0, 1, 0, 0, 0, []), (48, .getfield 26, 3, 8, 2, 0, []), (51, .getfield 266, 3, 2, 2, 1, []), (54, .ireturn, 1, 0, 0, 0, [])]
def cd_105 : List (Nat × Instr × Nat × Nat × Nat × Nat × List Nat) := []
def cd_106 : List (Nat × Instr × Nat × Nat × Nat × Nat × List Nat) := [(0, .aload_n 0, 1, 0, 0, 0, []), (1, .getfield 26, 3, 8, 2, 0, []), (4, .aload_n 0, 1, 0, 0, 0, []), (5, .getfield 12, 3, 8, 0, 0, []), (8, .aload_n 0, 1, 0, 0, 0, []), (9, .getfield 19, 3, 8, 1, 0, []), (12, .invokevirtual 289, 3, 26, 3, 0, []), (15, .return_, 1, 0, 0, 0, [])]
def cd_107 : List (Nat × Instr × Nat × Nat × Nat × Nat × List Nat) := [(0, .iload_n 2, 1, 0, 0, 0, []), (1, .tableswitch 67 0 3 #[31, 40, 49, 58], 31, 0, 0, 0, []), (32, .aload_n 0, 1, 0, 0, 0, []), (33, .getfield 12, 3, 8, 0, 0, []), (36, .iload_n 1, 1, 0, 0, 0, []), (37, .invokevirtual 100, 3, 53, 2, 0, []), (40, .ireturn, 1, 0, 0, 0, []), (41, .aload_n 0, 1, 0, 0, 0, []), (42, .getfield 33, 3, 8, 3, 0, []), (45, .iload_n 1, 1, 0, 0, 0, []), (46, .invokevirtual 292, 3, 15, 2, 0, []), (49, .ireturn, 1, 0, 0, 0, []), (50, .aload_n 0, 1, 0, 0, 0, []), (51, .getfield 33, 3, 8, 3, 0, []), (54, .iload_n 1, 1, 0, 0, 0, []), (55, .invokevirtual 295, 3, 16, 2, 0, []), (58, .ireturn, 1, 0, 0, 0, []), (59, .aload_n 0, 1, 0, 0, 0, []), (60, .getfield 33, 3, 8, 3, 0, []), (63, .iload_n 1, 1, 0, 0, 0, []), (64, .invokevirtual 298, 3, 17, 2, 0, []), (67, .ireturn, 1, 0, 0, 0, []), (68, .aload_n 0, 1, 0, 0, 0, []), (69, .getfield 12, 3, 8, 0, 0, []), (72, .iload_n 1, 1, 0, 0, 0, []), (73, .invokevirtual 100, 3, 53, 2, 0, []), (76, .invokestatic 301, 3, 123, 1, 2, []), (79, .ireturn, 1, 0, 0, 0, [])]
def cd_108 : List (Nat × Instr × Nat × Nat × Nat × Nat × List Nat) := [(0, .iload_n 1, 1, 0, 0, 0, []), (1, .tableswitch 123 0 8 #[51, 59, 67, 75, 83, 91, 99, 107, 115], 51, 0, 0, 0, []), (52, .aload_n 0, 1, 0, 0, 0, []), (53, .getfield 12, 3, 8, 0, 0, []), (56, .getfield 304, 3, 5, 0, 1, []), (59, .ireturn, 1, 0, 0, 0, []), (60, .aload_n 0, 1, 0, 0, 0, []), (61, .getfield 12, 3, 8, 0, 0, []), (64, .getfield 307, 3, 5, 1, 1, []), (67, .ireturn, 1, 0, 0, 0, []), (68, .aload_n 0, 1, 0, 0, 0, []), (69, .getfield 12, 3, 8, 0, 0, []), (72, .invokevirtual 263, 3, 58, 1, 0, []), (75, .ireturn, 1, 0, 0, 0, []), (76, .aload_n 0, 1, 0, 0, 0, []), (77, .getfield 12, 3, 8, 0, 0, []), (80, .invokevirtual 310, 3, 59, 1, 0, []), (83, .ireturn, 1, 0, 0, 0, []), (84, .aload_n 0, 1, 0, 0, 0, []), (85, .getfield 12, 3, 8, 0, 0, []), (88, .invokevirtual 110, 3, 60, 1, 0, []), (91, .ireturn, 1, 0, 0, 0, []), (92, .aload_n 0, 1, 0, 0, 0, []), (93, .getfield 12, 3, 8, 0, 0, []), (96, .invokevirtual 313, 3, 61, 1, 0, []), (99, .ireturn, 1, 0, 0, 0, []), (100, .aload_n 0, 1, 0, 0, 0, []), (101, .getfield 12, 3, 8, 0, 0, []), (104, .invokevirtual 83, 3, 50, 1, 0, []), (107, .ireturn, 1, 0, 0, 0, []), (108, .aload_n 0, 1, 0, 0, 0, []), (109, .getfield 33, 3, 8, 3, 0, []), (112, .getfield 316, 3, 0, 11, 1, []), (115, .ireturn, 1, 0, 0, 0, []), (116, .aload_n 0, 1, 0, 0, 0, []), (117, .getfield 33, 3, 8, 3, 0, []), (120, .getfield 317, 3, 0, 12, 1, []), (123, .ireturn, 1, 0, 0, 0, []), (124, .aload_n 0, 1, 0, 0, 0, []), (125, .getfield 19, 3, 8, 1, 0, []), (128, .getfield 153, 3, 7, 0, 1, []), (131, .ireturn, 1, 0, 0, 0, [])]
def cd_109 : List (Nat × Instr × Nat × Nat × Nat × Nat × List Nat) := [(0, .iload_n 2, 1, 0, 0, 0, []), (1, .tableswitch 103 0 5 #[39, 48, 57, 76, 85, 94], 39, 0, 0, 0, []), (40, .aload_n 0, 1, 0, 0, 0, []), (41, .getfield 33, 3, 8, 3, 0, []), (44, .iload_n 1, 1, 0, 0, 0, []), (45, .invokevirtual 320, 3, 7, 2, 0, []), (48, .ireturn, 1, 0, 0, 0, []), (49, .aload_n 0, 1, 0, 0, 0, []), (50, .getfield 33, 3, 8, 3, 0, []), (53, .iload_n 1, 1, 0, 0, 0, []), (54, .invokevirtual 200, 3, 8, 2, 0, []), (57, .ireturn, 1, 0, 0, 0, []), (58, .aload_n 0, 1, 0, 0, 0, []), (59, .getfield 33, 3, 8, 3, 0, []), (62, .iload_n 1, 1, 0, 0, 0, []), (63, .aload_n 0, 1, 0, 0, 0, []), (64, .getfield 33, 3, 8, 3, 0, []), (67, .iload_n 1, 1, 0, 0, 0, []), (68, .invokevirtual 182, 3, 9, 2, 0, []), (71, .iconst 1, 1, 0, 0, 0, []), (72, .isub, 1, 0, 0, 0, []), (73, .invokevirtual 187, 3, 14, 3, 0, []), (76, .ireturn, 1, 0, 0, 0, []), (77, .aload_n 0, 1, 0, 0, 0, []), (78, .getfield 33, 3, 8, 3, 0, []), (81, .iload_n 1, 1, 0, 0, 0, []), (82, .invokevirtual 182, 3, 9, 2, 0, []), (85, .ireturn, 1, 0, 0, 0, []), (86, .aload_n 0, 1, 0, 0, 0, []), (87, .getfield 33, 3, 8, 3, 0, []), (90, .iload_n 1, 1, 0, 0, 0, []), (91, .invokevirtual 323, 3, 10, 2, 0, []), (94, .ireturn, 1, 0, 0, 0, []), (95, .aload_n 0, 1, 0, 0, 0, []), (96, .getfield 33, 3, 8, 3, 0, []), (99, .iload_n 1, 1, 0, 0, 0, []), (100, .invokevirtual 326, 3, 11, 2, 0, []), (103, .ireturn, 1, 0, 0, 0, []), (104, .aload_n 0, 1, 0, 0, 0, []), (105, .getfield 33, 3, 8, 3, 0, []), (108, .iload_n 1, 1, 0, 0, 0, []), (109, .invokevirtual 329, 3, 12, 2, 0, []), (112, .ifCond .eq 7, 3, 0, 0, 0, []), (115, .iconst 1, 1, 0, 0, 0, []), (116, .goto 4, 3, 0, 0, 0, []), (119, .iconst 0, 1, 0, 0, 0, []), (120, .ireturn, 1, 0, 0, 0, [])]
def cd_110 : List (Nat × Instr × Nat × Nat × Nat × Nat × List Nat) := [(0, .aload_n 0, 1, 0, 0, 0, []), (1, .getfield 47, 3, 8, 5, 0, []), (4, .aload_n 0, 1, 0, 0, 0, []), (5, .getfield 12, 3, 8, 0, 0, []), (8, .aload_n 0, 1, 0, 0, 0, []), (9, .getfield 33, 3, 8, 3, 0, []), (12, .iload_n 1, 1, 0, 0, 0, []), (13, .invokevirtual 192, 3, 31, 4, 0, []), (16, .aload_n 0, 1, 0, 0, 0, []), (17, .getfield 47, 3, 8, 5, 0, []), (20, .aload_n 0, 1, 0, 0, 0, []), (21, .getfield 19, 3, 8, 1, 0, []), (24, .invokevirtual 332, 3, 37, 2, 0, []), (27, .ireturn, 1, 0, 0, 0, [])]
def cd_111 : List (Nat × Instr × Nat × Nat × Nat × Nat × List Nat) := [(0, .iconst (-1), 1, 0, 0, 0, []), (1, .istore_n 2, 1, 0, 0, 0, []), (2, .aload_n 0, 1, 0, 0, 0, []), (3, .iload_n 1, 1, 0, 0, 0, []), (4, .bipush 47, 2, 0, 0, 0, []), (6, .invokevirtual 336, 3, 112, 3, 0, []), (9, .ifCond .eq 10, 3, 0, 0, 0, []), (12, .iconst 2, 1, 0, 0, 0, []), (13, .iload_n 1, 1, 0, 0, 0, []), (14, .imul, 1, 0, 0, 0, []), (15, .istore_n 2, 1, 0, 0, 0, []), (16, .goto 19, 3, 0, 0, 0, []), (19, .aload_n 0, 1, 0, 0, 0, []), (20, .iload_n 1, 1, 0, 0, 0, []), (21, .bipush 92, 2, 0, 0, 0, []), (23, .invokevirtual 336, 3, 112, 3, 0, []), (26, .ifCond .eq 9, 3, 0, 0, 0, []), (29, .iconst 2, 1, 0, 0, 0, []), (30, .iload_n 1, 1, 0, 0, 0, []), (31, .imul, 1, 0, 0, 0, []), (32, .iconst 1, 1, 0, 0, 0, []), (33, .iadd, 1, 0, 0, 0, []), (34, .istore_n 2, 1, 0, 0, 0, []), (35, .aload_n 0, 1, 0, 0, 0, []), (36, .getfield 12, 3, 8, 0, 0, []), (39, .iload_n 1, 1, 0, 0, 0, []), (40, .bipush 35, 2, 0, 0, 0, []), (42, .invokevirtual 104, 3, 54, 3, 0, []), (45, .iload_n 2, 1, 0, 0, 0, []), (46, .ireturn, 1, 0, 0, 0, [])]
def cd_112 : List (Nat × Instr × Nat × Nat × Nat × Nat × List Nat) := [(0, .aload_n 0, 1, 0, 0, 0, []), (1, .getfield 12, 3, 8, 0, 0, []), (4, .iload_n 1, 1, 0, 0, 0, []), (5, .iload_n 2, 1, 0, 0, 0, []), (6, .invokevirtual 104, 3, 54, 3, 0, []), (9, .aload_n 0, 1, 0, 0, 0, []), (10, .getfield 33, 3, 8, 3, 0, []), (13, .aload_n 0, 1, 0, 0, 0, []), (14, .getfield 12, 3, 8, 0, 0, []), (17, .invokevirtual 61, 3, 1, 2, 0, []), (20, .aload_n 0, 1, 0, 0, 0, []), (21, .getfield 40, 3, 8, 4, 0, []), (24, .aload_n 0, 1, 0, 0, 0, []), (25, .getfield 12, 3, 8, 0, 0, []), (28, .aload_n 0, 1, 0, 0, 0, []), (29, .getfield 33, 3, 8, 3, 0, []), (32, .iconst 1, 1, 0, 0, 0, []), (33, .invokevirtual 209, 3, 39, 4, 0, []), (36, .aload_n 0, 1, 0, 0, 0, []), (37, .getfield 40, 3, 8, 4, 0, []), (40, .getfield 212, 3, 4, 8, 1, []), (43, .ifCond .le 7, 3, 0, 0, 0, []), (46, .iconst 1, 1, 0, 0, 0, []), (47, .goto 4, 3, 0, 0, 0, []), (50, .iconst 0, 1, 0, 0, 0, []), (51, .ireturn, 1, 0, 0, 0, [])]
def cd_113 : List (Nat × Instr × Nat × Nat × Nat × Nat × List Nat) := []
def cd_114 : List (Nat × Instr × Nat × Nat × Nat × Nat × List Nat) := []
def cd_115 : List (Nat × Instr × Nat × Nat × Nat × Nat × List Nat) := []
def cd_116 : List (Nat × Instr × Nat × Nat × Nat × Nat × List Nat) := [(0, .iload_n 0, 1, 0, 0, 0, []), (1, .iload_n 1, 1, 0, 0, 0, []), (2, .if_icmp .lt 12, 3, 0, 0, 0, []), (5, .iload_n 0, 1, 0, 0, 0, []), (6, .iload_n 2, 1, 0, 0, 0, []), (7, .if_icmp .gt 7, 3, 0, 0, 0, []), (10, .iconst 1, 1, 0, 0, 0, []), (11, .goto 4, 3, 0, 0, 0, []), (14, .iconst 0, 1, 0, 0, 0, []), (15, .ireturn, 1, 0, 0, 0, [])]
def cd_117 : List (Nat × Instr × Nat × Nat × Nat × Nat × List Nat) := [(0, .iload_n 0, 1, 0, 0, 0, []), (1, .iconst 2, 1, 0, 0, 0, []), (2, .bipush 7, 2, 0, 0, 0, []), (4, .invokestatic 156, 3, 116, 3, 2, []), (7, .ireturn, 1, 0, 0, 0, [])]
def cd_118 : List (Nat × Instr × Nat × Nat × Nat × Nat × List Nat) := [(0, .iload_n 0, 1, 0, 0, 0, []), (1, .bipush 97, 2, 0, 0, 0, []), (3, .if_icmp .lt 13, 3, 0, 0, 0, []), (6, .iload_n 0, 1, 0, 0, 0, []), (7, .bipush 122, 2, 0, 0, 0, []), (9, .if_icmp .gt 7, 3, 0, 0, 0, []), (12, .iconst 1, 1, 0, 0, 0, []), (13, .goto 4, 3, 0, 0, 0, []), (16, .iconst 0, 1, 0, 0, 0, []), (17, .ireturn, 1, 0, 0, 0, [])]
def cd_119 : List (Nat × Instr × Nat × Nat × Nat × Nat × List Nat) := [(0, .iload_n 0, 1, 0, 0, 0, []), (1, .bipush 65, 2, 0, 0, 0, []), (3, .if_icmp .lt 13, 3, 0, 0, 0, []), (6, .iload_n 0, 1, 0, 0, 0, []), (7, .bipush 90, 2, 0, 0, 0, []), (9, .if_icmp .gt 7, 3, 0, 0, 0, []), (12, .iconst 1, 1, 0, 0, 0, []), (13, .goto 4, 3, 0, 0, 0, []), (16, .iconst 0, 1, 0, 0, 0, []), (17, .ireturn, 1, 0, 0, 0, [])]
def cd_120 : List (Nat × Instr × Nat × Nat × Nat × Nat × List Nat) := [(0, .iload_n 0, 1, 0, 0, 0, []), (1, .invokestatic 343, 3, 118, 1, 2, []), (4, .ifCond .ne 10, 3, 0, 0, 0, []), (7, .iload_n 0, 1, 0, 0, 0, []), (8, .invokestatic 346, 3, 119, 1, 2, []), (11, .ifCond .eq 7, 3, 0, 0, 0, []), (14, .iconst 1, 1, 0, 0, 0, []), (15, .goto 4, 3, 0, 0, 0, []), (18, .iconst 0, 1, 0, 0, 0, []), (19, .ireturn, 1, 0, 0, 0, [])]
def cd_121 : List (Nat × Instr × Nat × Nat × Nat × Nat × List Nat) := [(0, .iload_n 0, 1, 0, 0, 0, []), (1, .bipush 47, 2, 0, 0, 0, []), (3, .if_icmp .eq 9, 3, 0, 0, 0, []), (6, .iload_n 0, 1, 0, 0, 0, []), (7, .bipush 92, 2, 0, 0, 0, []), (9, .if_icmp .ne 7, 3, 0, 0, 0, []), (12, .iconst 1, 1, 0, 0, 0, []), (13, .goto 4, 3, 0, 0, 0, []), (16, .iconst 0, 1, 0, 0, 0, []), (17, .ireturn, 1, 0, 0, 0, [])]
def cd_122 : List (Nat × Instr × Nat × Nat × Nat × Nat × List Nat) := [(0, .iload_n 0, 1, 0, 0, 0, []), (1, .invokestatic 349, 3, 120, 1, 2, []), (4, .ifCond .ne 28, 3, 0, 0, 0, []), (7, .iload_n 0, 1, 0, 0, 0, []), (8, .invokestatic 352, 3, 121, 1, 2, []), (11, .ifCond .ne 21, 3, 0, 0, 0, []), (14, .iload_n 0, 1, 0, 0, 0, []), (15, .bipush 46, 2, 0, 0, 0, []), (17, .if_icmp .eq 15, 3, 0, 0, 0, []), (20, .iload_n 0, 1, 0, 0, 0, []), (21, .bipush 35, 2, 0, 0, 0, []), (23, .if_icmp .eq 9, 3, 0, 0, 0, []), (26, .iload_n 0, 1, 0, 0, 0, []), (27, .bipush 58, 2, 0, 0, 0, []), (29, .if_icmp .ne 7, 3, 0, 0, 0, []), (32, .iconst 1, 1, 0, 0, 0, []), (33, .goto 4, 3, 0, 0, 0, []), (36, .iconst 0, 1, 0, 0, 0, []), (37, .ireturn, 1, 0, 0, 0, [])]
def cd_123 : List (Nat × Instr × Nat × Nat × Nat × Nat × List Nat) := [(0, .iload_n 0, 1, 0, 0, 0, []), (1, .invokestatic 343, 3, 118, 1, 2, []), (4, .ifCond .eq 8, 3, 0, 0, 0, []), (7, .iload_n 0, 1, 0, 0, 0, []), (8, .bipush 97, 2, 0, 0, 0, []), (10, .isub, 1, 0, 0, 0, []), (11, .ireturn, 1, 0, 0, 0, []), (12, .iload_n 0, 1, 0, 0, 0, []), (13, .invokestatic 346, 3, 119, 1, 2, []), (16, .ifCond .eq 10, 3, 0, 0, 0, []), (19, .iload_n 0, 1, 0, 0, 0, []), (20, .bipush 65, 2, 0, 0, 0, []), (22, .isub, 1, 0, 0, 0, []), (23, .goto 4, 3, 0, 0, 0, []), (26, .iconst (-1), 1, 0, 0, 0, []), (27, .ireturn, 1, 0, 0, 0, [])]
def cd_124 : List (Nat × Instr × Nat × Nat × Nat × Nat × List Nat) := [(0, .iload_n 0, 1, 0, 0, 0, []), (1, .bipush 47, 2, 0, 0, 0, []), (3, .if_icmp .ne 6, 3, 0, 0, 0, []), (6, .bipush 92, 2, 0, 0, 0, []), (8, .ireturn, 1, 0, 0, 0, []), (9, .iload_n 0, 1, 0, 0, 0, []), (10, .bipush 92, 2, 0, 0, 0, []), (12, .if_icmp .ne 8, 3, 0, 0, 0, []), (15, .bipush 47, 2, 0, 0, 0, []), (17, .goto 4, 3, 0, 0, 0, []), (20, .iload_n 0, 1, 0, 0, 0, []), (21, .ireturn, 1, 0, 0, 0, [])]
def cd_125 : List (Nat × Instr × Nat × Nat × Nat × Nat × List Nat) := [(0, .iload_n 1, 1, 0, 0, 0, []), (1, .ifCond .lt 15, 3, 0, 0, 0, []), (4, .iload_n 1, 1, 0, 0, 0, []), (5, .aload_n 0, 1, 0, 0, 0, []), (6, .arraylength, 1, 0, 0, 0, []), (7, .if_icmp .ge 9, 3, 0, 0, 0, []), (10, .aload_n 0, 1, 0, 0, 0, []), (11, .iload_n 1, 1, 0, 0, 0, []), (12, .iaload, 1, 0, 0, 0, []), (13, .goto 4, 3, 0, 0, 0, []), (16, .iconst 0, 1, 0, 0, 0, []), (17, .ireturn, 1, 0, 0, 0, [])]
def cd_126 : List (Nat × Instr × Nat × Nat × Nat × Nat × List Nat) := [(0, .iload_n 1, 1, 0, 0, 0, []), (1, .ifCond .lt 15, 3, 0, 0, 0, []), (4, .iload_n 1, 1, 0, 0, 0, []), (5, .aload_n 0, 1, 0, 0, 0, []), (6, .arraylength, 1, 0, 0, 0, []), (7, .if_icmp .ge 9, 3, 0, 0, 0, []), (10, .aload_n 0, 1, 0, 0, 0, []), (11, .iload_n 1, 1, 0, 0, 0, []), (12, .laload, 1, 0, 0, 0, []), (13, .goto 4, 3, 0, 0, 0, []), (16, .lconst 0, 1, 0, 0, 0, []), (17, .lreturn, 1, 0, 0, 0, [])]
def cd_127 : List (Nat × Instr × Nat × Nat × Nat × Nat × List Nat) := [(0, .iload_n 1, 1, 0, 0, 0, []), (1, .ifCond .lt 13, 3, 0, 0, 0, []), (4, .iload_n 1, 1, 0, 0, 0, []), (5, .aload_n 0, 1, 0, 0, 0, []), (6, .arraylength, 1, 0, 0, 0, []), (7, .if_icmp .ge 7, 3, 0, 0, 0, []), (10, .aload_n 0, 1, 0, 0, 0, []), (11, .iload_n 1, 1, 0, 0, 0, []), (12, .iload_n 2, 1, 0, 0, 0, []), (13, .iastore, 1, 0, 0, 0, []), (14, .return_, 1, 0, 0, 0, [])]
def cd_128 : List (Nat × Instr × Nat × Nat × Nat × Nat × List Nat) := [(0, .iload_n 1, 1, 0, 0, 0, []), (1, .ifCond .lt 13, 3, 0, 0, 0, []), (4, .iload_n 1, 1, 0, 0, 0, []), (5, .aload_n 0, 1, 0, 0, 0, []), (6, .arraylength, 1, 0, 0, 0, []), (7, .if_icmp .ge 7, 3, 0, 0, 0, []), (10, .aload_n 0, 1, 0, 0, 0, []), (11, .iload_n 1, 1, 0, 0, 0, []), (12, .lload_n 2, 1, 0, 0, 0, []), (13, .lastore, 1, 0, 0, 0, []), (14, .return_, 1, 0, 0, 0, [])]
def cd_129 : List (Nat × Instr × Nat × Nat × Nat × Nat × List Nat) := [(0, .iconst 0, 1, 0, 0, 0, []), (1, .istore_n 2, 1, 0, 0, 0, []), (2, .iload_n 2, 1, 0, 0, 0, []), (3, .aload_n 0, 1, 0, 0, 0, []), (4, .arraylength, 1, 0, 0, 0, []), (5, .if_icmp .ge 21, 3, 0, 0, 0, []), (8, .iload_n 2, 1, 0, 0, 0, []), (9, .aload_n 1, 1, 0, 0, 0, []), (10, .arraylength, 1, 0, 0, 0, []), (11, .if_icmp .ge 15, 3, 0, 0, 0, []), (14, .aload_n 1, 1, 0, 0, 0, []), (15, .iload_n 2, 1, 0, 0, 0, []), (16, .aload_n 0, 1, 0, 0, 0, []), (17, .iload_n 2, 1, 0, 0, 0, []), (18, .iaload, 1, 0, 0, 0, []), (19, .iastore, 1, 0, 0, 0, []), (20, .iinc 2 1, 3, 0, 0, 0, []), (23, .goto (-21), 3, 0, 0, 0, []), (26, .return_, 1, 0, 0, 0, [])]
def cd_130 : List (Nat × Instr × Nat × Nat × Nat × Nat × List Nat) := [(0, .iload_n 1, 1, 0, 0, 0, []), (1, .aload_n 0, 1, 0, 0, 0, []), (2, .arraylength, 1, 0, 0, 0, []), (3, .if_icmp .ge 9, 3, 0, 0, 0, []), (6, .aload_n 0, 1, 0, 0, 0, []), (7, .iload_n 1, 1, 0, 0, 0, []), (8, .iaload, 1, 0, 0, 0, []), (9, .goto 9, 3, 0, 0, 0, []), (12, .ldc 7, 2, 0, 0, 0, []), (14, .iload_n 1, 1, 0, 0, 0, []), (15, .iconst 3, 1, 0, 0, 0, []), (16, .iadd, 1, 0, 0, 0, []), (17, .imul, 1, 0, 0, 0, []), (18, .istore_n 2, 1, 0, 0, 0, []), (19, .iload_n 2, 1, 0, 0, 0, []), (20, .iload_n 2, 1, 0, 0, 0, []), (21, .bipush 15, 2, 0, 0, 0, []), (23, .iushr, 1, 0, 0, 0, []), (24, .ixor, 1, 0, 0, 0, []), (25, .ireturn, 1, 0, 0, 0, [])]
def cd_131 : List (Nat × Instr × Nat × Nat × Nat × Nat × List Nat) := [(0, .iload_n 0, 1, 0, 0, 0, []), (1, .ldc 8, 2, 1, 0, 0, []), (3, .iand, 1, 0, 0, 0, []), (4, .iload_n 1, 1, 0, 0, 0, []), (5, .irem, 1, 0, 0, 0, []), (6, .ireturn, 1, 0, 0, 0, [])]
def cd_132 : List (Nat × Instr × Nat × Nat × Nat × Nat × List Nat) := [(0, .aload_n 0, 1, 0, 0, 0, []), (1, .iload_n 1, 1, 0, 0, 0, []), (2, .iload_n 2, 1, 0, 0, 0, []), (3, .invokevirtual 9, 3, 81, 3, 0, []), (6, .istore_n 3, 1, 0, 0, 0, []), (7, .goto 8, 3, 0, 0, 0, []), (15, .iload_n 3, 1, 0, 0, 0, []), (16, .ireturn, 1, 0, 0, 0, [])]
def cd_133 : List (Nat × Instr × Nat × Nat × Nat × Nat × List Nat) := [(0, .aload_n 0, 1, 0, 0, 0, []), (1, .iload_n 1, 1, 0, 0, 0, []), (2, .iload_n 2, 1, 0, 0, 0, []), (3, .invokevirtual 18, 3, 82, 3, 0, []), (6, .istore_n 3, 1, 0, 0, 0, []), (7, .goto 13, 3, 0, 0, 0, []), (20, .iload_n 3, 1, 0, 0, 0, []), (21, .ireturn, 1, 0, 0, 0, [])]
def cd_134 : List (Nat × Instr × Nat × Nat × Nat × Nat × List Nat) := [(0, .aload_n 0, 1, 0, 0, 0, []), (1, .invokevirtual 24, 3, 85, 1, 0, []), (4, .istore_n 1, 1, 0, 0, 0, []), (5, .goto 7, 3, 0, 0, 0, []), (12, .iload_n 1, 1, 0, 0, 0, []), (13, .ireturn, 1, 0, 0, 0, [])]
def cd_135 : List (Nat × Instr × Nat × Nat × Nat × Nat × List Nat) := [(0, .aload_n 0, 1, 0, 0, 0, []), (1, .iload_n 1, 1, 0, 0, 0, []), (2, .invokevirtual 31, 3, 86, 2, 0, []), (5, .istore_n 2, 1, 0, 0, 0, []), (6, .goto 7, 3, 0, 0, 0, []), (13, .iload_n 2, 1, 0, 0, 0, []), (14, .ireturn, 1, 0, 0, 0, [])]
def cd_136 : List (Nat × Instr × Nat × Nat × Nat × Nat × List Nat) := [(0, .aload_n 0, 1, 0, 0, 0, []), (1, .iload_n 1, 1, 0, 0, 0, []), (2, .iload_n 2, 1, 0, 0, 0, []), (3, .invokevirtual 35, 3, 87, 3, 0, []), (6, .istore_n 3, 1, 0, 0, 0, []), (7, .goto 13, 3, 0, 0, 0, []), (20, .iload_n 3, 1, 0, 0, 0, []), (21, .ireturn, 1, 0, 0, 0, [])]
def cd_137 : List (Nat × Instr × Nat × Nat × Nat × Nat × List Nat) := [(0, .aload_n 0, 1, 0, 0, 0, []), (1, .iload_n 1, 1, 0, 0, 0, []), (2, .invokevirtual 38, 3, 88, 2, 0, []), (5, .istore_n 2, 1, 0, 0, 0, []), (6, .goto 7, 3, 0, 0, 0, []), (13, .iload_n 2, 1, 0, 0, 0, []), (14, .ireturn, 1, 0, 0, 0, [])]
def cd_138 : List (Nat × Instr × Nat × Nat × Nat × Nat × List Nat) := [(0, .aload_n 0, 1, 0, 0, 0, []), (1, .iload_n 1, 1, 0, 0, 0, []), (2, .iload_n 2, 1, 0, 0, 0, []), (3, .invokevirtual 41, 3, 89, 3, 0, []), (6, .istore_n 3, 1, 0, 0, 0, []), (7, .goto 8, 3, 0, 0, 0, []), (15, .iload_n 3, 1, 0, 0, 0, []), (16, .ireturn, 1, 0, 0, 0, [])]
def cd_139 : List (Nat × Instr × Nat × Nat × Nat × Nat × List Nat) := [(0, .aload_n 0, 1, 0, 0, 0, []), (1, .iload_n 1, 1, 0, 0, 0, []), (2, .iload_n 2, 1, 0, 0, 0, []), (3, .invokevirtual 44, 3, 90, 3, 0, []), (6, .istore_n 3, 1, 0, 0, 0, []), (7, .goto 13, 3, 0, 0, 0, []), (20, .iload_n 3, 1, 0, 0, 0, []), (21, .ireturn, 1, 0, 0, 0, [])]
def cd_140 : List (Nat × Instr × Nat × Nat × Nat × Nat × List Nat) := [(0, .aload_n 0, 1, 0, 0, 0, []), (1, .iload_n 1, 1, 0, 0, 0, []), (2, .iload_n 2, 1, 0, 0, 0, []), (3, .invokevirtual 47, 3, 91, 3, 0, []), (6, .istore_n 3, 1, 0, 0, 0, []), (7, .goto 8, 3, 0, 0, 0, []), (15, .iload_n 3, 1, 0, 0, 0, []), (16, .ireturn, 1, 0, 0, 0, [])]
def cd_141 : List (Nat × Instr × Nat × Nat × Nat × Nat × List Nat) := [(0, .aload_n 0, 1, 0, 0, 0, []), (1, .iload_n 1, 1, 0, 0, 0, []), (2, .iload_n 2, 1, 0, 0, 0, []), (3, .invokevirtual 50, 3, 92, 3, 0, []), (6, .istore_n 3, 1, 0, 0, 0, []), (7, .goto 8, 3, 0, 0, 0, []), (15, .iload_n 3, 1, 0, 0, 0, []), (16, .ireturn, 1, 0, 0, 0, [])]
def cd_142 : List (Nat × Instr × Nat × Nat × Nat × Nat × List Nat) := [(0, .aload_n 0, 1, 0, 0, 0, []), (1, .iload_n 1, 1, 0, 0, 0, []), (2, .invokevirtual 53, 3, 93, 2, 0, []), (5, .istore_n 2, 1, 0, 0, 0, []), (6, .goto 7, 3, 0, 0, 0, []), (13, .iload_n 2, 1, 0, 0, 0, []), (14, .ireturn, 1, 0, 0, 0, [])]
def cd_143 : List (Nat × Instr × Nat × Nat × Nat × Nat × List Nat) := [(0, .aload_n 0, 1, 0, 0, 0, []), (1, .iload_n 1, 1, 0, 0, 0, []), (2, .invokevirtual 56, 3, 94, 2, 0, []), (5, .istore_n 2, 1, 0, 0, 0, []), (6, .goto 7, 3, 0, 0, 0, []), (13, .iload_n 2, 1, 0, 0, 0, []), (14, .ifCond .eq 7, 3, 0, 0, 0, []), (17, .iconst 1, 1, 0, 0, 0, []), (18, .goto 4, 3, 0, 0, 0, []), (21, .iconst 0, 1, 0, 0, 0, []), (22, .ireturn, 1, 0, 0, 0, [])]
def cd_144 : List (Nat × Instr × Nat × Nat × Nat × Nat × List Nat) := [(0, .aload_n 0, 1, 0, 0, 0, []), (1, .iload_n 1, 1, 0, 0, 0, []), (2, .invokevirtual 60, 3, 95, 2, 0, []), (5, .istore_n 2, 1, 0, 0, 0, []), (6, .goto 7, 3, 0, 0, 0, []), (13, .iload_n 2, 1, 0, 0, 0, []), (14, .ireturn, 1, 0, 0, 0, [])]
def cd_145 : List (Nat × Instr × Nat × Nat × Nat × Nat × List Nat) := [(0, .aload_n 0, 1, 0, 0, 0, []), (1, .iload_n 1, 1, 0, 0, 0, []), (2, .invokevirtual 63, 3, 96, 2, 0, []), (5, .istore_n 2, 1, 0, 0, 0, []), (6, .goto 7, 3, 0, 0, 0, []), (13, .iload_n 2, 1, 0, 0, 0, []), (14, .ireturn, 1, 0, 0, 0, [])]
def cd_146 : List (Nat × Instr × Nat × Nat × Nat × Nat × List Nat) := [(0, .aload_n 0, 1, 0, 0, 0, []), (1, .iload_n 1, 1, 0, 0, 0, []), (2, .invokevirtual 66, 3, 97, 2, 0, []), (5, .istore_n 2, 1, 0, 0, 0, []), (6, .goto 7, 3, 0, 0, 0, []), (13, .iload_n 2, 1, 0, 0, 0, []), (14, .ireturn, 1, 0, 0, 0, [])]
def cd_147 : List (Nat × Instr × Nat × Nat × Nat × Nat × List Nat) := [(0, .aload_n 0, 1, 0, 0, 0, []), (1, .iload_n 1, 1, 0, 0, 0, []), (2, .invokevirtual 69, 3, 101, 2, 0, []), (5, .istore_n 2, 1, 0, 0, 0, []), (6, .goto 11, 3, 0, 0, 0, []), (17, .iload_n 2, 1, 0, 0, 0, []), (18, .ireturn, 1, 0, 0, 0, [])]
def cd_148 : List (Nat × Instr × Nat × Nat × Nat × Nat × List Nat) := [(0, .aload_n 0, 1, 0, 0, 0, []), (1, .invokevirtual 72, 3, 104, 1, 0, []), (4, .istore_n 1, 1, 0, 0, 0, []), (5, .goto 7, 3, 0, 0, 0, []), (12, .iload_n 1, 1, 0, 0, 0, []), (13, .ireturn, 1, 0, 0, 0, [])]
def cd_149 : List (Nat × Instr × Nat × Nat × Nat × Nat × List Nat) := [(0, .ldc2_w 75, 3, 1, 0, 0, []), (3, .lstore_n 1, 1, 0, 0, 0, []), (4, .iconst 0, 1, 0, 0, 0, []), (5, .istore_n 3, 1, 0, 0, 0, []), (6, .iload_n 3, 1, 0, 0, 0, [2]), (7, .bipush 10, 2, 0, 0, 0, []), (9, .if_icmp .ge 22, 3, 0, 0, 0, []), (12, .ldc2_w 77, 3, 2, 0, 0, []), (15, .lload_n 1, 1, 0, 0, 0, []), (16, .lmul, 1, 0, 0, 0, []), (17, .aload_n 0, 1, 0, 0, 0, []), (18, .iload_n 3, 1, 0, 0, 0, []), (19, .invokestatic 79, 3, 137, 2, 7, []), (22, .i2l, 1, 0, 0, 0, []), (23, .ladd, 1, 0, 0, 0, []), (24, .lstore_n 1, 1, 0, 0, 0, []), (25, .iinc 3 1, 3, 0, 0, 0, []), (28, .goto (-22), 3, 0, 0, 0, []), (31, .iconst 0, 1, 0, 0, 0, []), (32, .istore_n 3, 1, 0, 0, 0, []), (33, .iload_n 3, 1, 0, 0, 0, [2]), (34, .bipush 49, 2, 0, 0, 0, []), (36, .if_icmp .ge 23, 3, 0, 0, 0, []), (39, .ldc2_w 77, 3, 2, 0, 0, []), (42, .lload_n 1, 1, 0, 0, 0, []), (43, .lmul, 1, 0, 0, 0, []), (44, .aload_n 0, 1, 0, 0, 0, []), (45, .iload_n 3, 1, 0, 0, 0, []), (46, .iconst 0, 1, 0, 0, 0, []), (47, .invokestatic 84, 3, 136, 3, 7, []), (50, .i2l, 1, 0, 0, 0, []), (51, .ladd, 1, 0, 0, 0, []), (52, .lstore_n 1, 1, 0, 0, 0, []), (53, .iinc 3 1, 3, 0, 0, 0, []), (56, .goto (-23), 3, 0, 0, 0, []), (59, .iconst 0, 1, 0, 0, 0, []), (60, .istore_n 3, 1, 0, 0, 0, []), (61, .iload_n 3, 1, 0, 0, 0, [2]), (62, .bipush 28, 2, 0, 0, 0, []), (64, .if_icmp .ge 34, 3, 0, 0, 0, []), (67, .ldc2_w 77, 3, 2, 0, 0, []), (70, .ldc2_w 77, 3, 2, 0, 0, []), (73, .lload_n 1, 1, 0, 0, 0, []), (74, .lmul, 1, 0, 0, 0, []), (75, .aload_n 0, 1, 0, 0, 0, []), (76, .iload_n 3, 1, 0, 0, 0, []), (77, .iconst 1, 1, 0, 0, 0, []), (78, .invokestatic 88, 3, 139, 3, 7, []), (81, .i2l, 1, 0, 0, 0, []), (82, .ladd, 1, 0, 0, 0, []), (83, .lmul, 1, 0, 0, 0, []), (84, .aload_n 0, 1, 0, 0, 0, []), (85, .iload_n 3, 1, 0, 0, 0, []), (86, .invokestatic 90, 3, 142, 2, 7, []), (89, .i2l, 1, 0, 0, 0, []), (90, .ladd, 1, 0, 0, 0, []), (91, .lstore_n 1, 1, 0, 0, 0, []), (92, .iinc 3 1, 3, 0, 0, 0, []), (95, .goto (-34), 3, 0, 0, 0, []), (98, .iconst 0, 1, 0, 0, 0, []), (99, .istore_n 3, 1, 0, 0, 0, []), (100, .iload_n 3, 1, 0, 0, 0, [2]), (101, .bipush 64, 2, 0, 0, 0, []), (103, .if_icmp .ge 29, 3, 0, 0, 0, []), (106, .ldc2_w 77, 3, 2, 0, 0, []), (109, .lload_n 1, 1, 0, 0, 0, []), (110, .lmul, 1, 0, 0, 0, []), (111, .aload_n 0, 1, 0, 0, 0, []), (112, .iload_n 3, 1, 0, 0, 0, []), (113, .bipush 8, 2, 0, 0, 0, []), (115, .idiv, 1, 0, 0, 0, []), (116, .iload_n 3, 1, 0, 0, 0, []), (117, .bipush 8, 2, 0, 0, 0, []), (119, .irem, 1, 0, 0, 0, []), (120, .invokestatic 92, 3, 138, 3, 7, []), (123, .i2l, 1, 0, 0, 0, []), (124, .ladd, 1, 0, 0, 0, []), (125, .lstore_n 1, 1, 0, 0, 0, []), (126, .iinc 3 1, 3, 0, 0, 0, []), (129, .goto (-29), 3, 0, 0, 0, []), (132, .lload_n 1, 1, 0, 0, 0, []), (133, .lreturn, 1, 0, 0, 0, [])]
def cd_150 : List (Nat × Instr × Nat × Nat × Nat × Nat × List Nat) := [(0, .aload_n 0, 1, 0, 0, 0, []), (1, .invokestatic 94, 3, 149, 1, 2, []), (4, .lstore_n 1, 1, 0, 0, 0, []), (5, .aload_n 0, 1, 0, 0, 0, []), (6, .iconst 0, 1, 0, 0, 0, []), (7, .invokestatic 79, 3, 137, 2, 7, []), (10, .aload_n 0, 1, 0, 0, 0, []), (11, .iconst 1, 1, 0, 0, 0, []), (12, .invokestatic 79, 3, 137, 2, 7, []), (15, .imul, 1, 0, 0, 0, []), (16, .istore_n 3, 1, 0, 0, 0, []), (17, .aload_n 0, 1, 0, 0, 0, []), (18, .bipush 6, 2, 0, 0, 0, []), (20, .invokestatic 79, 3, 137, 2, 7, []), (23, .istore 4, 2, 0, 0, 0, []), (25, .aload_n 0, 1, 0, 0, 0, []), (26, .iconst 1, 1, 0, 0, 0, []), (27, .bipush 7, 2, 0, 0, 0, []), (29, .invokestatic 98, 3, 132, 3, 7, []), (32, .ldc 17, 2, 2, 0, 0, []), (34, .if_icmp .ne 189, 3, 0, 0, 0, []), (37, .aload_n 0, 1, 0, 0, 0, []), (38, .bipush 7, 2, 0, 0, 0, []), (40, .bipush 8, 2, 0, 0, 0, []), (42, .invokestatic 98, 3, 132, 3, 7, []), (45, .ldc 17, 2, 2, 0, 0, []), (47, .if_icmp .ne 176, 3, 0, 0, 0, []), (50, .aload_n 0, 1, 0, 0, 0, []), (51, .iload_n 3, 1, 0, 0, 0, []), (52, .bipush 97, 2, 0, 0, 0, []), (54, .invokestatic 100, 3, 133, 3, 7, []), (57, .ldc 23, 2, 3, 0, 0, []), (59, .if_icmp .ne 164, 3, 0, 0, 0, []), (62, .aload_n 0, 1, 0, 0, 0, []), (63, .iconst (-1), 1, 0, 0, 0, []), (64, .bipush 46, 2, 0, 0, 0, []), (66, .invokestatic 100, 3, 133, 3, 7, []), (69, .ldc 23, 2, 3, 0, 0, []), (71, .if_icmp .ne 152, 3, 0, 0, 0, []), (74, .aload_n 0, 1, 0, 0, 0, []), (75, .iconst 0, 1, 0, 0, 0, []), (76, .bipush 124, 2, 0, 0, 0, []), (78, .invokestatic 100, 3, 133, 3, 7, []), (81, .ldc 17, 2, 2, 0, 0, []), (83, .if_icmp .ne 140, 3, 0, 0, 0, []), (86, .aload_n 0, 1, 0, 0, 0, []), (87, .iconst 0, 1, 0, 0, 0, []), (88, .bipush 32, 2, 0, 0, 0, []), (90, .invokestatic 100, 3, 133, 3, 7, []), (93, .ldc 17, 2, 2, 0, 0, []), (95, .if_icmp .ne 128, 3, 0, 0, 0, []), (98, .aload_n 0, 1, 0, 0, 0, []), (99, .aload_n 0, 1, 0, 0, 0, []), (100, .bipush 9, 2, 0, 0, 0, []), (102, .invokestatic 79, 3, 137, 2, 7, []), (105, .invokestatic 102, 3, 135, 2, 7, []), (108, .ldc 23, 2, 3, 0, 0, []), (110, .if_icmp .ne 113, 3, 0, 0, 0, []), (113, .aload_n 0, 1, 0, 0, 0, []), (114, .iload_n 3, 1, 0, 0, 0, []), (115, .iconst 0, 1, 0, 0, 0, []), (116, .invokestatic 84, 3, 136, 3, 7, []), (119, .ldc 23, 2, 3, 0, 0, []), (121, .if_icmp .ne 102, 3, 0, 0, 0, []), (124, .aload_n 0, 1, 0, 0, 0, []), (125, .iconst 0, 1, 0, 0, 0, []), (126, .iconst (-1), 1, 0, 0, 0, []), (127, .invokestatic 84, 3, 136, 3, 7, []), (130, .ldc 17, 2, 2, 0, 0, []), (132, .if_icmp .ne 91, 3, 0, 0, 0, []), (135, .aload_n 0, 1, 0, 0, 0, []), (136, .iconst (-1), 1, 0, 0, 0, []), (137, .invokestatic 79, 3, 137, 2, 7, []), (140, .ldc 17, 2, 2, 0, 0, []), (142, .if_icmp .ne 81, 3, 0, 0, 0, []), (145, .aload_n 0, 1, 0, 0, 0, []), (146, .aload_n 0, 1, 0, 0, 0, []), (147, .bipush 9, 2, 0, 0, 0, []), (149, .invokestatic 79, 3, 137, 2, 7, []), (152, .iconst 0, 1, 0, 0, 0, []), (153, .invokestatic 92, 3, 138, 3, 7, []), (156, .ldc 23, 2, 3, 0, 0, []), (158, .if_icmp .ne 65, 3, 0, 0, 0, []), (161, .aload_n 0, 1, 0, 0, 0, []), (162, .iload 4, 2, 0, 0, 0, []), (164, .iconst 0, 1, 0, 0, 0, []), (165, .invokestatic 88, 3, 139, 3, 7, []), (168, .ldc 23, 2, 3, 0, 0, []), (170, .if_icmp .ne 53, 3, 0, 0, 0, []), (173, .aload_n 0, 1, 0, 0, 0, []), (174, .iconst 0, 1, 0, 0, 0, []), (175, .bipush 7, 2, 0, 0, 0, []), (177, .invokestatic 88, 3, 139, 3, 7, []), (180, .ldc 17, 2, 2, 0, 0, []), (182, .if_icmp .ne 41, 3, 0, 0, 0, []), (185, .aload_n 0, 1, 0, 0, 0, []), (186, .iconst 0, 1, 0, 0, 0, []), (187, .iconst (-1), 1, 0, 0, 0, []), (188, .invokestatic 104, 3, 140, 3, 7, []), (191, .ldc 23, 2, 3, 0, 0, []), (193, .if_icmp .ne 30, 3, 0, 0, 0, []), (196, .aload_n 0, 1, 0, 0, 0, []), (197, .iload 4, 2, 0, 0, 0, []), (199, .iconst 0, 1, 0, 0, 0, []), (200, .invokestatic 104, 3, 140, 3, 7, []), (203, .ldc 23, 2, 3, 0, 0, []), (205, .if_icmp .ne 18, 3, 0, 0, 0, []), (208, .aload_n 0, 1, 0, 0, 0, []), (209, .iconst 0, 1, 0, 0, 0, []), (210, .iconst (-1), 1, 0, 0, 0, []), (211, .invokestatic 106, 3, 141, 3, 7, []), (214, .ldc 23, 2, 3, 0, 0, []), (216, .if_icmp .ne 7, 3, 0, 0, 0, []), (219, .iconst 1, 1, 0, 0, 0, []), (220, .goto 4, 3, 0, 0, 0, []), (223, .iconst 0, 1, 0, 0, 0, []), (224, .istore 5, 2, 0, 0, 0, []), (226, .iload 5, 2, 0, 0, 0, []), (228, .ifCond .eq 114, 3, 0, 0, 0, []), (231, .aload_n 0, 1, 0, 0, 0, []), (232, .iload 4, 2, 0, 0, 0, []), (234, .invokestatic 90, 3, 142, 2, 7, []), (237, .ldc 23, 2, 3, 0, 0, []), (239, .if_icmp .ne 103, 3, 0, 0, 0, []), (242, .aload_n 0, 1, 0, 0, 0, []), (243, .iconst (-1), 1, 0, 0, 0, []), (244, .invokestatic 108, 3, 143, 2, 7, []), (247, .ldc 23, 2, 3, 0, 0, []), (249, .if_icmp .ne 93, 3, 0, 0, 0, []), (252, .aload_n 0, 1, 0, 0, 0, []), (253, .iconst 0, 1, 0, 0, 0, []), (254, .invokestatic 110, 3, 144, 2, 7, []), (257, .ldc 17, 2, 2, 0, 0, []), (259, .if_icmp .ne 83, 3, 0, 0, 0, []), (262, .aload_n 0, 1, 0, 0, 0, []), (263, .bipush 51, 2, 0, 0, 0, []), (265, .invokestatic 112, 3, 145, 2, 7, []), (268, .ldc 17, 2, 2, 0, 0, []), (270, .if_icmp .ne 72, 3, 0, 0, 0, []), (273, .aload_n 0, 1, 0, 0, 0, []), (274, .iconst (-1), 1, 0, 0, 0, []), (275, .invokestatic 114, 3, 146, 2, 7, []), (278, .ldc 23, 2, 3, 0, 0, []), (280, .if_icmp .ne 62, 3, 0, 0, 0, []), (283, .aload_n 0, 1, 0, 0, 0, []), (284, .sipush 128, 3, 0, 0, 0, []), (287, .invokestatic 116, 3, 147, 2, 7, []), (290, .ldc 17, 2, 2, 0, 0, []), (292, .if_icmp .ne 50, 3, 0, 0, 0, []), (295, .aload_n 0, 1, 0, 0, 0, []), (296, .invokevirtual 118, 3, 102, 1, 0, []), (299, .ifCond .lt 43, 3, 0, 0, 0, []), (302, .aload_n 0, 1, 0, 0, 0, []), (303, .invokestatic 121, 3, 134, 1, 7, []), (306, .ldc 30, 2, 4, 0, 0, []), (308, .if_icmp .ne 34, 3, 0, 0, 0, []), (311, .aload_n 0, 1, 0, 0, 0, []), (312, .bipush 65, 2, 0, 0, 0, []), (314, .invokestatic 116, 3, 147, 2, 7, []), (317, .iconst 1, 1, 0, 0, 0, []), (318, .if_icmp .ne 24, 3, 0, 0, 0, []), (321, .aload_n 0, 1, 0, 0, 0, []), (322, .invokestatic 121, 3, 134, 1, 7, []), (325, .ldc 30, 2, 4, 0, 0, []), (327, .if_icmp .ne 15, 3, 0, 0, 0, []), (330, .aload_n 0, 1, 0, 0, 0, []), (331, .invokevirtual 118, 3, 102, 1, 0, []), (334, .iconst 1, 1, 0, 0, 0, []), (335, .if_icmp .ne 7, 3, 0, 0, 0, []), (338, .iconst 1, 1, 0, 0, 0, []), (339, .goto 4, 3, 0, 0, 0, []), (342, .iconst 0, 1, 0, 0, 0, []), (343, .istore 5, 2, 0, 0, 0, []), (345, .iload 5, 2, 0, 0, 0, []), (347, .ifCond .eq 16, 3, 0, 0, 0, []), (350, .aload_n 0, 1, 0, 0, 0, []), (351, .invokestatic 94, 3, 149, 1, 2, []), (354, .lload_n 1, 1, 0, 0, 0, []), (355, .lcmp, 1, 0, 0, 0, []), (356, .ifCond .ne 7, 3, 0, 0, 0, []), (359, .iconst 1, 1, 0, 0, 0, []), (360, .goto 4, 3, 0, 0, 0, []), (363, .iconst 0, 1, 0, 0, 0, []), (364, .ireturn, 1, 0, 0, 0, [])]
def cd_151 : List (Nat × Instr × Nat × Nat × Nat × Nat × List Nat) := [(0, .aload_n 0, 1, 0, 0, 0, []), (1, .bipush 6, 2, 0, 0, 0, []), (3, .invokestatic 79, 3, 137, 2, 7, []), (6, .istore_n 1, 1, 0, 0, 0, []), (7, .aload_n 0, 1, 0, 0, 0, []), (8, .iconst 0, 1, 0, 0, 0, []), (9, .invokestatic 79, 3, 137, 2, 7, []), (12, .istore_n 2, 1, 0, 0, 0, []), (13, .iconst 0, 1, 0, 0, 0, []), (14, .istore_n 3, 1, 0, 0, 0, []), (15, .iconst 0, 1, 0, 0, 0, []), (16, .istore 4, 2, 0, 0, 0, []), (18, .bipush 49, 2, 0, 0, 0, []), (20, .newarray .int, 2, 0, 0, 0, []), (22, .astore 5, 2, 0, 0, 0, []), (24, .iload_n 1, 1, 0, 0, 0, []), (25, .iconst 2, 1, 0, 0, 0, []), (26, .iload_n 2, 1, 0, 0, 0, []), (27, .aload_n 0, 1, 0, 0, 0, []), (28, .iconst 1, 1, 0, 0, 0, []), (29, .invokestatic 79, 3, 137, 2, 7, []), (32, .iadd, 1, 0, 0, 0, []), (33, .imul, 1, 0, 0, 0, []), (34, .if_icmp .ne 7, 3, 0, 0, 0, []), (37, .iconst 1, 1, 0, 0, 0, []), (38, .goto 4, 3, 0, 0, 0, []), (41, .iconst 0, 1, 0, 0, 0, []), (42, .istore 6, 2, 0, 0, 0, []), (44, .iconst 0, 1, 0, 0, 0, []), (45, .istore 7, 2, 0, 0, 0, []), (47, .iload 7, 2, 0, 0, 0, [8, 9, 10, 11, 12, 13, 14, 15, 16, 17, 18, 19]), (49, .iload_n 1, 1, 0, 0, 0, []), (50, .if_icmp .ge 554, 3, 0, 0, 0, []), (53, .iload 6, 2, 0, 0, 0, []), (55, .ifCond .eq 549, 3, 0, 0, 0, []), (58, .aload_n 0, 1, 0, 0, 0, []), (59, .iload 7, 2, 0, 0, 0, []), (61, .iconst 1, 1, 0, 0, 0, []), (62, .invokestatic 88, 3, 139, 3, 7, []), (65, .istore 8, 2, 0, 0, 0, []), (67, .aload_n 0, 1, 0, 0, 0, []), (68, .iload 7, 2, 0, 0, 0, []), (70, .iconst 3, 1, 0, 0, 0, []), (71, .invokestatic 88, 3, 139, 3, 7, []), (74, .istore 9, 2, 0, 0, 0, []), (76, .iconst 0, 1, 0, 0, 0, []), (77, .istore 10, 2, 0, 0, 0, []), (79, .iconst 0, 1, 0, 0, 0, []), (80, .istore 11, 2, 0, 0, 0, []), (82, .lconst 0, 1, 0, 0, 0, []), (83, .lstore 12, 2, 0, 0, 0, []), (85, .iconst 0, 1, 0, 0, 0, []), (86, .istore 14, 2, 0, 0, 0, []), (88, .aload_n 0, 1, 0, 0, 0, []), (89, .iload 7, 2, 0, 0, 0, []), (91, .iconst 0, 1, 0, 0, 0, []), (92, .invokestatic 88, 3, 139, 3, 7, []), (95, .iload 7, 2, 0, 0, 0, []), (97, .if_icmp .ne 7, 3, 0, 0, 0, []), (100, .iconst 1, 1, 0, 0, 0, []), (101, .goto 4, 3, 0, 0, 0, []), (104, .iconst 0, 1, 0, 0, 0, []), (105, .istore 15, 2, 0, 0, 0, []), (107, .iload_n 3, 1, 0, 0, 0, []), (108, .iload 15, 2, 0, 0, 0, []), (110, .ifCond .eq 7, 3, 0, 0, 0, []), (113, .iconst 1, 1, 0, 0, 0, []), (114, .goto 4, 3, 0, 0, 0, []), (117, .iconst 0, 1, 0, 0, 0, []), (118, .iadd, 1, 0, 0, 0, []), (119, .istore_n 3, 1, 0, 0, 0, []), (120, .iload 4, 2, 0, 0, 0, []), (122, .iload 15, 2, 0, 0, 0, []), (124, .ifCond .eq 14, 3, 0, 0, 0, []), (127, .aload_n 0, 1, 0, 0, 0, []), (128, .iload 7, 2, 0, 0, 0, []), (130, .bipush 6, 2, 0, 0, 0, []), (132, .invokestatic 88, 3, 139, 3, 7, []), (135, .goto 4, 3, 0, 0, 0, []), (138, .iconst 0, 1, 0, 0, 0, []), (139, .iadd, 1, 0, 0, 0, []), (140, .istore 4, 2, 0, 0, 0, []), (142, .iload 9, 2, 0, 0, 0, []), (144, .ifCond .le 147, 3, 0, 0, 0, []), (147, .iload 15, 2, 0, 0, 0, []), (149, .iload 8, 2, 0, 0, 0, []), (151, .iconst (-1), 1, 0, 0, 0, []), (152, .if_icmp .eq 10, 3, 0, 0, 0, []), (155, .iload 7, 2, 0, 0, 0, []), (157, .iload 8, 2, 0, 0, 0, []), (159, .if_icmp .gt 7, 3, 0, 0, 0, []), (162, .iconst 1, 1, 0, 0, 0, []), (163, .goto 4, 3, 0, 0, 0, []), (166, .iconst 0, 1, 0, 0, 0, []), (167, .if_icmp .ne 124, 3, 0, 0, 0, []), (170, .iload 15, 2, 0, 0, 0, []), (172, .ifCond .ne 15, 3, 0, 0, 0, []), (175, .aload_n 0, 1, 0, 0, 0, []), (176, .iload 7, 2, 0, 0, 0, []), (178, .iconst 0, 1, 0, 0, 0, []), (179, .invokestatic 88, 3, 139, 3, 7, []), (182, .iload 8, 2, 0, 0, 0, []), (184, .if_icmp .ne 107, 3, 0, 0, 0, []), (187, .iload 8, 2, 0, 0, 0, []), (189, .iconst (-1), 1, 0, 0, 0, []), (190, .if_icmp .ne 23, 3, 0, 0, 0, []), (193, .aload_n 0, 1, 0, 0, 0, []), (194, .aload_n 0, 1, 0, 0, 0, []), (195, .iload 7, 2, 0, 0, 0, []), (197, .iconst 2, 1, 0, 0, 0, []), (198, .invokestatic 88, 3, 139, 3, 7, []), (201, .iconst 0, 1, 0, 0, 0, []), (202, .invokestatic 84, 3, 136, 3, 7, []), (205, .bipush 35, 2, 0, 0, 0, []), (207, .if_icmp .ne 84, 3, 0, 0, 0, []), (210, .goto 44, 3, 0, 0, 0, []), (213, .aload_n 0, 1, 0, 0, 0, []), (214, .iload 8, 2, 0, 0, 0, []), (216, .iconst 1, 1, 0, 0, 0, []), (217, .invokestatic 88, 3, 139, 3, 7, []), (220, .iload 7, 2, 0, 0, 0, []), (222, .if_icmp .ne 69, 3, 0, 0, 0, []), (225, .aload_n 0, 1, 0, 0, 0, []), (226, .iload 8, 2, 0, 0, 0, []), (228, .iconst 3, 1, 0, 0, 0, []), (229, .invokestatic 88, 3, 139, 3, 7, []), (232, .iload 9, 2, 0, 0, 0, []), (234, .if_icmp .ne 57, 3, 0, 0, 0, []), (237, .aload_n 0, 1, 0, 0, 0, []), (238, .iload 8, 2, 0, 0, 0, []), (240, .iconst 4, 1, 0, 0, 0, []), (241, .invokestatic 88, 3, 139, 3, 7, []), (244, .aload_n 0, 1, 0, 0, 0, []), (245, .iload 7, 2, 0, 0, 0, []), (247, .iconst 4, 1, 0, 0, 0, []), (248, .invokestatic 88, 3, 139, 3, 7, []), (251, .if_icmp .ne 40, 3, 0, 0, 0, []), (254, .aload_n 0, 1, 0, 0, 0, []), (255, .iload 7, 2, 0, 0, 0, []), (257, .iload 9, 2, 0, 0, 0, []), (259, .invokestatic 104, 3, 140, 3, 7, []), (262, .ldc 23, 2, 3, 0, 0, []), (264, .if_icmp .ne 27, 3, 0, 0, 0, []), (267, .aload_n 0, 1, 0, 0, 0, []), (268, .iload 7, 2, 0, 0, 0, []), (270, .iconst 2, 1, 0, 0, 0, []), (271, .invokestatic 88, 3, 139, 3, 7, []), (274, .aload_n 0, 1, 0, 0, 0, []), (275, .iload 7, 2, 0, 0, 0, []), (277, .iload 9, 2, 0, 0, 0, []), (279, .iconst 1, 1, 0, 0, 0, []), (280, .isub, 1, 0, 0, 0, []), (281, .invokestatic 104, 3, 140, 3, 7, []), (284, .if_icmp .ne 7, 3, 0, 0, 0, []), (287, .iconst 1, 1, 0, 0, 0, []), (288, .goto 4, 3, 0, 0, 0, []), (291, .iconst 0, 1, 0, 0, 0, []), (292, .istore 6, 2, 0, 0, 0, []), (294, .iconst 0, 1, 0, 0, 0, []), (295, .istore 16, 2, 0, 0, 0, []), (297, .iload 16, 2, 0, 0, 0, [13, 17, 18, 19]), (299, .iload 9, 2, 0, 0, 0, []), (301, .if_icmp .ge 231, 3, 0, 0, 0, []), (304, .iload 6, 2, 0, 0, 0, []), (306, .ifCond .eq 226, 3, 0, 0, 0, []), (309, .aload_n 0, 1, 0, 0, 0, []), (310, .iload 7, 2, 0, 0, 0, []), (312, .iload 16, 2, 0, 0, 0, []), (314, .invokestatic 104, 3, 140, 3, 7, []), (317, .istore 17, 2, 0, 0, 0, []), (319, .aload_n 0, 1, 0, 0, 0, []), (320, .iload 17, 2, 0, 0, 0, []), (322, .iconst 0, 1, 0, 0, 0, []), (323, .invokestatic 84, 3, 136, 3, 7, []), (326, .istore 18, 2, 0, 0, 0, []), (328, .iload 16, 2, 0, 0, 0, []), (330, .ifCond .ne 7, 3, 0, 0, 0, []), (333, .iconst 1, 1, 0, 0, 0, []), (334, .goto 16, 3, 0, 0, 0, []), (337, .iload 17, 2, 0, 0, 0, []), (339, .aload_n 0, 1, 0, 0, 0, []), (340, .iload 7, 2, 0, 0, 0, []), (342, .iload 16, 2, 0, 0, 0, []), (344, .iconst 1, 1, 0, 0, 0, []), (345, .isub, 1, 0, 0, 0, []), (346, .invokestatic 104, 3, 140, 3, 7, []), (349, .isub, 1, 0, 0, 0, []), (350, .istore 19, 2, 0, 0, 0, []), (352, .iload 14, 2, 0, 0, 0, []), (354, .ifCond .ne 15, 3, 0, 0, 0, []), (357, .lload 12, 2, 0, 0, 0, []), (359, .iload 17, 2, 0, 0, 0, []), (361, .lshr, 1, 0, 0, 0, []), (362, .lconst 1, 1, 0, 0, 0, []), (363, .land, 1, 0, 0, 0, []), (364, .lconst 1, 1, 0, 0, 0, []), (365, .lcmp, 1, 0, 0, 0, []), (366, .ifCond .ne 7, 3, 0, 0, 0, []), (369, .iconst 1, 1, 0, 0, 0, []), (370, .goto 4, 3, 0, 0, 0, []), (373, .iconst 0, 1, 0, 0, 0, []), (374, .istore 14, 2, 0, 0, 0, []), (376, .lload 12, 2, 0, 0, 0, []), (378, .lconst 1, 1, 0, 0, 0, []), (379, .iload 17, 2, 0, 0, 0, []), (381, .lshl, 1, 0, 0, 0, []), (382, .lor, 1, 0, 0, 0, []), (383, .lstore 12, 2, 0, 0, 0, []), (385, .iload 10, 2, 0, 0, 0, []), (387, .iload 18, 2, 0, 0, 0, []), (389, .bipush 47, 2, 0, 0, 0, []), (391, .if_icmp .eq 10, 3, 0, 0, 0, []), (394, .iload 18, 2, 0, 0, 0, []), (396, .bipush 92, 2, 0, 0, 0, []), (398, .if_icmp .ne 7, 3, 0, 0, 0, []), (401, .iconst 1, 1, 0, 0, 0, []), (402, .goto 4, 3, 0, 0, 0, []), (405, .iconst 0, 1, 0, 0, 0, []), (406, .iadd, 1, 0, 0, 0, []), (407, .istore 10, 2, 0, 0, 0, []), (409, .iload 11, 2, 0, 0, 0, []), (411, .aload_n 0, 1, 0, 0, 0, []), (412, .iload 17, 2, 0, 0, 0, []), (414, .iconst 4, 1, 0, 0, 0, []), (415, .invokestatic 84, 3, 136, 3, 7, []), (418, .iconst (-1), 1, 0, 0, 0, []), (419, .if_icmp .ne 7, 3, 0, 0, 0, []), (422, .iconst 0, 1, 0, 0, 0, []), (423, .goto 4, 3, 0, 0, 0, []), (426, .iconst 1, 1, 0, 0, 0, []), (427, .iadd, 1, 0, 0, 0, []), (428, .istore 11, 2, 0, 0, 0, []), (430, .aload 5, 2, 0, 0, 0, []), (432, .iload 17, 2, 0, 0, 0, []), (434, .dup2, 1, 0, 0, 0, []), (435, .iaload, 1, 0, 0, 0, []), (436, .iload 15, 2, 0, 0, 0, []), (438, .ifCond .eq 7, 3, 0, 0, 0, []), (441, .iconst 1, 1, 0, 0, 0, []), (442, .goto 4, 3, 0, 0, 0, []), (445, .iconst 0, 1, 0, 0, 0, []), (446, .iadd, 1, 0, 0, 0, []), (447, .iastore, 1, 0, 0, 0, []), (448, .iload 19, 2, 0, 0, 0, []), (450, .iconst 1, 1, 0, 0, 0, []), (451, .if_icmp .eq 22, 3, 0, 0, 0, []), (454, .iload 19, 2, 0, 0, 0, []), (456, .iconst (-1), 1, 0, 0, 0, []), (457, .if_icmp .eq 16, 3, 0, 0, 0, []), (460, .iload 19, 2, 0, 0, 0, []), (462, .iload_n 2, 1, 0, 0, 0, []), (463, .if_icmp .eq 10, 3, 0, 0, 0, []), (466, .iload 19, 2, 0, 0, 0, []), (468, .iload_n 2, 1, 0, 0, 0, []), (469, .ineg, 1, 0, 0, 0, []), (470, .if_icmp .ne 53, 3, 0, 0, 0, []), (473, .iload 18, 2, 0, 0, 0, []), (475, .bipush 35, 2, 0, 0, 0, []), (477, .if_icmp .ne 18, 3, 0, 0, 0, []), (480, .iload 16, 2, 0, 0, 0, []), (482, .iload 9, 2, 0, 0, 0, []), (484, .iconst 1, 1, 0, 0, 0, []), (485, .isub, 1, 0, 0, 0, []), (486, .if_icmp .ne 37, 3, 0, 0, 0, []), (489, .iload 8, 2, 0, 0, 0, []), (491, .iconst (-1), 1, 0, 0, 0, []), (492, .if_icmp .ne 31, 3, 0, 0, 0, []), (495, .iload 8, 2, 0, 0, 0, []), (497, .iconst (-1), 1, 0, 0, 0, []), (498, .if_icmp .eq 21, 3, 0, 0, 0, []), (501, .aload_n 0, 1, 0, 0, 0, []), (502, .iload 8, 2, 0, 0, 0, []), (504, .iload 9, 2, 0, 0, 0, []), (506, .iconst 1, 1, 0, 0, 0, []), (507, .isub, 1, 0, 0, 0, []), (508, .iload 16, 2, 0, 0, 0, []), (510, .isub, 1, 0, 0, 0, []), (511, .invokestatic 104, 3, 140, 3, 7, []), (514, .iload 17, 2, 0, 0, 0, []), (516, .if_icmp .ne 7, 3, 0, 0, 0, []), (519, .iconst 1, 1, 0, 0, 0, []), (520, .goto 4, 3, 0, 0, 0, []), (523, .iconst 0, 1, 0, 0, 0, []), (524, .istore 6, 2, 0, 0, 0, []), (526, .iinc 16 1, 3, 0, 0, 0, []), (529, .goto (-232), 3, 0, 0, 0, []), (532, .iload 6, 2, 0, 0, 0, []), (534, .ifCond .eq 61, 3, 0, 0, 0, []), (537, .iload 10, 2, 0, 0, 0, []), (539, .aload_n 0, 1, 0, 0, 0, []), (540, .iload 7, 2, 0, 0, 0, []), (542, .iconst 4, 1, 0, 0, 0, []), (543, .invokestatic 88, 3, 139, 3, 7, []), (546, .if_icmp .ne 49, 3, 0, 0, 0, []), (549, .iload 11, 2, 0, 0, 0, []), (551, .aload_n 0, 1, 0, 0, 0, []), (552, .iload 7, 2, 0, 0, 0, []), (554, .iconst 5, 1, 0, 0, 0, []), (555, .invokestatic 88, 3, 139, 3, 7, []), (558, .if_icmp .ne 37, 3, 0, 0, 0, []), (561, .aload_n 0, 1, 0, 0, 0, []), (562, .iload 7, 2, 0, 0, 0, []), (564, .bipush 6, 2, 0, 0, 0, []), (566, .invokestatic 88, 3, 139, 3, 7, []), (569, .iload 14, 2, 0, 0, 0, []), (571, .ifCond .eq 7, 3, 0, 0, 0, []), (574, .iconst 1, 1, 0, 0, 0, []), (575, .goto 4, 3, 0, 0, 0, []), (578, .iconst 0, 1, 0, 0, 0, []), (579, .if_icmp .ne 16, 3, 0, 0, 0, []), (582, .aload_n 0, 1, 0, 0, 0, []), (583, .iload 7, 2, 0, 0, 0, []), (585, .invokestatic 124, 3, 152, 2, 2, []), (588, .ifCond .eq 7, 3, 0, 0, 0, []), (591, .iconst 1, 1, 0, 0, 0, []), (592, .goto 4, 3, 0, 0, 0, []), (595, .iconst 0, 1, 0, 0, 0, []), (596, .istore 6, 2, 0, 0, 0, []), (598, .iinc 7 1, 3, 0, 0, 0, []), (601, .goto (-554), 3, 0, 0, 0, []), (604, .iconst 0, 1, 0, 0, 0, []), (605, .istore 7, 2, 0, 0, 0, []), (607, .iload 7, 2, 0, 0, 0, [1, 8, 9, 10, 11, 12, 13, 14, 15, 16, 17, 18, 19]), (609, .iload_n 2, 1, 0, 0, 0, []), (610, .aload_n 0, 1, 0, 0, 0, []), (611, .iconst 1, 1, 0, 0, 0, []), (612, .invokestatic 79, 3, 137, 2, 7, []), (615, .imul, 1, 0, 0, 0, []), (616, .if_icmp .ge 132, 3, 0, 0, 0, []), (619, .iload 6, 2, 0, 0, 0, []), (621, .ifCond .eq 127, 3, 0, 0, 0, []), (624, .aload_n 0, 1, 0, 0, 0, []), (625, .iload 7, 2, 0, 0, 0, []), (627, .iconst 1, 1, 0, 0, 0, []), (628, .invokestatic 84, 3, 136, 3, 7, []), (631, .istore 8, 2, 0, 0, 0, []), (633, .aload_n 0, 1, 0, 0, 0, []), (634, .iload 7, 2, 0, 0, 0, []), (636, .iconst 2, 1, 0, 0, 0, []), (637, .invokestatic 84, 3, 136, 3, 7, []), (640, .istore 9, 2, 0, 0, 0, []), (642, .aload_n 0, 1, 0, 0, 0, []), (643, .iload 7, 2, 0, 0, 0, []), (645, .iconst 3, 1, 0, 0, 0, []), (646, .invokestatic 84, 3, 136, 3, 7, []), (649, .aload 5, 2, 0, 0, 0, []), (651, .iload 7, 2, 0, 0, 0, []), (653, .iaload, 1, 0, 0, 0, []), (654, .if_icmp .ne 85, 3, 0, 0, 0, []), (657, .aload 5, 2, 0, 0, 0, []), (659, .iload 7, 2, 0, 0, 0, []), (661, .iaload, 1, 0, 0, 0, []), (662, .iconst 4, 1, 0, 0, 0, []), (663, .if_icmp .gt 76, 3, 0, 0, 0, []), (666, .iload 8, 2, 0, 0, 0, []), (668, .iconst (-1), 1, 0, 0, 0, []), (669, .if_icmp .eq 15, 3, 0, 0, 0, []), (672, .aload_n 0, 1, 0, 0, 0, []), (673, .iload 8, 2, 0, 0, 0, []), (675, .iconst 0, 1, 0, 0, 0, []), (676, .invokestatic 88, 3, 139, 3, 7, []), (679, .iload 8, 2, 0, 0, 0, []), (681, .if_icmp .ne 58, 3, 0, 0, 0, []), (684, .iload 9, 2, 0, 0, 0, []), (686, .iconst (-1), 1, 0, 0, 0, []), (687, .if_icmp .eq 15, 3, 0, 0, 0, []), (690, .aload_n 0, 1, 0, 0, 0, []), (691, .iload 9, 2, 0, 0, 0, []), (693, .iconst 0, 1, 0, 0, 0, []), (694, .invokestatic 88, 3, 139, 3, 7, []), (697, .iload 9, 2, 0, 0, 0, []), (699, .if_icmp .ne 40, 3, 0, 0, 0, []), (702, .aload 5, 2, 0, 0, 0, []), (704, .iload 7, 2, 0, 0, 0, []), (706, .iaload, 1, 0, 0, 0, []), (707, .ifCond .le 7, 3, 0, 0, 0, []), (710, .iconst 1, 1, 0, 0, 0, []), (711, .goto 4, 3, 0, 0, 0, []), (714, .iconst 0, 1, 0, 0, 0, []), (715, .iload 8, 2, 0, 0, 0, []), (717, .iconst (-1), 1, 0, 0, 0, []), (718, .if_icmp .ne 9, 3, 0, 0, 0, []), (721, .iload 9, 2, 0, 0, 0, []), (723, .iconst (-1), 1, 0, 0, 0, []), (724, .if_icmp .eq 7, 3, 0, 0, 0, []), (727, .iconst 1, 1, 0, 0, 0, []), (728, .goto 4, 3, 0, 0, 0, []), (731, .iconst 0, 1, 0, 0, 0, []), (732, .if_icmp .ne 7, 3, 0, 0, 0, []), (735, .iconst 1, 1, 0, 0, 0, []), (736, .goto 4, 3, 0, 0, 0, []), (739, .iconst 0, 1, 0, 0, 0, []), (740, .istore 6, 2, 0, 0, 0, []), (742, .iinc 7 1, 3, 0, 0, 0, []), (745, .goto (-138), 3, 0, 0, 0, []), (748, .iload 6, 2, 0, 0, 0, []), (750, .ifCond .eq 28, 3, 0, 0, 0, []), (753, .iload_n 3, 1, 0, 0, 0, []), (754, .aload_n 0, 1, 0, 0, 0, []), (755, .bipush 7, 2, 0, 0, 0, []), (757, .invokestatic 79, 3, 137, 2, 7, []), (760, .if_icmp .ne 18, 3, 0, 0, 0, []), (763, .iload 4, 2, 0, 0, 0, []), (765, .aload_n 0, 1, 0, 0, 0, []), (766, .bipush 8, 2, 0, 0, 0, []), (768, .invokestatic 79, 3, 137, 2, 7, []), (771, .if_icmp .ne 7, 3, 0, 0, 0, []), (774, .iconst 1, 1, 0, 0, 0, []), (775, .goto 4, 3, 0, 0, 0, []), (778, .iconst 0, 1, 0, 0, 0, []), (779, .ireturn, 1, 0, 0, 0, [])]
def cd_152 : List (Nat × Instr × Nat × Nat × Nat × Nat × List Nat) := [(0, .iconst 0, 1, 0, 0, 0, []), (1, .istore_n 2, 1, 0, 0, 0, []), (2, .iconst 0, 1, 0, 0, 0, []), (3, .istore_n 3, 1, 0, 0, 0, []), (4, .iconst 1, 1, 0, 0, 0, []), (5, .istore 4, 2, 0, 0, 0, []), (7, .iconst 0, 1, 0, 0, 0, []), (8, .istore 5, 2, 0, 0, 0, []), (10, .iload 5, 2, 0, 0, 0, [6, 7, 8]), (12, .aload_n 0, 1, 0, 0, 0, []), (13, .iload_n 1, 1, 0, 0, 0, []), (14, .iconst 3, 1, 0, 0, 0, []), (15, .invokestatic 88, 3, 139, 3, 7, []), (18, .if_icmp .ge 173, 3, 0, 0, 0, []), (21, .iload 4, 2, 0, 0, 0, []), (23, .ifCond .eq 168, 3, 0, 0, 0, []), (26, .aload_n 0, 1, 0, 0, 0, []), (27, .iload_n 1, 1, 0, 0, 0, []), (28, .iload 5, 2, 0, 0, 0, []), (30, .invokestatic 104, 3, 140, 3, 7, []), (33, .istore 6, 2, 0, 0, 0, []), (35, .aload_n 0, 1, 0, 0, 0, []), (36, .iload 6, 2, 0, 0, 0, []), (38, .iconst 0, 1, 0, 0, 0, []), (39, .invokestatic 84, 3, 136, 3, 7, []), (42, .istore 7, 2, 0, 0, 0, []), (44, .aload_n 0, 1, 0, 0, 0, []), (45, .iload 6, 2, 0, 0, 0, []), (47, .iconst 4, 1, 0, 0, 0, []), (48, .invokestatic 84, 3, 136, 3, 7, []), (51, .istore 8, 2, 0, 0, 0, []), (53, .iload_n 3, 1, 0, 0, 0, []), (54, .ifCond .ne 10, 3, 0, 0, 0, []), (57, .iload 7, 2, 0, 0, 0, []), (59, .bipush 58, 2, 0, 0, 0, []), (61, .if_icmp .ne 7, 3, 0, 0, 0, []), (64, .iconst 1, 1, 0, 0, 0, []), (65, .goto 4, 3, 0, 0, 0, []), (68, .iconst 0, 1, 0, 0, 0, []), (69, .istore_n 3, 1, 0, 0, 0, []), (70, .iload 8, 2, 0, 0, 0, []), (72, .iconst (-1), 1, 0, 0, 0, []), (73, .if_icmp .eq 112, 3, 0, 0, 0, []), (76, .iload_n 3, 1, 0, 0, 0, []), (77, .ifCond .eq 28, 3, 0, 0, 0, []), (80, .iload_n 2, 1, 0, 0, 0, []), (81, .ifCond .le 24, 3, 0, 0, 0, []), (84, .aload_n 0, 1, 0, 0, 0, []), (85, .iload_n 1, 1, 0, 0, 0, []), (86, .iload_n 2, 1, 0, 0, 0, []), (87, .invokestatic 106, 3, 141, 3, 7, []), (90, .bipush 32, 2, 0, 0, 0, []), (92, .if_icmp .ne 7, 3, 0, 0, 0, []), (95, .iconst 1, 1, 0, 0, 0, []), (96, .goto 4, 3, 0, 0, 0, []), (99, .iconst 0, 1, 0, 0, 0, []), (100, .istore 4, 2, 0, 0, 0, []), (102, .iinc 2 1, 3, 0, 0, 0, []), (105, .iconst 0, 1, 0, 0, 0, []), (106, .istore_n 3, 1, 0, 0, 0, []), (107, .iload 4, 2, 0, 0, 0, []), (109, .ifCond .eq 21, 3, 0, 0, 0, []), (112, .aload_n 0, 1, 0, 0, 0, []), (113, .iload_n 1, 1, 0, 0, 0, []), (114, .iload_n 2, 1, 0, 0, 0, []), (115, .invokestatic 106, 3, 141, 3, 7, []), (118, .bipush 97, 2, 0, 0, 0, []), (120, .iload 8, 2, 0, 0, 0, []), (122, .iadd, 1, 0, 0, 0, []), (123, .if_icmp .ne 7, 3, 0, 0, 0, []), (126, .iconst 1, 1, 0, 0, 0, []), (127, .goto 4, 3, 0, 0, 0, []), (130, .iconst 0, 1, 0, 0, 0, []), (131, .istore 4, 2, 0, 0, 0, []), (133, .iinc 2 1, 3, 0, 0, 0, []), (136, .iload 7, 2, 0, 0, 0, []), (138, .bipush 97, 2, 0, 0, 0, []), (140, .if_icmp .ge 45, 3, 0, 0, 0, []), (143, .iload 4, 2, 0, 0, 0, []), (145, .ifCond .eq 34, 3, 0, 0, 0, []), (148, .aload_n 0, 1, 0, 0, 0, []), (149, .iload_n 1, 1, 0, 0, 0, []), (150, .iload_n 2, 1, 0, 0, 0, []), (151, .invokestatic 106, 3, 141, 3, 7, []), (154, .bipush 32, 2, 0, 0, 0, []), (156, .if_icmp .ne 23, 3, 0, 0, 0, []), (159, .aload_n 0, 1, 0, 0, 0, []), (160, .iload_n 1, 1, 0, 0, 0, []), (161, .iload_n 2, 1, 0, 0, 0, []), (162, .iconst 1, 1, 0, 0, 0, []), (163, .iadd, 1, 0, 0, 0, []), (164, .invokestatic 106, 3, 141, 3, 7, []), (167, .bipush 97, 2, 0, 0, 0, []), (169, .iload 8, 2, 0, 0, 0, []), (171, .iadd, 1, 0, 0, 0, []), (172, .if_icmp .ne 7, 3, 0, 0, 0, []), (175, .iconst 1, 1, 0, 0, 0, []), (176, .goto 4, 3, 0, 0, 0, []), (179, .iconst 0, 1, 0, 0, 0, []), (180, .istore 4, 2, 0, 0, 0, []), (182, .iinc 2 2, 3, 0, 0, 0, []), (185, .iinc 5 1, 3, 0, 0, 0, []), (188, .goto (-178), 3, 0, 0, 0, []), (191, .iload 4, 2, 0, 0, 0, []), (193, .ifCond .eq 25, 3, 0, 0, 0, []), (196, .aload_n 0, 1, 0, 0, 0, []), (197, .iload_n 1, 1, 0, 0, 0, []), (198, .iload_n 2, 1, 0, 0, 0, []), (199, .invokestatic 106, 3, 141, 3, 7, []), (202, .iconst (-1), 1, 0, 0, 0, []), (203, .if_icmp .ne 15, 3, 0, 0, 0, []), (206, .aload_n 0, 1, 0, 0, 0, []), (207, .iload_n 1, 1, 0, 0, 0, []), (208, .invokestatic 128, 3, 154, 2, 2, []), (211, .ifCond .eq 7, 3, 0, 0, 0, []), (214, .iconst 1, 1, 0, 0, 0, []), (215, .goto 4, 3, 0, 0, 0, []), (218, .iconst 0, 1, 0, 0, 0, []), (219, .ireturn, 1, 0, 0, 0, [])]
def cd_153 : List (Nat × Instr × Nat × Nat × Nat × Nat × List Nat) := [(0, .iconst 0, 1, 0, 0, 0, []), (1, .istore 4, 2, 0, 0, 0, []), (3, .iconst 0, 1, 0, 0, 0, []), (4, .istore 5, 2, 0, 0, 0, []), (6, .iload 5, 2, 0, 0, 0, [6, 7, 8]), (8, .aload_n 0, 1, 0, 0, 0, []), (9, .bipush 9, 2, 0, 0, 0, []), (11, .invokestatic 79, 3, 137, 2, 7, []), (14, .if_icmp .ge 108, 3, 0, 0, 0, []), (17, .iload_n 3, 1, 0, 0, 0, []), (18, .iload_n 2, 1, 0, 0, 0, []), (19, .isub, 1, 0, 0, 0, []), (20, .bipush 9, 2, 0, 0, 0, []), (22, .if_icmp .ge 7, 3, 0, 0, 0, []), (25, .iconst 1, 1, 0, 0, 0, []), (26, .goto 4, 3, 0, 0, 0, []), (29, .iconst 0, 1, 0, 0, 0, []), (30, .istore 6, 2, 0, 0, 0, []), (32, .iconst 0, 1, 0, 0, 0, []), (33, .istore 7, 2, 0, 0, 0, []), (35, .iload 7, 2, 0, 0, 0, [8]), (37, .bipush 8, 2, 0, 0, 0, []), (39, .if_icmp .ge 60, 3, 0, 0, 0, []), (42, .iload 6, 2, 0, 0, 0, []), (44, .ifCond .eq 55, 3, 0, 0, 0, []), (47, .aload_n 0, 1, 0, 0, 0, []), (48, .iload 5, 2, 0, 0, 0, []), (50, .iload 7, 2, 0, 0, 0, []), (52, .invokestatic 92, 3, 138, 3, 7, []), (55, .istore 8, 2, 0, 0, 0, []), (57, .iload 8, 2, 0, 0, 0, []), (59, .iload 7, 2, 0, 0, 0, []), (61, .iload_n 3, 1, 0, 0, 0, []), (62, .iload_n 2, 1, 0, 0, 0, []), (63, .isub, 1, 0, 0, 0, []), (64, .if_icmp .ge 18, 3, 0, 0, 0, []), (67, .aload_n 0, 1, 0, 0, 0, []), (68, .iload_n 1, 1, 0, 0, 0, []), (69, .iload_n 2, 1, 0, 0, 0, []), (70, .iload 7, 2, 0, 0, 0, []), (72, .iadd, 1, 0, 0, 0, []), (73, .invokestatic 106, 3, 141, 3, 7, []), (76, .bipush 97, 2, 0, 0, 0, []), (78, .isub, 1, 0, 0, 0, []), (79, .goto 4, 3, 0, 0, 0, []), (82, .iconst (-1), 1, 0, 0, 0, []), (83, .if_icmp .ne 7, 3, 0, 0, 0, []), (86, .iconst 1, 1, 0, 0, 0, []), (87, .goto 4, 3, 0, 0, 0, []), (90, .iconst 0, 1, 0, 0, 0, []), (91, .istore 6, 2, 0, 0, 0, []), (93, .iinc 7 1, 3, 0, 0, 0, []), (96, .goto (-61), 3, 0, 0, 0, []), (99, .iload 4, 2, 0, 0, 0, []), (101, .ifCond .ne 8, 3, 0, 0, 0, []), (104, .iload 6, 2, 0, 0, 0, []), (106, .ifCond .eq 7, 3, 0, 0, 0, []), (109, .iconst 1, 1, 0, 0, 0, []), (110, .goto 4, 3, 0, 0, 0, []), (113, .iconst 0, 1, 0, 0, 0, []), (114, .istore 4, 2, 0, 0, 0, []), (116, .iinc 5 1, 3, 0, 0, 0, []), (119, .goto (-113), 3, 0, 0, 0, []), (122, .iload 4, 2, 0, 0, 0, []), (124, .ireturn, 1, 0, 0, 0, [])]
def cd_154 : List (Nat × Instr × Nat × Nat × Nat × Nat × List Nat) := [(0, .iconst 0, 1, 0, 0, 0, []), (1, .istore_n 2, 1, 0, 0, 0, []), (2, .iconst 0, 1, 0, 0, 0, []), (3, .istore_n 3, 1, 0, 0, 0, []), (4, .iconst 0, 1, 0, 0, 0, []), (5, .istore 4, 2, 0, 0, 0, []), (7, .aload_n 0, 1, 0, 0, 0, [5]), (8, .iload_n 1, 1, 0, 0, 0, []), (9, .iload 4, 2, 0, 0, 0, []), (11, .invokestatic 106, 3, 141, 3, 7, []), (14, .iconst (-1), 1, 0, 0, 0, []), (15, .if_icmp .eq 74, 3, 0, 0, 0, []), (18, .iload 4, 2, 0, 0, 0, []), (20, .istore 5, 2, 0, 0, 0, []), (22, .aload_n 0, 1, 0, 0, 0, []), (23, .iload_n 1, 1, 0, 0, 0, []), (24, .iload 5, 2, 0, 0, 0, []), (26, .invokestatic 106, 3, 141, 3, 7, []), (29, .bipush 32, 2, 0, 0, 0, []), (31, .if_icmp .le 9, 3, 0, 0, 0, []), (34, .iinc 5 1, 3, 0, 0, 0, []), (37, .goto (-15), 3, 0, 0, 0, []), (40, .iinc 2 1, 3, 0, 0, 0, []), (43, .iload_n 3, 1, 0, 0, 0, []), (44, .aload_n 0, 1, 0, 0, 0, []), (45, .iload_n 1, 1, 0, 0, 0, []), (46, .iload 4, 2, 0, 0, 0, []), (48, .iload 5, 2, 0, 0, 0, []), (50, .invokestatic 131, 3, 153, 4, 2, []), (53, .ifCond .eq 7, 3, 0, 0, 0, []), (56, .iconst 1, 1, 0, 0, 0, []), (57, .goto 4, 3, 0, 0, 0, []), (60, .iconst 0, 1, 0, 0, 0, []), (61, .iadd, 1, 0, 0, 0, []), (62, .istore_n 3, 1, 0, 0, 0, []), (63, .aload_n 0, 1, 0, 0, 0, []), (64, .iload_n 1, 1, 0, 0, 0, []), (65, .iload 5, 2, 0, 0, 0, []), (67, .invokestatic 106, 3, 141, 3, 7, []), (70, .bipush 32, 2, 0, 0, 0, []), (72, .if_icmp .ne 10, 3, 0, 0, 0, []), (75, .iload 5, 2, 0, 0, 0, []), (77, .iconst 1, 1, 0, 0, 0, []), (78, .iadd, 1, 0, 0, 0, []), (79, .goto 5, 3, 0, 0, 0, []), (82, .iload 5, 2, 0, 0, 0, []), (84, .istore 4, 2, 0, 0, 0, []), (86, .goto (-79), 3, 0, 0, 0, []), (89, .aload_n 0, 1, 0, 0, 0, []), (90, .iload_n 1, 1, 0, 0, 0, []), (91, .invokestatic 90, 3, 142, 2, 7, []), (94, .iload_n 2, 1, 0, 0, 0, []), (95, .ifCond .le 12, 3, 0, 0, 0, []), (98, .iload_n 3, 1, 0, 0, 0, []), (99, .iload_n 2, 1, 0, 0, 0, []), (100, .if_icmp .ne 7, 3, 0, 0, 0, []), (103, .iload_n 3, 1, 0, 0, 0, []), (104, .goto 6, 3, 0, 0, 0, []), (107, .iconst (-1), 1, 0, 0, 0, []), (108, .iload_n 3, 1, 0, 0, 0, []), (109, .isub, 1, 0, 0, 0, []), (110, .if_icmp .ne 7, 3, 0, 0, 0, []), (113, .iconst 1, 1, 0, 0, 0, []), (114, .goto 4, 3, 0, 0, 0, []), (117, .iconst 0, 1, 0, 0, 0, []), (118, .ireturn, 1, 0, 0, 0, [])]
def cd_155 : List (Nat × Instr × Nat × Nat × Nat × Nat × List Nat) := [(0, .aload_n 0, 1, 0, 0, 0, []), (1, .invokestatic 94, 3, 149, 1, 2, []), (4, .lstore_n 1, 1, 0, 0, 0, []), (5, .aload_n 0, 1, 0, 0, 0, []), (6, .bipush 50, 2, 0, 0, 0, []), (8, .invokestatic 110, 3, 144, 2, 7, []), (11, .istore_n 3, 1, 0, 0, 0, []), (12, .aload_n 0, 1, 0, 0, 0, []), (13, .bipush 50, 2, 0, 0, 0, []), (15, .invokestatic 112, 3, 145, 2, 7, []), (18, .istore 4, 2, 0, 0, 0, []), (20, .aload_n 0, 1, 0, 0, 0, []), (21, .invokevirtual 135, 3, 98, 1, 0, []), (24, .istore 5, 2, 0, 0, 0, []), (26, .lconst 0, 1, 0, 0, 0, []), (27, .lstore 6, 2, 0, 0, 0, []), (29, .iconst 0, 1, 0, 0, 0, []), (30, .istore 8, 2, 0, 0, 0, []), (32, .iconst 0, 1, 0, 0, 0, []), (33, .istore 9, 2, 0, 0, 0, []), (35, .iload_n 3, 1, 0, 0, 0, []), (36, .ifCond .lt 109, 3, 0, 0, 0, []), (39, .iload_n 3, 1, 0, 0, 0, []), (40, .bipush 50, 2, 0, 0, 0, []), (42, .if_icmp .gt 103, 3, 0, 0, 0, []), (45, .aload_n 0, 1, 0, 0, 0, []), (46, .iconst 1, 1, 0, 0, 0, []), (47, .invokestatic 110, 3, 144, 2, 7, []), (50, .iload_n 3, 1, 0, 0, 0, []), (51, .ifCond .le 7, 3, 0, 0, 0, []), (54, .iconst 1, 1, 0, 0, 0, []), (55, .goto 4, 3, 0, 0, 0, []), (58, .iconst 0, 1, 0, 0, 0, []), (59, .if_icmp .ne 86, 3, 0, 0, 0, []), (62, .iload_n 3, 1, 0, 0, 0, []), (63, .ifCond .ne 21, 3, 0, 0, 0, []), (66, .iload 5, 2, 0, 0, 0, []), (68, .iconst (-1), 1, 0, 0, 0, []), (69, .if_icmp .ne 76, 3, 0, 0, 0, []), (72, .aload_n 0, 1, 0, 0, 0, []), (73, .iconst 0, 1, 0, 0, 0, []), (74, .invokestatic 114, 3, 146, 2, 7, []), (77, .iconst (-1), 1, 0, 0, 0, []), (78, .if_icmp .ne 67, 3, 0, 0, 0, []), (81, .goto 21, 3, 0, 0, 0, []), (84, .iload 5, 2, 0, 0, 0, []), (86, .ifCond .lt 59, 3, 0, 0, 0, []), (89, .iload 5, 2, 0, 0, 0, []), (91, .ifCond .gt 11, 3, 0, 0, 0, []), (94, .aload_n 0, 1, 0, 0, 0, []), (95, .iconst 2, 1, 0, 0, 0, []), (96, .invokestatic 79, 3, 137, 2, 7, []), (99, .ifCond .ne 46, 3, 0, 0, 0, []), (102, .iload 4, 2, 0, 0, 0, []), (104, .sipush (-2000), 3, 0, 0, 0, []), (107, .if_icmp .eq 16, 3, 0, 0, 0, []), (110, .iload 4, 2, 0, 0, 0, []), (112, .ifCond .le 33, 3, 0, 0, 0, []), (115, .iload 4, 2, 0, 0, 0, []), (117, .sipush 2000, 3, 0, 0, 0, []), (120, .if_icmp .gt 25, 3, 0, 0, 0, []), (123, .aload_n 0, 1, 0, 0, 0, []), (124, .iconst 3, 1, 0, 0, 0, []), (125, .invokestatic 110, 3, 144, 2, 7, []), (128, .iload_n 3, 1, 0, 0, 0, []), (129, .iconst 3, 1, 0, 0, 0, []), (130, .if_icmp .ge 7, 3, 0, 0, 0, []), (133, .iload_n 3, 1, 0, 0, 0, []), (134, .goto 4, 3, 0, 0, 0, []), (137, .iconst 3, 1, 0, 0, 0, []), (138, .if_icmp .ne 7, 3, 0, 0, 0, []), (141, .iconst 1, 1, 0, 0, 0, []), (142, .goto 4, 3, 0, 0, 0, []), (145, .iconst 0, 1, 0, 0, 0, []), (146, .istore 10, 2, 0, 0, 0, []), (148, .iconst 0, 1, 0, 0, 0, []), (149, .istore 11, 2, 0, 0, 0, []), (151, .iload 11, 2, 0, 0, 0, [2, 4, 7, 12, 13, 14, 15, 16]), (153, .bipush 28, 2, 0, 0, 0, []), (155, .if_icmp .ge 196, 3, 0, 0, 0, []), (158, .iload 10, 2, 0, 0, 0, []), (160, .ifCond .eq 191, 3, 0, 0, 0, []), (163, .aload_n 0, 1, 0, 0, 0, []), (164, .iload 11, 2, 0, 0, 0, []), (166, .invokestatic 114, 3, 146, 2, 7, []), (169, .iconst (-1), 1, 0, 0, 0, []), (170, .if_icmp .eq 181, 3, 0, 0, 0, []), (173, .aload_n 0, 1, 0, 0, 0, []), (174, .iload 11, 2, 0, 0, 0, []), (176, .invokestatic 114, 3, 146, 2, 7, []), (179, .istore 12, 2, 0, 0, 0, []), (181, .iconst 0, 1, 0, 0, 0, []), (182, .istore 13, 2, 0, 0, 0, []), (184, .aload_n 0, 1, 0, 0, 0, []), (185, .iload 12, 2, 0, 0, 0, []), (187, .iconst 0, 1, 0, 0, 0, []), (188, .invokestatic 88, 3, 139, 3, 7, []), (191, .iload 12, 2, 0, 0, 0, []), (193, .if_icmp .ne 18, 3, 0, 0, 0, []), (196, .aload_n 0, 1, 0, 0, 0, []), (197, .iload 12, 2, 0, 0, 0, []), (199, .bipush 6, 2, 0, 0, 0, []), (201, .invokestatic 88, 3, 139, 3, 7, []), (204, .ifCond .ne 7, 3, 0, 0, 0, []), (207, .iconst 1, 1, 0, 0, 0, []), (208, .goto 4, 3, 0, 0, 0, []), (211, .iconst 0, 1, 0, 0, 0, []), (212, .istore 10, 2, 0, 0, 0, []), (214, .iconst 0, 1, 0, 0, 0, []), (215, .istore 14, 2, 0, 0, 0, []), (217, .iload 14, 2, 0, 0, 0, [2, 4, 7, 15, 16]), (219, .aload_n 0, 1, 0, 0, 0, []), (220, .iload 12, 2, 0, 0, 0, []), (222, .iconst 3, 1, 0, 0, 0, []), (223, .invokestatic 88, 3, 139, 3, 7, []), (226, .if_icmp .ge 99, 3, 0, 0, 0, []), (229, .iload 10, 2, 0, 0, 0, []), (231, .ifCond .eq 94, 3, 0, 0, 0, []), (234, .aload_n 0, 1, 0, 0, 0, []), (235, .iload 12, 2, 0, 0, 0, []), (237, .iload 14, 2, 0, 0, 0, []), (239, .invokestatic 104, 3, 140, 3, 7, []), (242, .istore 15, 2, 0, 0, 0, []), (244, .aload_n 0, 1, 0, 0, 0, []), (245, .iload 15, 2, 0, 0, 0, []), (247, .iconst 4, 1, 0, 0, 0, []), (248, .invokestatic 84, 3, 136, 3, 7, []), (251, .iconst (-1), 1, 0, 0, 0, []), (252, .if_icmp .eq 7, 3, 0, 0, 0, []), (255, .iconst 1, 1, 0, 0, 0, []), (256, .goto 4, 3, 0, 0, 0, []), (259, .iconst 0, 1, 0, 0, 0, []), (260, .istore 16, 2, 0, 0, 0, []), (262, .iload 16, 2, 0, 0, 0, []), (264, .ifCond .eq 15, 3, 0, 0, 0, []), (267, .lload 6, 2, 0, 0, 0, []), (269, .iload 15, 2, 0, 0, 0, []), (271, .lshr, 1, 0, 0, 0, []), (272, .lconst 1, 1, 0, 0, 0, []), (273, .land, 1, 0, 0, 0, []), (274, .lconst 0, 1, 0, 0, 0, []), (275, .lcmp, 1, 0, 0, 0, []), (276, .ifCond .ne 7, 3, 0, 0, 0, []), (279, .iconst 1, 1, 0, 0, 0, []), (280, .goto 4, 3, 0, 0, 0, []), (283, .iconst 0, 1, 0, 0, 0, []), (284, .istore 10, 2, 0, 0, 0, []), (286, .lload 6, 2, 0, 0, 0, []), (288, .iload 16, 2, 0, 0, 0, []), (290, .ifCond .eq 10, 3, 0, 0, 0, []), (293, .lconst 1, 1, 0, 0, 0, []), (294, .iload 15, 2, 0, 0, 0, []), (296, .lshl, 1, 0, 0, 0, []), (297, .goto 4, 3, 0, 0, 0, []), (300, .lconst 0, 1, 0, 0, 0, []), (301, .lor, 1, 0, 0, 0, []), (302, .lstore 6, 2, 0, 0, 0, []), (304, .iload 13, 2, 0, 0, 0, []), (306, .iload 16, 2, 0, 0, 0, []), (308, .ifCond .eq 7, 3, 0, 0, 0, []), (311, .iconst 1, 1, 0, 0, 0, []), (312, .goto 4, 3, 0, 0, 0, []), (315, .iconst 0, 1, 0, 0, 0, []), (316, .iadd, 1, 0, 0, 0, []), (317, .istore 13, 2, 0, 0, 0, []), (319, .iinc 14 1, 3, 0, 0, 0, []), (322, .goto (-105), 3, 0, 0, 0, []), (325, .iload 10, 2, 0, 0, 0, []), (327, .ifCond .eq 12, 3, 0, 0, 0, []), (330, .iload 13, 2, 0, 0, 0, []), (332, .ifCond .le 7, 3, 0, 0, 0, []), (335, .iconst 1, 1, 0, 0, 0, []), (336, .goto 4, 3, 0, 0, 0, []), (339, .iconst 0, 1, 0, 0, 0, []), (340, .istore 10, 2, 0, 0, 0, []), (342, .iinc 8 1, 3, 0, 0, 0, []), (345, .iinc 11 1, 3, 0, 0, 0, []), (348, .goto (-197), 3, 0, 0, 0, []), (351, .iconst 0, 1, 0, 0, 0, []), (352, .istore 11, 2, 0, 0, 0, []), (354, .iload 11, 2, 0, 0, 0, [2, 4, 7, 12, 13, 14, 15, 16]), (356, .aload_n 0, 1, 0, 0, 0, []), (357, .iconst 0, 1, 0, 0, 0, []), (358, .invokestatic 79, 3, 137, 2, 7, []), (361, .aload_n 0, 1, 0, 0, 0, []), (362, .iconst 1, 1, 0, 0, 0, []), (363, .invokestatic 79, 3, 137, 2, 7, []), (366, .imul, 1, 0, 0, 0, []), (367, .if_icmp .ge 75, 3, 0, 0, 0, []), (370, .iload 10, 2, 0, 0, 0, []), (372, .ifCond .eq 70, 3, 0, 0, 0, []), (375, .aload_n 0, 1, 0, 0, 0, []), (376, .iload 11, 2, 0, 0, 0, []), (378, .iconst 4, 1, 0, 0, 0, []), (379, .invokestatic 84, 3, 136, 3, 7, []), (382, .iconst (-1), 1, 0, 0, 0, []), (383, .if_icmp .eq 7, 3, 0, 0, 0, []), (386, .iconst 1, 1, 0, 0, 0, []), (387, .goto 4, 3, 0, 0, 0, []), (390, .iconst 0, 1, 0, 0, 0, []), (391, .istore 12, 2, 0, 0, 0, []), (393, .iload 9, 2, 0, 0, 0, []), (395, .iload 12, 2, 0, 0, 0, []), (397, .ifCond .eq 7, 3, 0, 0, 0, []), (400, .iconst 1, 1, 0, 0, 0, []), (401, .goto 4, 3, 0, 0, 0, []), (404, .iconst 0, 1, 0, 0, 0, []), (405, .iadd, 1, 0, 0, 0, []), (406, .istore 9, 2, 0, 0, 0, []), (408, .iload 12, 2, 0, 0, 0, []), (410, .ifCond .eq 19, 3, 0, 0, 0, []), (413, .iload_n 3, 1, 0, 0, 0, []), (414, .ifCond .eq 15, 3, 0, 0, 0, []), (417, .lload 6, 2, 0, 0, 0, []), (419, .iload 11, 2, 0, 0, 0, []), (421, .lshr, 1, 0, 0, 0, []), (422, .lconst 1, 1, 0, 0, 0, []), (423, .land, 1, 0, 0, 0, []), (424, .lconst 1, 1, 0, 0, 0, []), (425, .lcmp, 1, 0, 0, 0, []), (426, .ifCond .ne 7, 3, 0, 0, 0, []), (429, .iconst 1, 1, 0, 0, 0, []), (430, .goto 4, 3, 0, 0, 0, []), (433, .iconst 0, 1, 0, 0, 0, []), (434, .istore 10, 2, 0, 0, 0, []), (436, .iinc 11 1, 3, 0, 0, 0, []), (439, .goto (-85), 3, 0, 0, 0, []), (442, .iload 10, 2, 0, 0, 0, []), (444, .ifCond .eq 39, 3, 0, 0, 0, []), (447, .iload 9, 2, 0, 0, 0, []), (449, .aload_n 0, 1, 0, 0, 0, []), (450, .iconst 2, 1, 0, 0, 0, []), (451, .invokestatic 79, 3, 137, 2, 7, []), (454, .if_icmp .ne 29, 3, 0, 0, 0, []), (457, .iload_n 3, 1, 0, 0, 0, []), (458, .ifCond .eq 10, 3, 0, 0, 0, []), (461, .iload 8, 2, 0, 0, 0, []), (463, .iload 5, 2, 0, 0, 0, []), (465, .if_icmp .lt 18, 3, 0, 0, 0, []), (468, .aload_n 0, 1, 0, 0, 0, []), (469, .iconst 1, 1, 0, 0, 0, []), (470, .invokestatic 112, 3, 145, 2, 7, []), (473, .sipush 2000, 3, 0, 0, 0, []), (476, .if_icmp .gt 7, 3, 0, 0, 0, []), (479, .iconst 1, 1, 0, 0, 0, []), (480, .goto 4, 3, 0, 0, 0, []), (483, .iconst 0, 1, 0, 0, 0, []), (484, .istore 10, 2, 0, 0, 0, []), (486, .aload_n 0, 1, 0, 0, 0, []), (487, .invokevirtual 138, 3, 99, 1, 0, []), (490, .istore 11, 2, 0, 0, 0, []), (492, .iload 10, 2, 0, 0, 0, []), (494, .ifCond .eq 50, 3, 0, 0, 0, []), (497, .iload 11, 2, 0, 0, 0, []), (499, .iconst (-1), 1, 0, 0, 0, []), (500, .if_icmp .eq 17, 3, 0, 0, 0, []), (503, .aload_n 0, 1, 0, 0, 0, []), (504, .iload 11, 2, 0, 0, 0, []), (506, .iconst 2, 1, 0, 0, 0, []), (507, .idiv, 1, 0, 0, 0, []), (508, .iconst 0, 1, 0, 0, 0, []), (509, .invokestatic 84, 3, 136, 3, 7, []), (512, .bipush 35, 2, 0, 0, 0, []), (514, .if_icmp .ne 30, 3, 0, 0, 0, []), (517, .aload_n 0, 1, 0, 0, 0, []), (518, .iconst 5, 1, 0, 0, 0, []), (519, .invokestatic 79, 3, 137, 2, 7, []), (522, .ifCond .gt 9, 3, 0, 0, 0, []), (525, .iload 11, 2, 0, 0, 0, []), (527, .iconst (-1), 1, 0, 0, 0, []), (528, .if_icmp .ne 16, 3, 0, 0, 0, []), (531, .aload_n 0, 1, 0, 0, 0, []), (532, .invokestatic 94, 3, 149, 1, 2, []), (535, .lload_n 1, 1, 0, 0, 0, []), (536, .lcmp, 1, 0, 0, 0, []), (537, .ifCond .ne 7, 3, 0, 0, 0, []), (540, .iconst 1, 1, 0, 0, 0, []), (541, .goto 4, 3, 0, 0, 0, []), (544, .iconst 0, 1, 0, 0, 0, []), (545, .istore 10, 2, 0, 0, 0, []), (547, .iload 10, 2, 0, 0, 0, []), (549, .ifCond .eq 59, 3, 0, 0, 0, []), (552, .iload 11, 2, 0, 0, 0, []), (554, .iconst (-1), 1, 0, 0, 0, []), (555, .if_icmp .eq 53, 3, 0, 0, 0, []), (558, .aload_n 0, 1, 0, 0, 0, []), (559, .iload 11, 2, 0, 0, 0, []), (561, .iconst 2, 1, 0, 0, 0, []), (562, .idiv, 1, 0, 0, 0, []), (563, .iload 11, 2, 0, 0, 0, []), (565, .iconst 2, 1, 0, 0, 0, []), (566, .irem, 1, 0, 0, 0, []), (567, .ifCond .ne 8, 3, 0, 0, 0, []), (570, .bipush 47, 2, 0, 0, 0, []), (572, .goto 5, 3, 0, 0, 0, []), (575, .bipush 92, 2, 0, 0, 0, []), (577, .invokestatic 100, 3, 133, 3, 7, []), (580, .bipush 35, 2, 0, 0, 0, []), (582, .if_icmp .ne 23, 3, 0, 0, 0, []), (585, .aload_n 0, 1, 0, 0, 0, []), (586, .iconst 1, 1, 0, 0, 0, []), (587, .invokestatic 110, 3, 144, 2, 7, []), (590, .iconst 1, 1, 0, 0, 0, []), (591, .if_icmp .ne 14, 3, 0, 0, 0, []), (594, .aload_n 0, 1, 0, 0, 0, []), (595, .invokestatic 141, 3, 148, 1, 7, []), (598, .ifCond .lt 7, 3, 0, 0, 0, []), (601, .iconst 1, 1, 0, 0, 0, []), (602, .goto 4, 3, 0, 0, 0, []), (605, .iconst 0, 1, 0, 0, 0, []), (606, .istore 10, 2, 0, 0, 0, []), (608, .iload 10, 2, 0, 0, 0, []), (610, .ifCond .eq 34, 3, 0, 0, 0, []), (613, .aload_n 0, 1, 0, 0, 0, []), (614, .invokevirtual 143, 3, 100, 1, 0, []), (617, .dconst 0, 1, 0, 0, 0, []), (618, .dcmp .l, 1, 0, 0, 0, []), (619, .ifCond .lt 25, 3, 0, 0, 0, []), (622, .aload_n 0, 1, 0, 0, 0, []), (623, .invokevirtual 143, 3, 100, 1, 0, []), (626, .dconst 1, 1, 0, 0, 0, []), (627, .dcmp .g, 1, 0, 0, 0, []), (628, .ifCond .gt 16, 3, 0, 0, 0, []), (631, .aload_n 0, 1, 0, 0, 0, []), (632, .invokestatic 94, 3, 149, 1, 2, []), (635, .lload_n 1, 1, 0, 0, 0, []), (636, .lcmp, 1, 0, 0, 0, []), (637, .ifCond .ne 7, 3, 0, 0, 0, []), (640, .iconst 1, 1, 0, 0, 0, []), (641, .goto 4, 3, 0, 0, 0, []), (644, .iconst 0, 1, 0, 0, 0, []), (645, .ireturn, 1, 0, 0, 0, [])]
def cd_156 : List (Nat × Instr × Nat × Nat × Nat × Nat × List Nat) := [(0, .aload_n 0, 1, 0, 0, 0, []), (1, .invokestatic 94, 3, 149, 1, 2, []), (4, .lstore_n 1, 1, 0, 0, 0, []), (5, .aload_n 0, 1, 0, 0, 0, []), (6, .iconst 0, 1, 0, 0, 0, []), (7, .invokestatic 79, 3, 137, 2, 7, []), (10, .istore_n 3, 1, 0, 0, 0, []), (11, .aload_n 0, 1, 0, 0, 0, []), (12, .iconst 1, 1, 0, 0, 0, []), (13, .invokestatic 79, 3, 137, 2, 7, []), (16, .istore 4, 2, 0, 0, 0, []), (18, .aload_n 0, 1, 0, 0, 0, []), (19, .iconst 2, 1, 0, 0, 0, []), (20, .invokestatic 79, 3, 137, 2, 7, []), (23, .istore 5, 2, 0, 0, 0, []), (25, .aload_n 0, 1, 0, 0, 0, []), (26, .bipush 7, 2, 0, 0, 0, []), (28, .invokestatic 79, 3, 137, 2, 7, []), (31, .istore 6, 2, 0, 0, 0, []), (33, .aload_n 0, 1, 0, 0, 0, []), (34, .bipush 8, 2, 0, 0, 0, []), (36, .invokestatic 79, 3, 137, 2, 7, []), (39, .istore 7, 2, 0, 0, 0, []), (41, .aload_n 0, 1, 0, 0, 0, []), (42, .iconst 0, 1, 0, 0, 0, []), (43, .iconst 0, 1, 0, 0, 0, []), (44, .invokestatic 84, 3, 136, 3, 7, []), (47, .istore 8, 2, 0, 0, 0, []), (49, .aload_n 0, 1, 0, 0, 0, []), (50, .invokevirtual 143, 3, 100, 1, 0, []), (53, .dstore 9, 2, 0, 0, 0, []), (55, .aload_n 0, 1, 0, 0, 0, []), (56, .invokevirtual 147, 3, 84, 1, 0, []), (59, .iconst 2, 1, 0, 0, 0, []), (60, .iload_n 3, 1, 0, 0, 0, []), (61, .iload 4, 2, 0, 0, 0, []), (63, .iadd, 1, 0, 0, 0, []), (64, .imul, 1, 0, 0, 0, []), (65, .if_icmp .ne 113, 3, 0, 0, 0, []), (68, .aload_n 0, 1, 0, 0, 0, []), (69, .iconst 0, 1, 0, 0, 0, []), (70, .invokestatic 79, 3, 137, 2, 7, []), (73, .iload 4, 2, 0, 0, 0, []), (75, .if_icmp .ne 103, 3, 0, 0, 0, []), (78, .aload_n 0, 1, 0, 0, 0, []), (79, .iconst 1, 1, 0, 0, 0, []), (80, .invokestatic 79, 3, 137, 2, 7, []), (83, .iload_n 3, 1, 0, 0, 0, []), (84, .if_icmp .ne 94, 3, 0, 0, 0, []), (87, .aload_n 0, 1, 0, 0, 0, []), (88, .iconst 2, 1, 0, 0, 0, []), (89, .invokestatic 79, 3, 137, 2, 7, []), (92, .iload 5, 2, 0, 0, 0, []), (94, .if_icmp .ne 84, 3, 0, 0, 0, []), (97, .aload_n 0, 1, 0, 0, 0, []), (98, .bipush 7, 2, 0, 0, 0, []), (100, .invokestatic 79, 3, 137, 2, 7, []), (103, .iload 6, 2, 0, 0, 0, []), (105, .if_icmp .ne 73, 3, 0, 0, 0, []), (108, .aload_n 0, 1, 0, 0, 0, []), (109, .bipush 8, 2, 0, 0, 0, []), (111, .invokestatic 79, 3, 137, 2, 7, []), (114, .iload 7, 2, 0, 0, 0, []), (116, .if_icmp .ne 62, 3, 0, 0, 0, []), (119, .aload_n 0, 1, 0, 0, 0, []), (120, .iload 4, 2, 0, 0, 0, []), (122, .iconst 1, 1, 0, 0, 0, []), (123, .isub, 1, 0, 0, 0, []), (124, .iconst 0, 1, 0, 0, 0, []), (125, .invokestatic 84, 3, 136, 3, 7, []), (128, .iload 8, 2, 0, 0, 0, []), (130, .bipush 47, 2, 0, 0, 0, []), (132, .if_icmp .ne 8, 3, 0, 0, 0, []), (135, .bipush 92, 2, 0, 0, 0, []), (137, .goto 17, 3, 0, 0, 0, []), (140, .iload 8, 2, 0, 0, 0, []), (142, .bipush 92, 2, 0, 0, 0, []), (144, .if_icmp .ne 8, 3, 0, 0, 0, []), (147, .bipush 47, 2, 0, 0, 0, []), (149, .goto 5, 3, 0, 0, 0, []), (152, .iload 8, 2, 0, 0, 0, []), (154, .if_icmp .ne 24, 3, 0, 0, 0, []), (157, .aload_n 0, 1, 0, 0, 0, []), (158, .invokevirtual 143, 3, 100, 1, 0, []), (161, .dload 9, 2, 0, 0, 0, []), (163, .dcmp .l, 1, 0, 0, 0, []), (164, .ifCond .ne 14, 3, 0, 0, 0, []), (167, .aload_n 0, 1, 0, 0, 0, []), (168, .invokestatic 150, 3, 151, 1, 2, []), (171, .ifCond .eq 7, 3, 0, 0, 0, []), (174, .iconst 1, 1, 0, 0, 0, []), (175, .goto 4, 3, 0, 0, 0, []), (178, .iconst 0, 1, 0, 0, 0, []), (179, .istore 11, 2, 0, 0, 0, []), (181, .iconst 0, 1, 0, 0, 0, []), (182, .istore 12, 2, 0, 0, 0, []), (184, .iload 12, 2, 0, 0, 0, [2, 5, 6, 7, 8, 9, 10]), (186, .iconst 3, 1, 0, 0, 0, []), (187, .if_icmp .ge 34, 3, 0, 0, 0, []), (190, .iload 11, 2, 0, 0, 0, []), (192, .ifCond .eq 29, 3, 0, 0, 0, []), (195, .aload_n 0, 1, 0, 0, 0, []), (196, .invokevirtual 147, 3, 84, 1, 0, []), (199, .iconst 2, 1, 0, 0, 0, []), (200, .iload_n 3, 1, 0, 0, 0, []), (201, .iload 4, 2, 0, 0, 0, []), (203, .iadd, 1, 0, 0, 0, []), (204, .imul, 1, 0, 0, 0, []), (205, .if_icmp .ne 7, 3, 0, 0, 0, []), (208, .iconst 1, 1, 0, 0, 0, []), (209, .goto 4, 3, 0, 0, 0, []), (212, .iconst 0, 1, 0, 0, 0, []), (213, .istore 11, 2, 0, 0, 0, []), (215, .iinc 12 1, 3, 0, 0, 0, []), (218, .goto (-34), 3, 0, 0, 0, []), (221, .iload 11, 2, 0, 0, 0, []), (223, .ifCond .eq 16, 3, 0, 0, 0, []), (226, .aload_n 0, 1, 0, 0, 0, []), (227, .invokestatic 94, 3, 149, 1, 2, []), (230, .lload_n 1, 1, 0, 0, 0, []), (231, .lcmp, 1, 0, 0, 0, []), (232, .ifCond .ne 7, 3, 0, 0, 0, []), (235, .iconst 1, 1, 0, 0, 0, []), (236, .goto 4, 3, 0, 0, 0, []), (239, .iconst 0, 1, 0, 0, 0, []), (240, .istore 11, 2, 0, 0, 0, []), (242, .iconst 0, 1, 0, 0, 0, []), (243, .istore 12, 2, 0, 0, 0, []), (245, .iload 12, 2, 0, 0, 0, [2, 3, 4, 5, 6, 7, 8, 9, 10]), (247, .iconst 4, 1, 0, 0, 0, []), (248, .if_icmp .ge 28, 3, 0, 0, 0, []), (251, .iload 11, 2, 0, 0, 0, []), (253, .ifCond .eq 23, 3, 0, 0, 0, []), (256, .aload_n 0, 1, 0, 0, 0, []), (257, .invokestatic 141, 3, 148, 1, 7, []), (260, .ifCond .lt 7, 3, 0, 0, 0, []), (263, .iconst 1, 1, 0, 0, 0, []), (264, .goto 4, 3, 0, 0, 0, []), (267, .iconst 0, 1, 0, 0, 0, []), (268, .istore 11, 2, 0, 0, 0, []), (270, .iinc 12 1, 3, 0, 0, 0, []), (273, .goto (-28), 3, 0, 0, 0, []), (276, .iload 11, 2, 0, 0, 0, []), (278, .ifCond .eq 35, 3, 0, 0, 0, []), (281, .aload_n 0, 1, 0, 0, 0, []), (282, .invokestatic 94, 3, 149, 1, 2, []), (285, .lload_n 1, 1, 0, 0, 0, []), (286, .lcmp, 1, 0, 0, 0, []), (287, .ifCond .ne 26, 3, 0, 0, 0, []), (290, .aload_n 0, 1, 0, 0, 0, []), (291, .invokevirtual 154, 3, 83, 1, 0, []), (294, .aload_n 0, 1, 0, 0, 0, []), (295, .iconst 4, 1, 0, 0, 0, []), (296, .invokestatic 79, 3, 137, 2, 7, []), (299, .if_icmp .ne 14, 3, 0, 0, 0, []), (302, .aload_n 0, 1, 0, 0, 0, []), (303, .invokestatic 141, 3, 148, 1, 7, []), (306, .ifCond .lt 7, 3, 0, 0, 0, []), (309, .iconst 1, 1, 0, 0, 0, []), (310, .goto 4, 3, 0, 0, 0, []), (313, .iconst 0, 1, 0, 0, 0, []), (314, .istore 11, 2, 0, 0, 0, []), (316, .iload 11, 2, 0, 0, 0, []), (318, .ifCond .eq 16, 3, 0, 0, 0, []), (321, .aload_n 0, 1, 0, 0, 0, []), (322, .invokestatic 94, 3, 149, 1, 2, []), (325, .lload_n 1, 1, 0, 0, 0, []), (326, .lcmp, 1, 0, 0, 0, []), (327, .ifCond .ne 7, 3, 0, 0, 0, []), (330, .iconst 1, 1, 0, 0, 0, []), (331, .goto 4, 3, 0, 0, 0, []), (334, .iconst 0, 1, 0, 0, 0, []), (335, .ireturn, 1, 0, 0, 0, [])]
def cd_157 : List (Nat × Instr × Nat × Nat × Nat × Nat × List Nat) := [(0, .iload_n 0, 1, 0, 0, 0, []), (1, .bipush 14, 2, 0, 0, 0, []), (3, .invokestatic 157, 3, 131, 2, 2, []), (6, .istore_n 1, 1, 0, 0, 0, []), (7, .iload_n 1, 1, 0, 0, 0, []), (8, .iconst 5, 1, 0, 0, 0, []), (9, .if_icmp .ge 16, 3, 0, 0, 0, []), (12, .bipush 97, 2, 0, 0, 0, []), (14, .iload_n 0, 1, 0, 0, 0, []), (15, .iconst 5, 1, 0, 0, 0, []), (16, .ishr, 1, 0, 0, 0, []), (17, .iconst 3, 1, 0, 0, 0, []), (18, .invokestatic 157, 3, 131, 2, 2, []), (21, .iadd, 1, 0, 0, 0, []), (22, .goto 68, 3, 0, 0, 0, []), (25, .iload_n 1, 1, 0, 0, 0, []), (26, .bipush 6, 2, 0, 0, 0, []), (28, .if_icmp .ge 16, 3, 0, 0, 0, []), (31, .bipush 65, 2, 0, 0, 0, []), (33, .iload_n 0, 1, 0, 0, 0, []), (34, .iconst 5, 1, 0, 0, 0, []), (35, .ishr, 1, 0, 0, 0, []), (36, .iconst 3, 1, 0, 0, 0, []), (37, .invokestatic 157, 3, 131, 2, 2, []), (40, .iadd, 1, 0, 0, 0, []), (41, .goto 49, 3, 0, 0, 0, []), (44, .iload_n 1, 1, 0, 0, 0, []), (45, .bipush 8, 2, 0, 0, 0, []), (47, .if_icmp .ge 8, 3, 0, 0, 0, []), (50, .bipush 47, 2, 0, 0, 0, []), (52, .goto 38, 3, 0, 0, 0, []), (55, .iload_n 1, 1, 0, 0, 0, []), (56, .bipush 10, 2, 0, 0, 0, []), (58, .if_icmp .ge 8, 3, 0, 0, 0, []), (61, .bipush 92, 2, 0, 0, 0, []), (63, .goto 27, 3, 0, 0, 0, []), (66, .iload_n 1, 1, 0, 0, 0, []), (67, .bipush 10, 2, 0, 0, 0, []), (69, .if_icmp .ne 8, 3, 0, 0, 0, []), (72, .bipush 35, 2, 0, 0, 0, []), (74, .goto 16, 3, 0, 0, 0, []), (77, .iload_n 1, 1, 0, 0, 0, []), (78, .bipush 11, 2, 0, 0, 0, []), (80, .if_icmp .ne 8, 3, 0, 0, 0, []), (83, .bipush 58, 2, 0, 0, 0, []), (85, .goto 5, 3, 0, 0, 0, []), (88, .bipush 46, 2, 0, 0, 0, []), (90, .ireturn, 1, 0, 0, 0, [])]
def cd_158 : List (Nat × Instr × Nat × Nat × Nat × Nat × List Nat) := [(0, .aload_n 0, 1, 0, 0, 0, []), (1, .iconst 0, 1, 0, 0, 0, []), (2, .invokestatic 79, 3, 137, 2, 7, []), (5, .aload_n 0, 1, 0, 0, 0, []), (6, .iconst 1, 1, 0, 0, 0, []), (7, .invokestatic 79, 3, 137, 2, 7, []), (10, .imul, 1, 0, 0, 0, []), (11, .istore_n 3, 1, 0, 0, 0, []), (12, .iload_n 1, 1, 0, 0, 0, []), (13, .bipush 16, 2, 0, 0, 0, []), (15, .invokestatic 157, 3, 131, 2, 2, []), (18, .tableswitch 134 0 5 #[38, 57, 62, 67, 67, 125], 38, 0, 0, 0, []), (56, .aload_n 0, 1, 0, 0, 0, []), (57, .iconst 2, 1, 0, 0, 0, []), (58, .iload_n 2, 1, 0, 0, 0, []), (59, .bipush 6, 2, 0, 0, 0, []), (61, .irem, 1, 0, 0, 0, []), (62, .iadd, 1, 0, 0, 0, []), (63, .iconst 2, 1, 0, 0, 0, []), (64, .iload_n 2, 1, 0, 0, 0, []), (65, .bipush 6, 2, 0, 0, 0, []), (67, .idiv, 1, 0, 0, 0, []), (68, .iconst 5, 1, 0, 0, 0, []), (69, .irem, 1, 0, 0, 0, []), (70, .iadd, 1, 0, 0, 0, []), (71, .invokestatic 98, 3, 132, 3, 7, []), (74, .ireturn, 1, 0, 0, 0, []), (75, .aload_n 0, 1, 0, 0, 0, []), (76, .invokevirtual 154, 3, 83, 1, 0, []), (79, .ireturn, 1, 0, 0, 0, []), (80, .aload_n 0, 1, 0, 0, 0, []), (81, .invokevirtual 147, 3, 84, 1, 0, []), (84, .ireturn, 1, 0, 0, 0, []), (85, .aload_n 0, 1, 0, 0, 0, []), (86, .invokevirtual 118, 3, 102, 1, 0, []), (89, .istore 4, 2, 0, 0, 0, []), (91, .iconst 1, 1, 0, 0, 0, []), (92, .iload_n 2, 1, 0, 0, 0, []), (93, .iconst 3, 1, 0, 0, 0, []), (94, .irem, 1, 0, 0, 0, []), (95, .iadd, 1, 0, 0, 0, []), (96, .istore 5, 2, 0, 0, 0, []), (98, .iconst 0, 1, 0, 0, 0, []), (99, .istore 6, 2, 0, 0, 0, []), (101, .iload 6, 2, 0, 0, 0, [1, 3]), (103, .iload 5, 2, 0, 0, 0, []), (105, .if_icmp .ge 33, 3, 0, 0, 0, []), (108, .iload 4, 2, 0, 0, 0, []), (110, .ifCond .lt 28, 3, 0, 0, 0, []), (113, .aload_n 0, 1, 0, 0, 0, []), (114, .bipush 97, 2, 0, 0, 0, []), (116, .iload_n 2, 1, 0, 0, 0, []), (117, .iconst 3, 1, 0, 0, 0, []), (118, .idiv, 1, 0, 0, 0, []), (119, .iconst 2, 1, 0, 0, 0, []), (120, .iload 6, 2, 0, 0, 0, []), (122, .imul, 1, 0, 0, 0, []), (123, .ishr, 1, 0, 0, 0, []), (124, .iconst 3, 1, 0, 0, 0, []), (125, .irem, 1, 0, 0, 0, []), (126, .iadd, 1, 0, 0, 0, []), (127, .invokestatic 116, 3, 147, 2, 7, []), (130, .istore 4, 2, 0, 0, 0, []), (132, .iinc 6 1, 3, 0, 0, 0, []), (135, .goto (-34), 3, 0, 0, 0, []), (138, .aload_n 0, 1, 0, 0, 0, []), (139, .invokestatic 121, 3, 134, 1, 7, []), (142, .ireturn, 1, 0, 0, 0, []), (143, .aload_n 0, 1, 0, 0, 0, []), (144, .iload_n 2, 1, 0, 0, 0, []), (145, .bipush 9, 2, 0, 0, 0, []), (147, .irem, 1, 0, 0, 0, []), (148, .invokestatic 102, 3, 135, 2, 7, []), (151, .ireturn, 1, 0, 0, 0, []), (152, .aload_n 0, 1, 0, 0, 0, []), (153, .iload_n 2, 1, 0, 0, 0, []), (154, .iload_n 3, 1, 0, 0, 0, []), (155, .irem, 1, 0, 0, 0, []), (156, .iload_n 1, 1, 0, 0, 0, []), (157, .iconst 4, 1, 0, 0, 0, []), (158, .ishr, 1, 0, 0, 0, []), (159, .iload_n 2, 1, 0, 0, 0, []), (160, .iconst 3, 1, 0, 0, 0, []), (161, .ishr, 1, 0, 0, 0, []), (162, .ixor, 1, 0, 0, 0, []), (163, .invokestatic 160, 3, 157, 1, 2, []), (166, .invokestatic 100, 3, 133, 3, 7, []), (169, .ireturn, 1, 0, 0, 0, [])]
def cd_159 : List (Nat × Instr × Nat × Nat × Nat × Nat × List Nat) := []
def cd_160 : List (Nat × Instr × Nat × Nat × Nat × Nat × List Nat) := []
def cd_161 : List (Nat × Instr × Nat × Nat × Nat × Nat × List Nat) := []
def cd_162 : List (Nat × Instr × Nat × Nat × Nat × Nat × List Nat) := []
def cd_163 : List (Nat × Instr × Nat × Nat × Nat × Nat × List Nat) := []
def cd_164 : List (Nat × Instr × Nat × Nat × Nat × Nat × List Nat) := []
def cd_165 : List (Nat × Instr × Nat × Nat × Nat × Nat × List Nat) := []
def cd_166 : List (Nat × Instr × Nat × Nat × Nat × Nat × List Nat) := []
def cd_167 : List (Nat × Instr × Nat × Nat × Nat × Nat × List Nat) := []
def cd_168 : List (Nat × Instr × Nat × Nat × Nat × Nat × List Nat) := []
def cd_169 : List (Nat × Instr × Nat × Nat × Nat × Nat × List Nat) := []
def cd_170 : List (Nat × Instr × Nat × Nat × Nat × Nat × List Nat) := []
def cd_171 : List (Nat × Instr × Nat × Nat × Nat × Nat × List Nat) := []
def cd_172 : List (Nat × Instr × Nat × Nat × Nat × Nat × List Nat) := []
def cd_173 : List (Nat × Instr × Nat × Nat × Nat × Nat × List Nat) := []
def cd_174 : List (Nat × Instr × Nat × Nat × Nat × Nat × List Nat) := []
def cd_175 : List (Nat × Instr × Nat × Nat × Nat × Nat × List Nat) := []
def cd_176 : List (Nat × Instr × Nat × Nat × Nat × Nat × List Nat) := []
def cd_177 : List (Nat × Instr × Nat × Nat × Nat × Nat × List Nat) := []
def cd_178 : List (Nat × Instr × Nat × Nat × Nat × Nat × List Nat) := []
def cd_179 : List (Nat × Instr × Nat × Nat × Nat × Nat × List Nat) := []
def cd_180 : List (Nat × Instr × Nat × Nat × Nat × Nat × List Nat) := []
def cd_181 : List (Nat × Instr × Nat × Nat × Nat × Nat × List Nat) := []
def cd_182 : List (Nat × Instr × Nat × Nat × Nat × Nat × List Nat) := []
def cd_183 : List (Nat × Instr × Nat × Nat × Nat × Nat × List Nat) := []
def cd_184 : List (Nat × Instr × Nat × Nat × Nat × Nat × List Nat) := []
def cd_185 : List (Nat × Instr × Nat × Nat × Nat × Nat × List Nat) := []
def cd_186 : List (Nat × Instr × Nat × Nat × Nat × Nat × List Nat) := []
def cd_187 : List (Nat × Instr × Nat × Nat × Nat × Nat × List Nat) := []
def cd_188 : List (Nat × Instr × Nat × Nat × Nat × Nat × List Nat) := []
def cd_189 : List (Nat × Instr × Nat × Nat × Nat × Nat × List Nat) := []
def cd_190 : List (Nat × Instr × Nat × Nat × Nat × Nat × List Nat) := []
def cd_191 : List (Nat × Instr × Nat × Nat × Nat × Nat × List Nat) := []
def cd_192 : List (Nat × Instr × Nat × Nat × Nat × Nat × List Nat) := []
def cd_193 : List (Nat × Instr × Nat × Nat × Nat × Nat × List Nat) := []
def cd_194 : List (Nat × Instr × Nat × Nat × Nat × Nat × List Nat) := []
def cd_195 : List (Nat × Instr × Nat × Nat × Nat × Nat × List Nat) := []
def cd_196 : List (Nat × Instr × Nat × Nat × Nat × Nat × List Nat) := []
def cd_197 : List (Nat × Instr × Nat × Nat × Nat × Nat × List Nat) := []
def cd_198 : List (Nat × Instr × Nat × Nat × Nat × Nat × List Nat) := []
def cd_199 : List (Nat × Instr × Nat × Nat × Nat × Nat × List Nat) := [(0, .lload_n 0, 1, 0, 0, 0, []), (1, .lload_n 0, 1, 0, 0, 0, []), (2, .iconst 1, 1, 0, 0, 0, []), (3, .lushr, 1, 0, 0, 0, []), (4, .ldc2_w 314, 3, 3, 0, 0, []), (7, .land, 1, 0, 0, 0, []), (8, .lsub, 1, 0, 0, 0, []), (9, .lstore_n 0, 1, 0, 0, 0, []), (10, .lload_n 0, 1, 0, 0, 0, []), (11, .ldc2_w 316, 3, 4, 0, 0, []), (14, .land, 1, 0, 0, 0, []), (15, .lload_n 0, 1, 0, 0, 0, []), (16, .iconst 2, 1, 0, 0, 0, []), (17, .lushr, 1, 0, 0, 0, []), (18, .ldc2_w 316, 3, 4, 0, 0, []), (21, .land, 1, 0, 0, 0, []), (22, .ladd, 1, 0, 0, 0, []), (23, .lstore_n 0, 1, 0, 0, 0, []), (24, .lload_n 0, 1, 0, 0, 0, []), (25, .lload_n 0, 1, 0, 0, 0, []), (26, .iconst 4, 1, 0, 0, 0, []), (27, .lushr, 1, 0, 0, 0, []), (28, .ladd, 1, 0, 0, 0, []), (29, .ldc2_w 318, 3, 5, 0, 0, []), (32, .land, 1, 0, 0, 0, []), (33, .lstore_n 0, 1, 0, 0, 0, []), (34, .lload_n 0, 1, 0, 0, 0, []), (35, .lload_n 0, 1, 0, 0, 0, []), (36, .bipush 8, 2, 0, 0, 0, []), (38, .lushr, 1, 0, 0, 0, []), (39, .ladd, 1, 0, 0, 0, []), (40, .lstore_n 0, 1, 0, 0, 0, []), (41, .lload_n 0, 1, 0, 0, 0, []), (42, .lload_n 0, 1, 0, 0, 0, []), (43, .bipush 16, 2, 0, 0, 0, []), (45, .lushr, 1, 0, 0, 0, []), (46, .ladd, 1, 0, 0, 0, []), (47, .lstore_n 0, 1, 0, 0, 0, []), (48, .lload_n 0, 1, 0, 0, 0, []), (49, .lload_n 0, 1, 0, 0, 0, []), (50, .bipush 32, 2, 0, 0, 0, []), (52, .lushr, 1, 0, 0, 0, []), (53, .ladd, 1, 0, 0, 0, []), (54, .lstore_n 0, 1, 0, 0, 0, []), (55, .lload_n 0, 1, 0, 0, 0, []), (56, .l2i, 1, 0, 0, 0, []), (57, .bipush 127, 2, 0, 0, 0, []), (59, .iand, 1, 0, 0, 0, []), (60, .ireturn, 1, 0, 0, 0, [])]
def cd_200 : List (Nat × Instr × Nat × Nat × Nat × Nat × List Nat) := [(0, .iconst 0, 1, 0, 0, 0, []), (1, .istore_n 3, 1, 0, 0, 0, []), (2, .aload_n 0, 1, 0, 0, 0, []), (3, .arraylength, 1, 0, 0, 0, []), (4, .istore 4, 2, 0, 0, 0, []), (6, .iload_n 3, 1, 0, 0, 0, [2]), (7, .iload 4, 2, 0, 0, 0, []), (9, .if_icmp .ge 13, 3, 0, 0, 0, []), (12, .aload_n 0, 1, 0, 0, 0, []), (13, .iload_n 3, 1, 0, 0, 0, []), (14, .lload_n 1, 1, 0, 0, 0, []), (15, .lastore, 1, 0, 0, 0, []), (16, .iinc 3 1, 3, 0, 0, 0, []), (19, .goto (-13), 3, 0, 0, 0, []), (22, .return_, 1, 0, 0, 0, [])]
def cd_201 : List (Nat × Instr × Nat × Nat × Nat × Nat × List Nat) := [(0, .iconst 0, 1, 0, 0, 0, []), (1, .istore_n 2, 1, 0, 0, 0, []), (2, .aload_n 0, 1, 0, 0, 0, []), (3, .arraylength, 1, 0, 0, 0, []), (4, .istore_n 3, 1, 0, 0, 0, []), (5, .iload_n 2, 1, 0, 0, 0, []), (6, .iload_n 3, 1, 0, 0, 0, []), (7, .if_icmp .ge 13, 3, 0, 0, 0, []), (10, .aload_n 0, 1, 0, 0, 0, []), (11, .iload_n 2, 1, 0, 0, 0, []), (12, .iload_n 1, 1, 0, 0, 0, []), (13, .iastore, 1, 0, 0, 0, []), (14, .iinc 2 1, 3, 0, 0, 0, []), (17, .goto (-12), 3, 0, 0, 0, []), (20, .return_, 1, 0, 0, 0, [])]
def cd_202 : List (Nat × Instr × Nat × Nat × Nat × Nat × List Nat) := [(0, .new 10, 3, 8, 0, 0, []), (3, .dup, 1, 0, 0, 0, []), (4, .invokespecial 163, 3, 80, 1, 4, []), (7, .astore_n 1, 1, 0, 0, 0, []), (8, .aload_n 1, 1, 0, 0, 0, [1000]), (9, .invokestatic 141, 3, 148, 1, 7, []), (12, .ldc 30, 2, 4, 0, 0, []), (14, .if_icmp .ne 28, 3, 0, 0, 0, []), (17, .aload_n 1, 1, 0, 0, 0, []), (18, .invokestatic 164, 3, 150, 1, 2, []), (21, .ifCond .eq 21, 3, 0, 0, 0, []), (24, .aload_n 1, 1, 0, 0, 0, []), (25, .invokestatic 150, 3, 151, 1, 2, []), (28, .ifCond .eq 14, 3, 0, 0, 0, []), (31, .aload_n 1, 1, 0, 0, 0, []), (32, .invokestatic 167, 3, 155, 1, 2, []), (35, .ifCond .eq 7, 3, 0, 0, 0, []), (38, .iconst 1, 1, 0, 0, 0, []), (39, .goto 4, 3, 0, 0, 0, []), (42, .iconst 0, 1, 0, 0, 0, []), (43, .istore_n 2, 1, 0, 0, 0, []), (44, .iconst 0, 1, 0, 0, 0, []), (45, .istore_n 3, 1, 0, 0, 0, []), (46, .iload_n 3, 1, 0, 0, 0, [4, 5, 6, 7, 8, 9]), (47, .bipush 64, 2, 0, 0, 0, []), (49, .if_icmp .ge 281, 3, 0, 0, 0, []), (52, .iload_n 2, 1, 0, 0, 0, []), (53, .ifCond .eq 277, 3, 0, 0, 0, []), (56, .aload_n 0, 1, 0, 0, 0, []), (57, .iconst 2, 1, 0, 0, 0, []), (58, .iload_n 3, 1, 0, 0, 0, []), (59, .imul, 1, 0, 0, 0, []), (60, .invokestatic 170, 3, 130, 2, 2, []), (63, .istore 4, 2, 0, 0, 0, []), (65, .aload_n 0, 1, 0, 0, 0, []), (66, .iconst 2, 1, 0, 0, 0, []), (67, .iload_n 3, 1, 0, 0, 0, []), (68, .imul, 1, 0, 0, 0, []), (69, .iconst 1, 1, 0, 0, 0, []), (70, .iadd, 1, 0, 0, 0, []), (71, .invokestatic 170, 3, 130, 2, 2, []), (74, .ldc 173, 2, 5, 0, 0, []), (76, .invokestatic 157, 3, 131, 2, 2, []), (79, .istore 5, 2, 0, 0, 0, []), (81, .aload_n 1, 1, 0, 0, 0, []), (82, .invokestatic 94, 3, 149, 1, 2, []), (85, .lstore 6, 2, 0, 0, 0, []), (87, .iload_n 3, 1, 0, 0, 0, []), (88, .ifCond .eq 9, 3, 0, 0, 0, []), (91, .iload_n 3, 1, 0, 0, 0, []), (92, .bipush 33, 2, 0, 0, 0, []), (94, .if_icmp .ne 7, 3, 0, 0, 0, []), (97, .iconst 0, 1, 0, 0, 0, []), (98, .goto 45, 3, 0, 0, 0, []), (101, .iload_n 3, 1, 0, 0, 0, []), (102, .iconst 4, 1, 0, 0, 0, []), (103, .if_icmp .ge 7, 3, 0, 0, 0, []), (106, .iconst 3, 1, 0, 0, 0, []), (107, .goto 36, 3, 0, 0, 0, []), (110, .iload_n 3, 1, 0, 0, 0, []), (111, .bipush 22, 2, 0, 0, 0, []), (113, .if_icmp .ge 8, 3, 0, 0, 0, []), (116, .bipush 15, 2, 0, 0, 0, []), (118, .goto 25, 3, 0, 0, 0, []), (121, .iload 4, 2, 0, 0, 0, []), (123, .bipush 16, 2, 0, 0, 0, []), (125, .invokestatic 157, 3, 131, 2, 2, []), (128, .ifCond .ne 8, 3, 0, 0, 0, []), (131, .bipush 15, 2, 0, 0, 0, []), (133, .goto 10, 3, 0, 0, 0, []), (136, .iload 4, 2, 0, 0, 0, []), (138, .bipush 16, 2, 0, 0, 0, []), (140, .invokestatic 157, 3, 131, 2, 2, []), (143, .istore 8, 2, 0, 0, 0, []), (145, .aload_n 1, 1, 0, 0, 0, []), (146, .bipush 16, 2, 0, 0, 0, []), (148, .iload 4, 2, 0, 0, 0, []), (150, .iconst 4, 1, 0, 0, 0, []), (151, .ishr, 1, 0, 0, 0, []), (152, .ldc 174, 2, 6, 0, 0, []), (154, .invokestatic 157, 3, 131, 2, 2, []), (157, .imul, 1, 0, 0, 0, []), (158, .iload 8, 2, 0, 0, 0, []), (160, .iadd, 1, 0, 0, 0, []), (161, .iload 5, 2, 0, 0, 0, []), (163, .invokestatic 175, 3, 158, 3, 2, []), (166, .istore 9, 2, 0, 0, 0, []), (168, .iload 9, 2, 0, 0, 0, []), (170, .ifCond .ge 34, 3, 0, 0, 0, []), (173, .iload 9, 2, 0, 0, 0, []), (175, .ldc 30, 2, 4, 0, 0, []), (177, .if_icmp .eq 17, 3, 0, 0, 0, []), (180, .iload 9, 2, 0, 0, 0, []), (182, .ldc 17, 2, 2, 0, 0, []), (184, .if_icmp .eq 10, 3, 0, 0, 0, []), (187, .iload 9, 2, 0, 0, 0, []), (189, .ldc 23, 2, 3, 0, 0, []), (191, .if_icmp .ne 17, 3, 0, 0, 0, []), (194, .aload_n 1, 1, 0, 0, 0, []), (195, .invokestatic 94, 3, 149, 1, 2, []), (198, .lload 6, 2, 0, 0, 0, []), (200, .lcmp, 1, 0, 0, 0, []), (201, .ifCond .ne 7, 3, 0, 0, 0, []), (204, .iconst 1, 1, 0, 0, 0, []), (205, .goto 4, 3, 0, 0, 0, []), (208, .iconst 0, 1, 0, 0, 0, []), (209, .istore_n 2, 1, 0, 0, 0, []), (210, .iload_n 2, 1, 0, 0, 0, []), (211, .ifCond .eq 42, 3, 0, 0, 0, []), (214, .iload 9, 2, 0, 0, 0, []), (216, .ifCond .lt 37, 3, 0, 0, 0, []), (219, .iload 4, 2, 0, 0, 0, []), (221, .bipush 25, 2, 0, 0, 0, []), (223, .ishr, 1, 0, 0, 0, []), (224, .bipush 7, 2, 0, 0, 0, []), (226, .iand, 1, 0, 0, 0, []), (227, .ifCond .ne 26, 3, 0, 0, 0, []), (230, .aload_n 1, 1, 0, 0, 0, []), (231, .invokestatic 141, 3, 148, 1, 7, []), (234, .ifCond .lt 17, 3, 0, 0, 0, []), (237, .aload_n 1, 1, 0, 0, 0, []), (238, .invokestatic 94, 3, 149, 1, 2, []), (241, .lload 6, 2, 0, 0, 0, []), (243, .lcmp, 1, 0, 0, 0, []), (244, .ifCond .ne 7, 3, 0, 0, 0, []), (247, .iconst 1, 1, 0, 0, 0, []), (248, .goto 4, 3, 0, 0, 0, []), (251, .iconst 0, 1, 0, 0, 0, []), (252, .istore_n 2, 1, 0, 0, 0, []), (253, .iload_n 2, 1, 0, 0, 0, []), (254, .ifCond .eq 68, 3, 0, 0, 0, []), (257, .iload_n 3, 1, 0, 0, 0, []), (258, .iconst 3, 1, 0, 0, 0, []), (259, .irem, 1, 0, 0, 0, []), (260, .iconst 1, 1, 0, 0, 0, []), (261, .if_icmp .ne 10, 3, 0, 0, 0, []), (264, .aload_n 1, 1, 0, 0, 0, []), (265, .invokestatic 150, 3, 151, 1, 2, []), (268, .ifCond .eq 54, 3, 0, 0, 0, []), (271, .iload_n 3, 1, 0, 0, 0, []), (272, .bipush 8, 2, 0, 0, 0, []), (274, .irem, 1, 0, 0, 0, []), (275, .iconst 5, 1, 0, 0, 0, []), (276, .if_icmp .ne 10, 3, 0, 0, 0, []), (279, .aload_n 1, 1, 0, 0, 0, []), (280, .invokestatic 167, 3, 155, 1, 2, []), (283, .ifCond .eq 39, 3, 0, 0, 0, []), (286, .iload_n 3, 1, 0, 0, 0, []), (287, .bipush 9, 2, 0, 0, 0, []), (289, .irem, 1, 0, 0, 0, []), (290, .bipush 7, 2, 0, 0, 0, []), (292, .if_icmp .ne 10, 3, 0, 0, 0, []), (295, .aload_n 1, 1, 0, 0, 0, []), (296, .invokestatic 178, 3, 156, 1, 2, []), (299, .ifCond .eq 23, 3, 0, 0, 0, []), (302, .iload_n 3, 1, 0, 0, 0, []), (303, .bipush 11, 2, 0, 0, 0, []), (305, .irem, 1, 0, 0, 0, []), (306, .bipush 8, 2, 0, 0, 0, []), (308, .if_icmp .ne 10, 3, 0, 0, 0, []), (311, .aload_n 1, 1, 0, 0, 0, []), (312, .invokestatic 164, 3, 150, 1, 2, []), (315, .ifCond .eq 7, 3, 0, 0, 0, []), (318, .iconst 1, 1, 0, 0, 0, []), (319, .goto 4, 3, 0, 0, 0, []), (322, .iconst 0, 1, 0, 0, 0, []), (323, .istore_n 2, 1, 0, 0, 0, []), (324, .iinc 3 1, 3, 0, 0, 0, []), (327, .goto (-281), 3, 0, 0, 0, []), (330, .iload_n 2, 1, 0, 0, 0, []), (331, .ifCond .eq 21, 3, 0, 0, 0, []), (334, .aload_n 1, 1, 0, 0, 0, []), (335, .invokestatic 164, 3, 150, 1, 2, []), (338, .ifCond .eq 14, 3, 0, 0, 0, []), (341, .aload_n 1, 1, 0, 0, 0, []), (342, .invokestatic 150, 3, 151, 1, 2, []), (345, .ifCond .eq 7, 3, 0, 0, 0, []), (348, .iconst 1, 1, 0, 0, 0, []), (349, .goto 4, 3, 0, 0, 0, []), (352, .iconst 0, 1, 0, 0, 0, []), (353, .ireturn, 1, 0, 0, 0, [])]
def cdL : List (List (Nat × Instr × Nat × Nat × Nat × Nat × List Nat)) := [cd_0, cd_1, cd_2, cd_3, cd_4, cd_5, cd_6, cd_7, cd_8, cd_9, cd_10, cd_11, cd_12, cd_13, cd_14, cd_15, cd_16, cd_17, cd_18, cd_19, cd_20, cd_21, cd_22, cd_23, cd_24, cd_25, cd_26, cd_27, cd_28, cd_29, cd_30, cd_31, cd_32, cd_33, cd_34, cd_35, cd_36, cd_37, cd_38, cd_39, cd_40, cd_41, cd_42, cd_43, cd_44, cd_45, cd_46, cd_47, cd_48, cd_49, cd_50, cd_51, cd_52, cd_53, cd_54, cd_55, cd_56, cd_57, cd_58, cd_59, cd_60, cd_61, cd_62, cd_63, cd_64, cd_65, cd_66, cd_67, cd_68, cd_69, cd_70, cd_71, cd_72, cd_73, cd_74, cd_75, cd_76, cd_77, cd_78, cd_79, cd_80, cd_81, cd_82, cd_83, cd_84, cd_85, cd_86, cd_87, cd_88, cd_89, cd_90, cd_91, cd_92, cd_93, cd_94, cd_95, cd_96, cd_97, cd_98, cd_99, cd_100, cd_101, cd_102, cd_103, cd_104, cd_105, cd_106, cd_107, cd_108, cd_109, cd_110, cd_111, cd_112, cd_113, cd_114, cd_115, cd_116, cd_117, cd_118, cd_119, cd_120, cd_121, cd_122, cd_123, cd_124, cd_125, cd_126, cd_127, cd_128, cd_129, cd_130, cd_131, cd_132, cd_133, cd_134, cd_135, cd_136, cd_137, cd_138, cd_139, cd_140, cd_141, cd_142, cd_143, cd_144, cd_145, cd_146, cd_147, cd_148, cd_149, cd_150, cd_151, cd_152, cd_153, cd_154, cd_155, cd_156, cd_157, cd_158, cd_159, cd_160, cd_161, cd_162, cd_163, cd_164, cd_165, cd_166, cd_167, cd_168, cd_169, cd_170, cd_171, cd_172, cd_173, cd_174, cd_175, cd_176, cd_177, cd_178, cd_179, cd_180, cd_181, cd_182, cd_183, cd_184, cd_185, cd_186, cd_187, cd_188, cd_189, cd_190, cd_191, cd_192, cd_193, cd_194, cd_195, cd_196, cd_197, cd_198, cd_199, cd_200, cd_201, cd_202]
def cd (k pc : Nat) : Option (Instr × Nat × Nat × Nat × Nat × List Nat) := ((cdL.getD k []).find? fun e => e.1 == pc).map fun e => e.2
end
section
/-! ===== the words of the tables, by their places: by program (wip/p28/gen2.py) ===== -/
def tb (j : Nat) : List Cond := match j with
  | 0 => k2_sels lw_privs
  | 1 => tables_1_1
  | 2 => tables_1_2
  | 3 => tables_1_3
  | 4 => tables_1_4
  | 5 => tables_1_5
  | _ => []
theorem tb_in {j i : Nat} {w : Cond} (h : (tb j)[i]? = some w) : w ∈ lw_tbl := by
  have h0 := List.mem_of_getElem? h
  unfold lw_tbl tables_1
  match j with
  | 0 => exact List.mem_append_left _ h0
  | 1 => exact List.mem_append_right _ (List.mem_append_left _ h0)
  | 2 => exact List.mem_append_right _ (List.mem_append_right _ (List.mem_append_left _ h0))
  | 3 => exact List.mem_append_right _ (List.mem_append_right _ (List.mem_append_right _ (List.mem_append_left _ h0)))
  | 4 => exact List.mem_append_right _ (List.mem_append_right _ (List.mem_append_right _ (List.mem_append_right _ (List.mem_append_left _ h0))))
  | 5 => exact List.mem_append_right _ (List.mem_append_right _ (List.mem_append_right _ (List.mem_append_right _ (List.mem_append_right _ h0))))
  | n + 6 => simp [tb] at h
def GW : List Cond := lw_tbl.filter goodWord
def wIs (ws : List Cond) (ps : List (Nat × Nat)) : Bool := match ws, ps with
  | [], _ => true
  | w :: ws, p :: ps => decide ((tb p.1)[p.2]? = some w) && wIs ws ps
  | _ :: _, [] => false
theorem wIs_mem {ws : List Cond} {ps : List (Nat × Nat)} (h : wIs ws ps = true) : ∀ w ∈ ws, w ∈ lw_tbl := by
  induction ws generalizing ps with
  | nil => exact fun w hw => absurd hw List.not_mem_nil
  | cons v ws ih =>
    cases ps with
    | nil => simp [wIs] at h
    | cons p ps =>
      simp only [wIs, Bool.and_eq_true, decide_eq_true_eq] at h
      exact fun w hw => (List.mem_cons.mp hw).elim (fun e => e ▸ tb_in h.1) (ih h.2 w)
theorem wIs_good {ws : List Cond} {ps : List (Nat × Nat)} (h : wIs ws ps = true) (hg : ws.all goodWord = true) : ∀ w ∈ ws, w ∈ GW :=
  fun w hw => List.mem_filter.mpr ⟨wIs_mem h w hw, List.all_eq_true.mp hg w hw⟩
def TXf (a : Nat) : u_T := match a with
  | 0 => TX0
  | 1 => TX1
  | 2 => TX2
  | 3 => TX3
  | 4 => TX4
  | 5 => TX5
  | 6 => TX6
  | 7 => TX7
  | 8 => TX8
  | _ => TX0
def fwd (q : Nat × Nat × Nat × Nat × Nat) : Cond := match q with
  | (o, i, a, b, c) => if c = 0 then .fieldLink (Rn o) i (TXf a b).1 (TXf a b).2.1 (TXf a b).2.2.1 else .fieldLinkNest (Rn o) i (TXf a b).1 (TXf a b).2.1 (TXf a b).2.2.1 "RuneBands"
def mwd (q : Nat × Nat × Nat × Nat × Nat) : Cond := match q with
  | (o, i, a, _, c) => if c = 6 then .methodLink (Rn o) i Lib.objectInit else if c = 8 then .methodLink (Rn o) i Lib.Math.max.name else if c = 9 then .methodLink (Rn o) i Lib.Math.min.name else if c = 1 ∨ c = 3 ∨ c = 5 then .methodLinkNest (Rn o) i (mN a) "RuneBands" else .methodLink (Rn o) i (mN a)
def cwd (q : Nat × Nat × Nat) : Cond := match q with
  | (o, i, a) => .classLink (Rn o) i (Rn a)
def awd (q : Nat × Nat × Nat) : Cond := match q with
  | (o, i, a) => .classLink (Rn o) i (Rn (if a = 3 then 5 else 7))
def lwd (q : Nat × Nat × Nat) : Cond := match q with
  | (o, i, a) => .constantLong (Rn o) i (lcv a)
def kiwd (q : Nat × Nat × Nat) : Cond := match q with
  | (o, i, a) => .constant (Rn o) i (icv a)
theorem wflg_0 : wIs ([(0, 12, 0, 0, 0), (0, 18, 0, 1, 0), (0, 22, 0, 2, 0), (0, 25, 0, 3, 0), (0, 28, 0, 4, 0), (0, 31, 0, 5, 0), (0, 35, 0, 6, 0), (0, 38, 0, 7, 0), (0, 41, 0, 8, 0), (0, 44, 0, 9, 0), (0, 47, 0, 10, 0), (0, 79, 0, 11, 0), (0, 83, 0, 12, 0), (1, 24, 1, 0, 0), (1, 27, 1, 1, 0), (1, 30, 1, 2, 0), (2, 11, 2, 0, 0), (2, 19, 2, 1, 0), (2, 25, 2, 3, 0), (2, 44, 2, 2, 0)].map fwd) [(1, 124), (1, 125), (1, 126), (1, 127), (1, 128), (1, 129), (1, 130), (1, 131), (1, 132), (1, 133), (1, 134), (1, 135), (1, 137), (1, 113), (1, 114), (1, 115), (1, 87), (1, 88), (1, 91), (1, 89)] = true := by decide +kernel
theorem gflg_0 : ([(0, 12, 0, 0, 0), (0, 18, 0, 1, 0), (0, 22, 0, 2, 0), (0, 25, 0, 3, 0), (0, 28, 0, 4, 0), (0, 31, 0, 5, 0), (0, 35, 0, 6, 0), (0, 38, 0, 7, 0), (0, 41, 0, 8, 0), (0, 44, 0, 9, 0), (0, 47, 0, 10, 0), (0, 79, 0, 11, 0), (0, 83, 0, 12, 0), (1, 24, 1, 0, 0), (1, 27, 1, 1, 0), (1, 30, 1, 2, 0), (2, 11, 2, 0, 0), (2, 19, 2, 1, 0), (2, 25, 2, 3, 0), (2, 44, 2, 2, 0)].map fwd).all goodWord = true := by decide +kernel
theorem wflg_1 : wIs ([(3, 9, 3, 0, 0), (3, 15, 3, 1, 0), (3, 19, 3, 2, 0), (4, 9, 4, 0, 0), (4, 15, 4, 1, 0), (4, 19, 4, 2, 0), (4, 22, 4, 3, 0), (4, 25, 4, 4, 0), (4, 34, 4, 5, 0), (4, 38, 4, 6, 0), (4, 42, 4, 7, 0), (4, 45, 4, 8, 0), (4, 48, 4, 9, 0), (4, 51, 4, 10, 0), (4, 54, 4, 11, 0), (5, 9, 5, 2, 0), (5, 15, 5, 3, 0), (5, 22, 5, 0, 0), (5, 26, 5, 1, 0), (6, 9, 6, 0, 0)].map fwd) [(1, 220), (1, 221), (1, 222), (1, 173), (1, 174), (1, 175), (1, 176), (1, 177), (1, 178), (1, 179), (1, 180), (1, 182), (1, 184), (1, 185), (1, 187), (1, 46), (1, 47), (1, 41), (1, 44), (1, 236)] = true := by decide +kernel
theorem gflg_1 : ([(3, 9, 3, 0, 0), (3, 15, 3, 1, 0), (3, 19, 3, 2, 0), (4, 9, 4, 0, 0), (4, 15, 4, 1, 0), (4, 19, 4, 2, 0), (4, 22, 4, 3, 0), (4, 25, 4, 4, 0), (4, 34, 4, 5, 0), (4, 38, 4, 6, 0), (4, 42, 4, 7, 0), (4, 45, 4, 8, 0), (4, 48, 4, 9, 0), (4, 51, 4, 10, 0), (4, 54, 4, 11, 0), (5, 9, 5, 2, 0), (5, 15, 5, 3, 0), (5, 22, 5, 0, 0), (5, 26, 5, 1, 0), (6, 9, 6, 0, 0)].map fwd).all goodWord = true := by decide +kernel
theorem wflg_2 : wIs ([(6, 15, 6, 1, 0), (7, 9, 7, 1, 0), (7, 15, 7, 2, 0), (7, 18, 7, 0, 0), (8, 12, 8, 0, 0), (8, 19, 8, 1, 0), (8, 26, 8, 2, 0), (8, 33, 8, 3, 0), (8, 40, 8, 4, 0), (8, 47, 8, 5, 0), (8, 51, 8, 6, 0), (8, 57, 8, 7, 0)].map fwd) [(1, 238), (1, 66), (1, 67), (1, 64), (2, 109), (2, 110), (2, 111), (2, 112), (2, 113), (2, 114), (2, 115), (2, 116)] = true := by decide +kernel
theorem gflg_2 : ([(6, 15, 6, 1, 0), (7, 9, 7, 1, 0), (7, 15, 7, 2, 0), (7, 18, 7, 0, 0), (8, 12, 8, 0, 0), (8, 19, 8, 1, 0), (8, 26, 8, 2, 0), (8, 33, 8, 3, 0), (8, 40, 8, 4, 0), (8, 47, 8, 5, 0), (8, 51, 8, 6, 0), (8, 57, 8, 7, 0)].map fwd).all goodWord = true := by decide +kernel
def flgT : List (Nat × Nat × Nat × Nat × Nat) := [(0, 12, 0, 0, 0), (0, 18, 0, 1, 0), (0, 22, 0, 2, 0), (0, 25, 0, 3, 0), (0, 28, 0, 4, 0), (0, 31, 0, 5, 0), (0, 35, 0, 6, 0), (0, 38, 0, 7, 0), (0, 41, 0, 8, 0), (0, 44, 0, 9, 0), (0, 47, 0, 10, 0), (0, 79, 0, 11, 0), (0, 83, 0, 12, 0), (1, 24, 1, 0, 0), (1, 27, 1, 1, 0), (1, 30, 1, 2, 0), (2, 11, 2, 0, 0), (2, 19, 2, 1, 0), (2, 25, 2, 3, 0), (2, 44, 2, 2, 0)] ++ ([(3, 9, 3, 0, 0), (3, 15, 3, 1, 0), (3, 19, 3, 2, 0), (4, 9, 4, 0, 0), (4, 15, 4, 1, 0), (4, 19, 4, 2, 0), (4, 22, 4, 3, 0), (4, 25, 4, 4, 0), (4, 34, 4, 5, 0), (4, 38, 4, 6, 0), (4, 42, 4, 7, 0), (4, 45, 4, 8, 0), (4, 48, 4, 9, 0), (4, 51, 4, 10, 0), (4, 54, 4, 11, 0), (5, 9, 5, 2, 0), (5, 15, 5, 3, 0), (5, 22, 5, 0, 0), (5, 26, 5, 1, 0), (6, 9, 6, 0, 0)] ++ ([(6, 15, 6, 1, 0), (7, 9, 7, 1, 0), (7, 15, 7, 2, 0), (7, 18, 7, 0, 0), (8, 12, 8, 0, 0), (8, 19, 8, 1, 0), (8, 26, 8, 2, 0), (8, 33, 8, 3, 0), (8, 40, 8, 4, 0), (8, 47, 8, 5, 0), (8, 51, 8, 6, 0), (8, 57, 8, 7, 0)]))
theorem flgT_in : ∀ q ∈ flgT, fwd q ∈ GW := (List.forall_mem_append.mpr ⟨(fun q h => wIs_good wflg_0 gflg_0 _ (List.mem_map.mpr ⟨q, h, rfl⟩)), (List.forall_mem_append.mpr ⟨(fun q h => wIs_good wflg_1 gflg_1 _ (List.mem_map.mpr ⟨q, h, rfl⟩)), (fun q h => wIs_good wflg_2 gflg_2 _ (List.mem_map.mpr ⟨q, h, rfl⟩))⟩)⟩)
theorem wfln_0 : wIs ([(0, 138, 1, 2, 1), (1, 9, 5, 0, 1), (1, 15, 5, 1, 1), (8, 123, 6, 0, 1), (8, 127, 6, 1, 1), (8, 153, 7, 0, 1), (8, 212, 4, 8, 1), (8, 215, 4, 11, 1), (8, 219, 4, 7, 1), (8, 227, 4, 10, 1), (8, 266, 2, 2, 1), (8, 304, 5, 0, 1), (8, 307, 5, 1, 1), (8, 316, 0, 11, 1), (8, 317, 0, 12, 1)].map fwd) [(1, 116), (1, 40), (1, 43), (1, 237), (1, 239), (1, 65), (1, 183), (1, 188), (1, 181), (1, 186), (1, 90), (1, 42), (1, 45), (1, 136), (1, 138)] = true := by decide +kernel
def flnT : List (Nat × Nat × Nat × Nat × Nat) := [(0, 138, 1, 2, 1), (1, 9, 5, 0, 1), (1, 15, 5, 1, 1), (8, 123, 6, 0, 1), (8, 127, 6, 1, 1), (8, 153, 7, 0, 1), (8, 212, 4, 8, 1), (8, 215, 4, 11, 1), (8, 219, 4, 7, 1), (8, 227, 4, 10, 1), (8, 266, 2, 2, 1), (8, 304, 5, 0, 1), (8, 307, 5, 1, 1), (8, 316, 0, 11, 1), (8, 317, 0, 12, 1)]
theorem flnT_in : ∀ q ∈ flnT, fwd q ∈ lw_tbl := (fun q h => wIs_mem wfln_0 _ (List.mem_map.mpr ⟨q, h, rfl⟩))
theorem wmlg_0 : wIs ([(0, 3, 0, 1, 6), (0, 50, 2, 1, 0), (0, 53, 50, 1, 0), (0, 59, 3, 3, 0), (0, 63, 7, 2, 0), (0, 67, 5, 3, 0), (0, 70, 201, 2, 2), (0, 76, 200, 2, 2), (0, 86, 19, 3, 0), (0, 89, 21, 2, 0), (0, 93, 53, 2, 0), (0, 96, 4, 4, 0), (0, 100, 22, 2, 0), (0, 104, 24, 2, 0), (0, 128, 12, 2, 0), (0, 131, 9, 2, 0), (0, 134, 14, 3, 0), (0, 141, 6, 4, 0), (0, 144, 0, 2, 9), (1, 3, 0, 1, 6)].map mwd) [(1, 106), (2, 9), (2, 17), (2, 21), (2, 82), (2, 89), (2, 13), (2, 14), (2, 25), (2, 33), (2, 37), (2, 44), (2, 70), (2, 78), (2, 93), (2, 97), (2, 101), (2, 105), (2, 86), (1, 112)] = true := by decide +kernel
theorem gmlg_0 : ([(0, 3, 0, 1, 6), (0, 50, 2, 1, 0), (0, 53, 50, 1, 0), (0, 59, 3, 3, 0), (0, 63, 7, 2, 0), (0, 67, 5, 3, 0), (0, 70, 201, 2, 2), (0, 76, 200, 2, 2), (0, 86, 19, 3, 0), (0, 89, 21, 2, 0), (0, 93, 53, 2, 0), (0, 96, 4, 4, 0), (0, 100, 22, 2, 0), (0, 104, 24, 2, 0), (0, 128, 12, 2, 0), (0, 131, 9, 2, 0), (0, 134, 14, 3, 0), (0, 141, 6, 4, 0), (0, 144, 0, 2, 9), (1, 3, 0, 1, 6)].map mwd).all goodWord = true := by decide +kernel
theorem wmlg_1 : wIs ([(1, 18, 20, 4, 0), (1, 33, 23, 2, 0), (2, 3, 0, 1, 6), (2, 23, 46, 1, 4), (2, 29, 28, 2, 0), (2, 33, 29, 2, 0), (2, 37, 48, 2, 0), (2, 41, 70, 2, 0), (2, 47, 0, 2, 9), (2, 53, 0, 2, 8), (3, 3, 0, 1, 6), (3, 23, 9, 2, 0), (3, 29, 14, 3, 0), (3, 33, 53, 2, 0), (3, 38, 32, 2, 0), (3, 46, 33, 2, 0), (3, 52, 34, 2, 0), (3, 63, 35, 2, 0), (3, 64, 77, 4, 0), (4, 3, 0, 1, 6)].map mwd) [(2, 29), (2, 74), (1, 80), (1, 85), (2, 225), (2, 229), (2, 233), (3, 0), (4, 9), (2, 222), (1, 219), (3, 175), (3, 176), (3, 177), (3, 178), (3, 183), (3, 187), (4, 73), (3, 198), (1, 172)] = true := by decide +kernel
theorem gmlg_1 : ([(1, 18, 20, 4, 0), (1, 33, 23, 2, 0), (2, 3, 0, 1, 6), (2, 23, 46, 1, 4), (2, 29, 28, 2, 0), (2, 33, 29, 2, 0), (2, 37, 48, 2, 0), (2, 41, 70, 2, 0), (2, 47, 0, 2, 9), (2, 53, 0, 2, 8), (3, 3, 0, 1, 6), (3, 23, 9, 2, 0), (3, 29, 14, 3, 0), (3, 33, 53, 2, 0), (3, 38, 32, 2, 0), (3, 46, 33, 2, 0), (3, 52, 34, 2, 0), (3, 63, 35, 2, 0), (3, 64, 77, 4, 0), (4, 3, 0, 1, 6)].map mwd).all goodWord = true := by decide +kernel
theorem wmlg_2 : wIs ([(4, 28, 57, 1, 0), (4, 58, 40, 2, 0), (4, 62, 41, 2, 0), (4, 65, 42, 3, 2), (4, 69, 7, 2, 0), (4, 75, 12, 2, 0), (4, 79, 13, 2, 0), (4, 87, 15, 2, 0), (4, 90, 16, 2, 0), (4, 93, 0, 2, 9), (4, 102, 0, 2, 8), (4, 107, 44, 2, 0), (4, 111, 199, 1, 2), (4, 117, 43, 1, 0), (5, 3, 0, 1, 6), (5, 18, 47, 3, 0), (5, 29, 201, 2, 2), (5, 39, 49, 1, 0), (5, 43, 50, 1, 0), (5, 54, 53, 2, 0)].map mwd) [(4, 86), (4, 87), (4, 98), (4, 107), (4, 91), (4, 92), (4, 93), (4, 102), (4, 103), (4, 104), (4, 106), (4, 111), (4, 116), (4, 117), (1, 32), (1, 33), (1, 37), (3, 50), (3, 138), (3, 54)] = true := by decide +kernel
theorem gmlg_2 : ([(4, 28, 57, 1, 0), (4, 58, 40, 2, 0), (4, 62, 41, 2, 0), (4, 65, 42, 3, 2), (4, 69, 7, 2, 0), (4, 75, 12, 2, 0), (4, 79, 13, 2, 0), (4, 87, 15, 2, 0), (4, 90, 16, 2, 0), (4, 93, 0, 2, 9), (4, 102, 0, 2, 8), (4, 107, 44, 2, 0), (4, 111, 199, 1, 2), (4, 117, 43, 1, 0), (5, 3, 0, 1, 6), (5, 18, 47, 3, 0), (5, 29, 201, 2, 2), (5, 39, 49, 1, 0), (5, 43, 50, 1, 0), (5, 54, 53, 2, 0)].map mwd).all goodWord = true := by decide +kernel
theorem wmlg_3 : wIs ([(5, 61, 54, 3, 0), (5, 68, 57, 1, 0), (5, 72, 199, 1, 2), (6, 3, 0, 1, 6), (7, 3, 0, 1, 6), (7, 30, 74, 3, 0), (7, 38, 78, 4, 0), (8, 3, 0, 1, 6), (8, 11, 46, 1, 4), (8, 25, 25, 1, 4), (8, 61, 1, 2, 0), (8, 65, 117, 1, 2), (8, 76, 106, 1, 0), (8, 79, 47, 3, 0), (8, 83, 50, 1, 0), (8, 87, 51, 2, 0), (8, 95, 122, 1, 2), (8, 100, 53, 2, 0), (8, 104, 54, 3, 0), (8, 107, 55, 1, 0)].map mwd) [(5, 9), (3, 46), (3, 56), (1, 235), (1, 63), (3, 207), (3, 203), (1, 24), (1, 29), (1, 77), (2, 5), (3, 237), (4, 1), (4, 10), (3, 76), (3, 86), (4, 18), (3, 110), (4, 24), (5, 5)] = true := by decide +kernel
theorem gmlg_3 : ([(5, 61, 54, 3, 0), (5, 68, 57, 1, 0), (5, 72, 199, 1, 2), (6, 3, 0, 1, 6), (7, 3, 0, 1, 6), (7, 30, 74, 3, 0), (7, 38, 78, 4, 0), (8, 3, 0, 1, 6), (8, 11, 46, 1, 4), (8, 25, 25, 1, 4), (8, 61, 1, 2, 0), (8, 65, 117, 1, 2), (8, 76, 106, 1, 0), (8, 79, 47, 3, 0), (8, 83, 50, 1, 0), (8, 87, 51, 2, 0), (8, 95, 122, 1, 2), (8, 100, 53, 2, 0), (8, 104, 54, 3, 0), (8, 107, 55, 1, 0)].map mwd).all goodWord = true := by decide +kernel
theorem wmlg_4 : wIs ([(8, 110, 60, 1, 0), (8, 113, 56, 1, 0), (8, 116, 65, 1, 0), (8, 120, 72, 1, 0), (8, 131, 77, 4, 0), (8, 140, 75, 3, 0), (8, 144, 71, 2, 0), (8, 149, 76, 2, 0), (8, 156, 116, 3, 2), (8, 162, 107, 3, 0), (8, 166, 108, 2, 0), (8, 171, 73, 3, 0), (8, 174, 52, 2, 0), (8, 179, 109, 3, 0), (8, 182, 9, 2, 0), (8, 187, 14, 3, 0), (8, 192, 31, 4, 0), (8, 196, 35, 2, 0), (8, 197, 110, 2, 0), (8, 200, 8, 2, 0)].map mwd) [(3, 67), (4, 234), (4, 171), (4, 178), (4, 182), (4, 184), (3, 218), (4, 37), (3, 19), (3, 106), (3, 38), (3, 223), (3, 134), (3, 140), (3, 149), (3, 150), (3, 171), (4, 58), (3, 167), (3, 145)] = true := by decide +kernel
theorem gmlg_4 : ([(8, 110, 60, 1, 0), (8, 113, 56, 1, 0), (8, 116, 65, 1, 0), (8, 120, 72, 1, 0), (8, 131, 77, 4, 0), (8, 140, 75, 3, 0), (8, 144, 71, 2, 0), (8, 149, 76, 2, 0), (8, 156, 116, 3, 2), (8, 162, 107, 3, 0), (8, 166, 108, 2, 0), (8, 171, 73, 3, 0), (8, 174, 52, 2, 0), (8, 179, 109, 3, 0), (8, 182, 9, 2, 0), (8, 187, 14, 3, 0), (8, 192, 31, 4, 0), (8, 196, 35, 2, 0), (8, 197, 110, 2, 0), (8, 200, 8, 2, 0)].map mwd).all goodWord = true := by decide +kernel
theorem wmlg_5 : wIs ([(8, 203, 36, 2, 0), (8, 209, 39, 4, 0), (8, 224, 45, 2, 0), (8, 230, 49, 1, 0), (8, 233, 111, 2, 0), (8, 236, 57, 1, 0), (8, 240, 13, 2, 0), (8, 244, 199, 1, 2), (8, 252, 63, 1, 0), (8, 255, 64, 2, 0), (8, 263, 58, 1, 0), (8, 269, 27, 3, 0), (8, 289, 26, 3, 0), (8, 292, 15, 2, 0), (8, 295, 16, 2, 0), (8, 298, 17, 2, 0), (8, 301, 123, 1, 2), (8, 310, 59, 1, 0), (8, 313, 61, 1, 0), (8, 320, 7, 2, 0)].map mwd) [(4, 69), (4, 82), (4, 138), (4, 211), (4, 212), (4, 224), (4, 225), (4, 226), (4, 150), (4, 155), (3, 42), (2, 218), (4, 5), (3, 111), (3, 115), (3, 119), (3, 123), (3, 62), (3, 72), (3, 144)] = true := by decide +kernel
theorem gmlg_5 : ([(8, 203, 36, 2, 0), (8, 209, 39, 4, 0), (8, 224, 45, 2, 0), (8, 230, 49, 1, 0), (8, 233, 111, 2, 0), (8, 236, 57, 1, 0), (8, 240, 13, 2, 0), (8, 244, 199, 1, 2), (8, 252, 63, 1, 0), (8, 255, 64, 2, 0), (8, 263, 58, 1, 0), (8, 269, 27, 3, 0), (8, 289, 26, 3, 0), (8, 292, 15, 2, 0), (8, 295, 16, 2, 0), (8, 298, 17, 2, 0), (8, 301, 123, 1, 2), (8, 310, 59, 1, 0), (8, 313, 61, 1, 0), (8, 320, 7, 2, 0)].map mwd).all goodWord = true := by decide +kernel
theorem wmlg_6 : wIs ([(8, 323, 10, 2, 0), (8, 326, 11, 2, 0), (8, 329, 12, 2, 0), (8, 332, 37, 2, 0), (8, 336, 112, 3, 0), (8, 343, 118, 1, 2), (8, 346, 119, 1, 2), (8, 349, 120, 1, 2), (8, 352, 121, 1, 2), (10, 9, 81, 3, 0), (10, 18, 82, 3, 0), (10, 24, 85, 1, 0), (10, 31, 86, 2, 0), (10, 35, 87, 3, 0), (10, 38, 88, 2, 0), (10, 41, 89, 3, 0), (10, 44, 90, 3, 0), (10, 47, 91, 3, 0), (10, 50, 92, 3, 0), (10, 53, 93, 2, 0)].map mwd) [(3, 151), (3, 155), (3, 159), (3, 193), (4, 216), (2, 58), (2, 61), (4, 21), (4, 22), (3, 233), (4, 14), (4, 167), (4, 32), (3, 82), (3, 15), (3, 214), (3, 130), (4, 45), (4, 53), (3, 163)] = true := by decide +kernel
theorem gmlg_6 : ([(8, 323, 10, 2, 0), (8, 326, 11, 2, 0), (8, 329, 12, 2, 0), (8, 332, 37, 2, 0), (8, 336, 112, 3, 0), (8, 343, 118, 1, 2), (8, 346, 119, 1, 2), (8, 349, 120, 1, 2), (8, 352, 121, 1, 2), (10, 9, 81, 3, 0), (10, 18, 82, 3, 0), (10, 24, 85, 1, 0), (10, 31, 86, 2, 0), (10, 35, 87, 3, 0), (10, 38, 88, 2, 0), (10, 41, 89, 3, 0), (10, 44, 90, 3, 0), (10, 47, 91, 3, 0), (10, 50, 92, 3, 0), (10, 53, 93, 2, 0)].map mwd).all goodWord = true := by decide +kernel
theorem wmlg_7 : wIs ([(10, 56, 94, 2, 0), (10, 60, 95, 2, 0), (10, 63, 96, 2, 0), (10, 66, 97, 2, 0), (10, 69, 101, 2, 0), (10, 72, 104, 1, 0), (10, 79, 137, 2, 7), (10, 84, 136, 3, 7), (10, 88, 139, 3, 7), (10, 90, 142, 2, 7), (10, 92, 138, 3, 7), (10, 94, 149, 1, 2), (10, 98, 132, 3, 7), (10, 100, 133, 3, 7), (10, 102, 135, 2, 7), (10, 104, 140, 3, 7), (10, 106, 141, 3, 7), (10, 108, 143, 2, 7), (10, 110, 144, 2, 7), (10, 112, 145, 2, 7)].map mwd) [(4, 65), (4, 77), (4, 126), (4, 133), (4, 145), (2, 146), (3, 11), (3, 78), (3, 127), (3, 160), (3, 211), (3, 6), (3, 230), (4, 11), (4, 29), (4, 42), (4, 50), (4, 62), (4, 74), (4, 123)] = true := by decide +kernel
theorem gmlg_7 : ([(10, 56, 94, 2, 0), (10, 60, 95, 2, 0), (10, 63, 96, 2, 0), (10, 66, 97, 2, 0), (10, 69, 101, 2, 0), (10, 72, 104, 1, 0), (10, 79, 137, 2, 7), (10, 84, 136, 3, 7), (10, 88, 139, 3, 7), (10, 90, 142, 2, 7), (10, 92, 138, 3, 7), (10, 94, 149, 1, 2), (10, 98, 132, 3, 7), (10, 100, 133, 3, 7), (10, 102, 135, 2, 7), (10, 104, 140, 3, 7), (10, 106, 141, 3, 7), (10, 108, 143, 2, 7), (10, 110, 144, 2, 7), (10, 112, 145, 2, 7)].map mwd).all goodWord = true := by decide +kernel
theorem wmlg_8 : wIs ([(10, 114, 146, 2, 7), (10, 116, 147, 2, 7), (10, 118, 102, 1, 0), (10, 121, 134, 1, 7), (10, 124, 152, 2, 2), (10, 128, 154, 2, 2), (10, 131, 153, 4, 2), (10, 135, 98, 1, 0), (10, 138, 99, 1, 0), (10, 141, 148, 1, 7), (10, 143, 100, 1, 0), (10, 147, 84, 1, 0), (10, 150, 151, 1, 2), (10, 154, 83, 1, 0), (10, 157, 131, 2, 2), (10, 160, 157, 1, 2), (10, 163, 80, 1, 4), (10, 164, 150, 1, 2), (10, 167, 155, 1, 2), (10, 170, 130, 2, 2)].map mwd) [(4, 130), (4, 142), (4, 160), (4, 164), (4, 191), (4, 194), (4, 197), (4, 203), (4, 207), (2, 142), (4, 220), (4, 230), (4, 188), (5, 1), (2, 138), (5, 13), (1, 21), (3, 227), (4, 200), (2, 134)] = true := by decide +kernel
theorem gmlg_8 : ([(10, 114, 146, 2, 7), (10, 116, 147, 2, 7), (10, 118, 102, 1, 0), (10, 121, 134, 1, 7), (10, 124, 152, 2, 2), (10, 128, 154, 2, 2), (10, 131, 153, 4, 2), (10, 135, 98, 1, 0), (10, 138, 99, 1, 0), (10, 141, 148, 1, 7), (10, 143, 100, 1, 0), (10, 147, 84, 1, 0), (10, 150, 151, 1, 2), (10, 154, 83, 1, 0), (10, 157, 131, 2, 2), (10, 160, 157, 1, 2), (10, 163, 80, 1, 4), (10, 164, 150, 1, 2), (10, 167, 155, 1, 2), (10, 170, 130, 2, 2)].map mwd).all goodWord = true := by decide +kernel
theorem wmlg_9 : wIs ([(10, 175, 158, 3, 2), (10, 178, 156, 1, 2)].map mwd) [(5, 10), (4, 227)] = true := by decide +kernel
theorem gmlg_9 : ([(10, 175, 158, 3, 2), (10, 178, 156, 1, 2)].map mwd).all goodWord = true := by decide +kernel
def mlgT : List (Nat × Nat × Nat × Nat × Nat) := [(0, 3, 0, 1, 6), (0, 50, 2, 1, 0), (0, 53, 50, 1, 0), (0, 59, 3, 3, 0), (0, 63, 7, 2, 0), (0, 67, 5, 3, 0), (0, 70, 201, 2, 2), (0, 76, 200, 2, 2), (0, 86, 19, 3, 0), (0, 89, 21, 2, 0), (0, 93, 53, 2, 0), (0, 96, 4, 4, 0), (0, 100, 22, 2, 0), (0, 104, 24, 2, 0), (0, 128, 12, 2, 0), (0, 131, 9, 2, 0), (0, 134, 14, 3, 0), (0, 141, 6, 4, 0), (0, 144, 0, 2, 9), (1, 3, 0, 1, 6)] ++ ([(1, 18, 20, 4, 0), (1, 33, 23, 2, 0), (2, 3, 0, 1, 6), (2, 23, 46, 1, 4), (2, 29, 28, 2, 0), (2, 33, 29, 2, 0), (2, 37, 48, 2, 0), (2, 41, 70, 2, 0), (2, 47, 0, 2, 9), (2, 53, 0, 2, 8), (3, 3, 0, 1, 6), (3, 23, 9, 2, 0), (3, 29, 14, 3, 0), (3, 33, 53, 2, 0), (3, 38, 32, 2, 0), (3, 46, 33, 2, 0), (3, 52, 34, 2, 0), (3, 63, 35, 2, 0), (3, 64, 77, 4, 0), (4, 3, 0, 1, 6)] ++ ([(4, 28, 57, 1, 0), (4, 58, 40, 2, 0), (4, 62, 41, 2, 0), (4, 65, 42, 3, 2), (4, 69, 7, 2, 0), (4, 75, 12, 2, 0), (4, 79, 13, 2, 0), (4, 87, 15, 2, 0), (4, 90, 16, 2, 0), (4, 93, 0, 2, 9), (4, 102, 0, 2, 8), (4, 107, 44, 2, 0), (4, 111, 199, 1, 2), (4, 117, 43, 1, 0), (5, 3, 0, 1, 6), (5, 18, 47, 3, 0), (5, 29, 201, 2, 2), (5, 39, 49, 1, 0), (5, 43, 50, 1, 0), (5, 54, 53, 2, 0)] ++ ([(5, 61, 54, 3, 0), (5, 68, 57, 1, 0), (5, 72, 199, 1, 2), (6, 3, 0, 1, 6), (7, 3, 0, 1, 6), (7, 30, 74, 3, 0), (7, 38, 78, 4, 0), (8, 3, 0, 1, 6), (8, 11, 46, 1, 4), (8, 25, 25, 1, 4), (8, 61, 1, 2, 0), (8, 65, 117, 1, 2), (8, 76, 106, 1, 0), (8, 79, 47, 3, 0), (8, 83, 50, 1, 0), (8, 87, 51, 2, 0), (8, 95, 122, 1, 2), (8, 100, 53, 2, 0), (8, 104, 54, 3, 0), (8, 107, 55, 1, 0)] ++ ([(8, 110, 60, 1, 0), (8, 113, 56, 1, 0), (8, 116, 65, 1, 0), (8, 120, 72, 1, 0), (8, 131, 77, 4, 0), (8, 140, 75, 3, 0), (8, 144, 71, 2, 0), (8, 149, 76, 2, 0), (8, 156, 116, 3, 2), (8, 162, 107, 3, 0), (8, 166, 108, 2, 0), (8, 171, 73, 3, 0), (8, 174, 52, 2, 0), (8, 179, 109, 3, 0), (8, 182, 9, 2, 0), (8, 187, 14, 3, 0), (8, 192, 31, 4, 0), (8, 196, 35, 2, 0), (8, 197, 110, 2, 0), (8, 200, 8, 2, 0)] ++ ([(8, 203, 36, 2, 0), (8, 209, 39, 4, 0), (8, 224, 45, 2, 0), (8, 230, 49, 1, 0), (8, 233, 111, 2, 0), (8, 236, 57, 1, 0), (8, 240, 13, 2, 0), (8, 244, 199, 1, 2), (8, 252, 63, 1, 0), (8, 255, 64, 2, 0), (8, 263, 58, 1, 0), (8, 269, 27, 3, 0), (8, 289, 26, 3, 0), (8, 292, 15, 2, 0), (8, 295, 16, 2, 0), (8, 298, 17, 2, 0), (8, 301, 123, 1, 2), (8, 310, 59, 1, 0), (8, 313, 61, 1, 0), (8, 320, 7, 2, 0)] ++ ([(8, 323, 10, 2, 0), (8, 326, 11, 2, 0), (8, 329, 12, 2, 0), (8, 332, 37, 2, 0), (8, 336, 112, 3, 0), (8, 343, 118, 1, 2), (8, 346, 119, 1, 2), (8, 349, 120, 1, 2), (8, 352, 121, 1, 2), (10, 9, 81, 3, 0), (10, 18, 82, 3, 0), (10, 24, 85, 1, 0), (10, 31, 86, 2, 0), (10, 35, 87, 3, 0), (10, 38, 88, 2, 0), (10, 41, 89, 3, 0), (10, 44, 90, 3, 0), (10, 47, 91, 3, 0), (10, 50, 92, 3, 0), (10, 53, 93, 2, 0)] ++ ([(10, 56, 94, 2, 0), (10, 60, 95, 2, 0), (10, 63, 96, 2, 0), (10, 66, 97, 2, 0), (10, 69, 101, 2, 0), (10, 72, 104, 1, 0), (10, 79, 137, 2, 7), (10, 84, 136, 3, 7), (10, 88, 139, 3, 7), (10, 90, 142, 2, 7), (10, 92, 138, 3, 7), (10, 94, 149, 1, 2), (10, 98, 132, 3, 7), (10, 100, 133, 3, 7), (10, 102, 135, 2, 7), (10, 104, 140, 3, 7), (10, 106, 141, 3, 7), (10, 108, 143, 2, 7), (10, 110, 144, 2, 7), (10, 112, 145, 2, 7)] ++ ([(10, 114, 146, 2, 7), (10, 116, 147, 2, 7), (10, 118, 102, 1, 0), (10, 121, 134, 1, 7), (10, 124, 152, 2, 2), (10, 128, 154, 2, 2), (10, 131, 153, 4, 2), (10, 135, 98, 1, 0), (10, 138, 99, 1, 0), (10, 141, 148, 1, 7), (10, 143, 100, 1, 0), (10, 147, 84, 1, 0), (10, 150, 151, 1, 2), (10, 154, 83, 1, 0), (10, 157, 131, 2, 2), (10, 160, 157, 1, 2), (10, 163, 80, 1, 4), (10, 164, 150, 1, 2), (10, 167, 155, 1, 2), (10, 170, 130, 2, 2)] ++ ([(10, 175, 158, 3, 2), (10, 178, 156, 1, 2)])))))))))
theorem mlgT_in : ∀ q ∈ mlgT, mwd q ∈ GW := (List.forall_mem_append.mpr ⟨(fun q h => wIs_good wmlg_0 gmlg_0 _ (List.mem_map.mpr ⟨q, h, rfl⟩)), (List.forall_mem_append.mpr ⟨(fun q h => wIs_good wmlg_1 gmlg_1 _ (List.mem_map.mpr ⟨q, h, rfl⟩)), (List.forall_mem_append.mpr ⟨(fun q h => wIs_good wmlg_2 gmlg_2 _ (List.mem_map.mpr ⟨q, h, rfl⟩)), (List.forall_mem_append.mpr ⟨(fun q h => wIs_good wmlg_3 gmlg_3 _ (List.mem_map.mpr ⟨q, h, rfl⟩)), (List.forall_mem_append.mpr ⟨(fun q h => wIs_good wmlg_4 gmlg_4 _ (List.mem_map.mpr ⟨q, h, rfl⟩)), (List.forall_mem_append.mpr ⟨(fun q h => wIs_good wmlg_5 gmlg_5 _ (List.mem_map.mpr ⟨q, h, rfl⟩)), (List.forall_mem_append.mpr ⟨(fun q h => wIs_good wmlg_6 gmlg_6 _ (List.mem_map.mpr ⟨q, h, rfl⟩)), (List.forall_mem_append.mpr ⟨(fun q h => wIs_good wmlg_7 gmlg_7 _ (List.mem_map.mpr ⟨q, h, rfl⟩)), (List.forall_mem_append.mpr ⟨(fun q h => wIs_good wmlg_8 gmlg_8 _ (List.mem_map.mpr ⟨q, h, rfl⟩)), (fun q h => wIs_good wmlg_9 gmlg_9 _ (List.mem_map.mpr ⟨q, h, rfl⟩))⟩)⟩)⟩)⟩)⟩)⟩)⟩)⟩)⟩)
theorem wmln_0 : wIs ([(0, 11, 18, 1, 5), (0, 107, 127, 3, 3), (0, 111, 125, 2, 3), (0, 115, 121, 1, 3), (0, 119, 120, 1, 3), (0, 122, 126, 2, 3), (0, 125, 128, 3, 3), (2, 24, 69, 1, 5), (3, 42, 118, 1, 3), (3, 49, 119, 1, 3), (3, 55, 127, 3, 3), (3, 59, 125, 2, 3), (4, 83, 128, 3, 3), (4, 99, 127, 3, 3), (4, 121, 125, 2, 3), (4, 125, 126, 2, 3), (4, 128, 129, 2, 3), (5, 35, 129, 2, 3), (5, 46, 125, 2, 3), (5, 50, 127, 3, 3)].map mwd) [(1, 109), (2, 49), (2, 48), (2, 52), (2, 55), (2, 64), (2, 67), (1, 86), (3, 182), (3, 192), (3, 191), (3, 197), (4, 97), (4, 105), (4, 121), (4, 122), (4, 115), (2, 237), (2, 41), (4, 28)] = true := by decide +kernel
theorem wmln_1 : wIs ([(5, 58, 124, 1, 3), (5, 64, 120, 1, 3), (5, 78, 119, 1, 3), (5, 81, 121, 1, 3), (6, 19, 127, 3, 3), (6, 23, 116, 3, 3), (6, 27, 125, 2, 3), (6, 31, 118, 1, 3), (7, 22, 129, 2, 3), (7, 26, 125, 2, 3), (7, 34, 127, 3, 3), (8, 18, 69, 1, 5), (8, 32, 0, 1, 5), (8, 39, 38, 1, 5), (8, 46, 30, 1, 5), (8, 56, 62, 1, 5)].map mwd) [(4, 238), (3, 55), (3, 66), (3, 71), (4, 159), (4, 175), (4, 176), (4, 177), (3, 4), (3, 202), (4, 41), (1, 60), (1, 103), (1, 169), (1, 216), (1, 232)] = true := by decide +kernel
def mlnT : List (Nat × Nat × Nat × Nat × Nat) := [(0, 11, 18, 1, 5), (0, 107, 127, 3, 3), (0, 111, 125, 2, 3), (0, 115, 121, 1, 3), (0, 119, 120, 1, 3), (0, 122, 126, 2, 3), (0, 125, 128, 3, 3), (2, 24, 69, 1, 5), (3, 42, 118, 1, 3), (3, 49, 119, 1, 3), (3, 55, 127, 3, 3), (3, 59, 125, 2, 3), (4, 83, 128, 3, 3), (4, 99, 127, 3, 3), (4, 121, 125, 2, 3), (4, 125, 126, 2, 3), (4, 128, 129, 2, 3), (5, 35, 129, 2, 3), (5, 46, 125, 2, 3), (5, 50, 127, 3, 3)] ++ ([(5, 58, 124, 1, 3), (5, 64, 120, 1, 3), (5, 78, 119, 1, 3), (5, 81, 121, 1, 3), (6, 19, 127, 3, 3), (6, 23, 116, 3, 3), (6, 27, 125, 2, 3), (6, 31, 118, 1, 3), (7, 22, 129, 2, 3), (7, 26, 125, 2, 3), (7, 34, 127, 3, 3), (8, 18, 69, 1, 5), (8, 32, 0, 1, 5), (8, 39, 38, 1, 5), (8, 46, 30, 1, 5), (8, 56, 62, 1, 5)])
theorem mlnT_in : ∀ q ∈ mlnT, mwd q ∈ lw_tbl := (List.forall_mem_append.mpr ⟨(fun q h => wIs_mem wmln_0 _ (List.mem_map.mpr ⟨q, h, rfl⟩)), (fun q h => wIs_mem wmln_1 _ (List.mem_map.mpr ⟨q, h, rfl⟩))⟩)
theorem wclg_0 : wIs ([(0, 9, 1), (2, 9, 5), (2, 17, 7), (8, 9, 5), (8, 16, 7), (8, 23, 2), (8, 30, 0), (8, 37, 4), (8, 44, 3), (8, 54, 6), (10, 10, 8)].map cwd) [(1, 107), (1, 81), (1, 83), (1, 27), (1, 58), (1, 75), (1, 101), (1, 167), (1, 214), (1, 230), (1, 19)] = true := by decide +kernel
theorem gclg_0 : ([(0, 9, 1), (2, 9, 5), (2, 17, 7), (8, 9, 5), (8, 16, 7), (8, 23, 2), (8, 30, 0), (8, 37, 4), (8, 44, 3), (8, 54, 6), (10, 10, 8)].map cwd).all goodWord = true := by decide +kernel
def clgT : List (Nat × Nat × Nat) := [(0, 9, 1), (2, 9, 5), (2, 17, 7), (8, 9, 5), (8, 16, 7), (8, 23, 2), (8, 30, 0), (8, 37, 4), (8, 44, 3), (8, 54, 6), (10, 10, 8)]
theorem clgT_in : ∀ q ∈ clgT, cwd q ∈ GW := (fun q h => wIs_good wclg_0 gclg_0 _ (List.mem_map.mpr ⟨q, h, rfl⟩))
theorem walg_0 : wIs ([(2, 9, 3), (2, 17, 4)].map awd) [(1, 81), (1, 83)] = true := by decide +kernel
theorem galg_0 : ([(2, 9, 3), (2, 17, 4)].map awd).all goodWord = true := by decide +kernel
def algT : List (Nat × Nat × Nat) := [(2, 9, 3), (2, 17, 4)]
theorem algT_in : ∀ q ∈ algT, awd q ∈ GW := (fun q h => wIs_good walg_0 galg_0 _ (List.mem_map.mpr ⟨q, h, rfl⟩))
theorem wllg_0 : wIs ([(4, 105, 0), (10, 75, 1), (10, 77, 2), (11, 314, 3), (11, 316, 4), (11, 318, 5)].map lwd) [(4, 110), (3, 9), (3, 10), (3, 59), (3, 60), (3, 61)] = true := by decide +kernel
theorem gllg_0 : ([(4, 105, 0), (10, 75, 1), (10, 77, 2), (11, 314, 3), (11, 316, 4), (11, 318, 5)].map lwd).all goodWord = true := by decide +kernel
def llgT : List (Nat × Nat × Nat) := [(4, 105, 0), (10, 75, 1), (10, 77, 2), (11, 314, 3), (11, 316, 4), (11, 318, 5)]
theorem llgT_in : ∀ q ∈ llgT, lwd q ∈ GW := (fun q h => wIs_good wllg_0 gllg_0 _ (List.mem_map.mpr ⟨q, h, rfl⟩))
theorem wicg_0 : wIs ([(10, 7, 0), (10, 8, 1), (10, 17, 2), (10, 23, 3), (10, 30, 4), (10, 173, 5), (10, 174, 6)].map kiwd) [(2, 137), (2, 141), (3, 77), (3, 126), (3, 5), (5, 16), (5, 17)] = true := by decide +kernel
theorem gicg_0 : ([(10, 7, 0), (10, 8, 1), (10, 17, 2), (10, 23, 3), (10, 30, 4), (10, 173, 5), (10, 174, 6)].map kiwd).all goodWord = true := by decide +kernel
def icgT : List (Nat × Nat × Nat) := [(10, 7, 0), (10, 8, 1), (10, 17, 2), (10, 23, 3), (10, 30, 4), (10, 173, 5), (10, 174, 6)]
theorem icgT_in : ∀ q ∈ icgT, kiwd q ∈ GW := (fun q h => wIs_good wicg_0 gicg_0 _ (List.mem_map.mpr ⟨q, h, rfl⟩))
def iwd (a : Nat) : Cond := .instantiable (Rn a) (nf a)
def zwd (a : Nat) : Cond := .initialized (Rn a)
theorem wins_0 : wIs ([(0), (1), (2), (3), (4), (5), (6), (7), (8)].map iwd) [(1, 102), (1, 108), (1, 76), (1, 215), (1, 168), (1, 28), (1, 231), (1, 59), (1, 20)] = true := by decide +kernel
theorem gins_0 : ([(0), (1), (2), (3), (4), (5), (6), (7), (8)].map iwd).all goodWord = true := by decide +kernel
def insT : List (Nat) := [(0), (1), (2), (3), (4), (5), (6), (7), (8)]
theorem insT_in : ∀ q ∈ insT, iwd q ∈ GW := (fun q h => wIs_good wins_0 gins_0 _ (List.mem_map.mpr ⟨q, h, rfl⟩))
theorem wini_0 : wIs ([(0), (1), (2), (3), (4), (5), (6), (7), (8), (9), (10), (11), (12), (13)].map zwd) [(1, 6), (1, 7), (1, 5), (1, 9), (1, 8), (1, 2), (1, 10), (1, 4), (1, 1), (1, 1), (1, 0), (1, 17), (1, 11), (1, 3)] = true := by decide +kernel
theorem gini_0 : ([(0), (1), (2), (3), (4), (5), (6), (7), (8), (9), (10), (11), (12), (13)].map zwd).all goodWord = true := by decide +kernel
def iniT : List (Nat) := [(0), (1), (2), (3), (4), (5), (6), (7), (8), (9), (10), (11), (12), (13)]
theorem iniT_in : ∀ q ∈ iniT, zwd q ∈ GW := (fun q h => wIs_good wini_0 gini_0 _ (List.mem_map.mpr ⟨q, h, rfl⟩))
def pwd (q : Nat × Nat) : Cond := u_lay (Rn q.1) (TXf q.1) q.2
theorem wlay_0 : wIs ([(0, 0), (0, 1), (0, 2), (0, 3), (0, 4), (0, 5), (0, 6), (0, 7), (0, 8), (0, 9), (0, 10), (0, 11), (0, 12), (1, 0), (1, 1), (1, 2), (2, 0), (2, 1), (2, 2), (2, 3)].map pwd) [(1, 139), (1, 141), (1, 143), (1, 145), (1, 147), (1, 149), (1, 151), (1, 153), (1, 155), (1, 157), (1, 159), (1, 161), (1, 163), (1, 117), (1, 119), (1, 121), (1, 92), (1, 94), (1, 96), (1, 98)] = true := by decide +kernel
theorem glay_0 : ([(0, 0), (0, 1), (0, 2), (0, 3), (0, 4), (0, 5), (0, 6), (0, 7), (0, 8), (0, 9), (0, 10), (0, 11), (0, 12), (1, 0), (1, 1), (1, 2), (2, 0), (2, 1), (2, 2), (2, 3)].map pwd).all goodWord = true := by decide +kernel
theorem wlay_1 : wIs ([(3, 0), (3, 1), (3, 2), (4, 0), (4, 1), (4, 2), (4, 3), (4, 4), (4, 5), (4, 6), (4, 7), (4, 8), (4, 9), (4, 10), (4, 11), (5, 0), (5, 1), (5, 2), (5, 3), (6, 0)].map pwd) [(1, 223), (1, 225), (1, 227), (1, 189), (1, 191), (1, 193), (1, 195), (1, 197), (1, 199), (1, 201), (1, 203), (1, 205), (1, 207), (1, 209), (1, 211), (1, 48), (1, 50), (1, 52), (1, 54), (2, 0)] = true := by decide +kernel
theorem glay_1 : ([(3, 0), (3, 1), (3, 2), (4, 0), (4, 1), (4, 2), (4, 3), (4, 4), (4, 5), (4, 6), (4, 7), (4, 8), (4, 9), (4, 10), (4, 11), (5, 0), (5, 1), (5, 2), (5, 3), (6, 0)].map pwd).all goodWord = true := by decide +kernel
theorem wlay_2 : wIs ([(6, 1), (7, 0), (7, 1), (7, 2), (8, 0), (8, 1), (8, 2), (8, 3), (8, 4), (8, 5), (8, 6), (8, 7)].map pwd) [(2, 2), (1, 68), (1, 70), (1, 72), (2, 117), (2, 119), (2, 121), (2, 123), (2, 125), (2, 127), (2, 129), (2, 131)] = true := by decide +kernel
theorem glay_2 : ([(6, 1), (7, 0), (7, 1), (7, 2), (8, 0), (8, 1), (8, 2), (8, 3), (8, 4), (8, 5), (8, 6), (8, 7)].map pwd).all goodWord = true := by decide +kernel
def layT : List (Nat × Nat) := [(0, 0), (0, 1), (0, 2), (0, 3), (0, 4), (0, 5), (0, 6), (0, 7), (0, 8), (0, 9), (0, 10), (0, 11), (0, 12), (1, 0), (1, 1), (1, 2), (2, 0), (2, 1), (2, 2), (2, 3)] ++ ([(3, 0), (3, 1), (3, 2), (4, 0), (4, 1), (4, 2), (4, 3), (4, 4), (4, 5), (4, 6), (4, 7), (4, 8), (4, 9), (4, 10), (4, 11), (5, 0), (5, 1), (5, 2), (5, 3), (6, 0)] ++ ([(6, 1), (7, 0), (7, 1), (7, 2), (8, 0), (8, 1), (8, 2), (8, 3), (8, 4), (8, 5), (8, 6), (8, 7)]))
theorem layT_in : ∀ q ∈ layT, pwd q ∈ GW := (List.forall_mem_append.mpr ⟨(fun q h => wIs_good wlay_0 glay_0 _ (List.mem_map.mpr ⟨q, h, rfl⟩)), (List.forall_mem_append.mpr ⟨(fun q h => wIs_good wlay_1 glay_1 _ (List.mem_map.mpr ⟨q, h, rfl⟩)), (fun q h => wIs_good wlay_2 glay_2 _ (List.mem_map.mpr ⟨q, h, rfl⟩))⟩)⟩)
def kwd (k : Nat) : Cond := if hhs k = [] then .code (mN k) (mB k) (mxl k) (mR k) else .codeWith (mN k) (mB k) (mxl k) (mR k) (hhs k)
theorem wkod_0 : wIs ([(0), (1), (2)].map kwd) [(1, 105), (2, 8), (2, 12)] = true := by decide +kernel
theorem gkod_0 : ([(0), (1), (2)].map kwd).all goodWord = true := by decide +kernel
theorem wkod_1 : wIs ([(3), (4)].map kwd) [(2, 24), (2, 47)] = true := by decide +kernel
theorem gkod_1 : ([(3), (4)].map kwd).all goodWord = true := by decide +kernel
theorem wkod_2 : wIs ([(5), (6), (7), (8), (9), (10), (11), (12), (13), (14)].map kwd) [(2, 92), (2, 108), (2, 85), (3, 148), (2, 100), (3, 154), (3, 158), (2, 96), (4, 96), (2, 104)] = true := by decide +kernel
theorem gkod_2 : ([(5), (6), (7), (8), (9), (10), (11), (12), (13), (14)].map kwd).all goodWord = true := by decide +kernel
theorem wkod_3 : wIs ([(15), (16), (17), (18), (19), (20), (21), (22)].map kwd) [(3, 114), (3, 118), (3, 122), (1, 111), (2, 28), (2, 32), (2, 36), (2, 73)] = true := by decide +kernel
theorem gkod_3 : ([(15), (16), (17), (18), (19), (20), (21), (22)].map kwd).all goodWord = true := by decide +kernel
theorem wkod_4 : wIs ([(23), (24), (25)].map kwd) [(2, 77), (2, 81), (1, 79)] = true := by decide +kernel
theorem gkod_4 : ([(23), (24), (25)].map kwd).all goodWord = true := by decide +kernel
theorem wkod_5 : wIs ([(26), (27), (28), (29), (30), (31)].map kwd) [(4, 8), (2, 221), (2, 228), (2, 232), (1, 218), (3, 174)] = true := by decide +kernel
theorem gkod_5 : ([(26), (27), (28), (29), (30), (31)].map kwd).all goodWord = true := by decide +kernel
theorem wkod_6 : wIs ([(32), (33), (34), (35), (36)].map kwd) [(3, 181), (3, 186), (3, 190), (4, 61), (4, 72)] = true := by decide +kernel
theorem gkod_6 : ([(32), (33), (34), (35), (36)].map kwd).all goodWord = true := by decide +kernel
theorem wkod_7 : wIs ([(37), (38), (39), (40)].map kwd) [(3, 196), (1, 171), (4, 85), (4, 90)] = true := by decide +kernel
theorem gkod_7 : ([(37), (38), (39), (40)].map kwd).all goodWord = true := by decide +kernel
theorem wkod_8 : wIs ([(41), (42), (43)].map kwd) [(4, 101), (4, 109), (4, 120)] = true := by decide +kernel
theorem gkod_8 : ([(41), (42), (43)].map kwd).all goodWord = true := by decide +kernel
theorem wkod_9 : wIs ([(44), (45), (46), (47), (48), (49), (50), (51), (52), (53)].map kwd) [(4, 114), (4, 141), (1, 31), (1, 36), (2, 236), (3, 53), (2, 20), (3, 89), (3, 137), (2, 40)] = true := by decide +kernel
theorem gkod_9 : ([(44), (45), (46), (47), (48), (49), (50), (51), (52), (53)].map kwd).all goodWord = true := by decide +kernel
theorem wkod_10 : wIs ([(54), (55), (56), (57), (58), (59)].map kwd) [(4, 27), (5, 8), (4, 237), (3, 49), (3, 45), (3, 65)] = true := by decide +kernel
theorem gkod_10 : ([(54), (55), (56), (57), (58), (59)].map kwd).all goodWord = true := by decide +kernel
theorem wkod_11 : wIs ([(60), (61), (62), (63), (64), (65), (66), (67), (68), (69)].map kwd) [(3, 70), (3, 75), (1, 234), (4, 153), (4, 158), (4, 174), (2, 60), (2, 60), (2, 60), (1, 62)] = true := by decide +kernel
theorem gkod_11 : ([(60), (61), (62), (63), (64), (65), (66), (67), (68), (69)].map kwd).all goodWord = true := by decide +kernel
theorem wkod_12 : wIs ([(70), (71), (72), (73), (74), (75), (76)].map kwd) [(3, 3), (3, 221), (4, 181), (3, 226), (3, 210), (4, 187), (4, 40)] = true := by decide +kernel
theorem gkod_12 : ([(70), (71), (72), (73), (74), (75), (76)].map kwd).all goodWord = true := by decide +kernel
theorem wkod_13 : wIs ([(77), (78), (79), (80), (81)].map kwd) [(3, 201), (3, 206), (2, 60), (1, 23), (3, 236)] = true := by decide +kernel
theorem gkod_13 : ([(77), (78), (79), (80), (81)].map kwd).all goodWord = true := by decide +kernel
theorem wkod_14 : wIs ([(82), (83), (84), (85), (86), (87)].map kwd) [(4, 17), (5, 4), (4, 233), (4, 170), (4, 35), (3, 85)] = true := by decide +kernel
theorem gkod_14 : ([(82), (83), (84), (85), (86), (87)].map kwd).all goodWord = true := by decide +kernel
theorem wkod_15 : wIs ([(88), (89), (90), (91), (92), (93)].map kwd) [(3, 18), (3, 217), (3, 133), (4, 48), (4, 56), (3, 166)] = true := by decide +kernel
theorem gkod_15 : ([(88), (89), (90), (91), (92), (93)].map kwd).all goodWord = true := by decide +kernel
theorem wkod_16 : wIs ([(94), (95), (96), (97), (98)].map kwd) [(4, 68), (4, 80), (4, 129), (4, 136), (4, 206)] = true := by decide +kernel
theorem gkod_16 : ([(94), (95), (96), (97), (98)].map kwd).all goodWord = true := by decide +kernel
theorem wkod_17 : wIs ([(99), (100), (101), (102), (103), (104)].map kwd) [(4, 210), (4, 223), (4, 148), (4, 163), (2, 60), (2, 149)] = true := by decide +kernel
theorem gkod_17 : ([(99), (100), (101), (102), (103), (104)].map kwd).all goodWord = true := by decide +kernel
theorem wkod_18 : wIs ([(105), (106), (107), (108), (109), (110)].map kwd) [(2, 60), (4, 4), (3, 109), (3, 41), (3, 143), (3, 170)] = true := by decide +kernel
theorem gkod_18 : ([(105), (106), (107), (108), (109), (110)].map kwd).all goodWord = true := by decide +kernel
theorem wkod_19 : wIs ([(111), (112), (113), (114), (115), (116), (117), (118), (119), (120)].map kwd) [(4, 215), (4, 219), (2, 60), (2, 60), (2, 60), (3, 21), (3, 239), (2, 60), (2, 63), (2, 57)] = true := by decide +kernel
theorem gkod_19 : ([(111), (112), (113), (114), (115), (116), (117), (118), (119), (120)].map kwd).all goodWord = true := by decide +kernel
theorem wkod_20 : wIs ([(121), (122), (123), (124), (125), (126), (127), (128), (129), (130)].map kwd) [(2, 54), (4, 20), (3, 125), (5, 0), (2, 43), (2, 66), (2, 51), (2, 69), (2, 239), (2, 136)] = true := by decide +kernel
theorem gkod_20 : ([(121), (122), (123), (124), (125), (126), (127), (128), (129), (130)].map kwd).all goodWord = true := by decide +kernel
theorem wkod_21 : wIs ([(131), (132), (133), (134), (135), (136), (137), (138), (139), (140)].map kwd) [(2, 140), (3, 232), (4, 13), (4, 166), (4, 31), (3, 80), (3, 13), (3, 213), (3, 129), (4, 44)] = true := by decide +kernel
theorem gkod_21 : ([(131), (132), (133), (134), (135), (136), (137), (138), (139), (140)].map kwd).all goodWord = true := by decide +kernel
theorem wkod_22 : wIs ([(141), (142), (143), (144), (145), (146), (147), (148)].map kwd) [(4, 52), (3, 162), (4, 64), (4, 76), (4, 125), (4, 132), (4, 144), (2, 144)] = true := by decide +kernel
theorem gkod_22 : ([(141), (142), (143), (144), (145), (146), (147), (148)].map kwd).all goodWord = true := by decide +kernel
theorem wkod_23 : wIs ([(149)].map kwd) [(3, 8)] = true := by decide +kernel
theorem gkod_23 : ([(149)].map kwd).all goodWord = true := by decide +kernel
set_option maxRecDepth 100000 in
theorem hkod_24 : (tb 3)[229]? = some (kwd 150) := rfl
theorem wkod_24 : wIs ([(150)].map kwd) [(3, 229)] = true := by
  show (decide ((tb 3)[229]? = some (kwd 150)) && true) = true
  rw [decide_eq_true hkod_24]; rfl
theorem gkod_24 : ([(150)].map kwd).all goodWord = true := by decide +kernel
set_option maxRecDepth 100000 in
theorem hkod_25 : (tb 4)[190]? = some (kwd 151) := rfl
theorem wkod_25 : wIs ([(151)].map kwd) [(4, 190)] = true := by
  show (decide ((tb 4)[190]? = some (kwd 151)) && true) = true
  rw [decide_eq_true hkod_25]; rfl
theorem gkod_25 : ([(151)].map kwd).all goodWord = true := by decide +kernel
set_option maxRecDepth 100000 in
theorem hkod_26 : (tb 4)[193]? = some (kwd 152) := rfl
theorem wkod_26 : wIs ([(152)].map kwd) [(4, 193)] = true := by
  show (decide ((tb 4)[193]? = some (kwd 152)) && true) = true
  rw [decide_eq_true hkod_26]; rfl
theorem gkod_26 : ([(152)].map kwd).all goodWord = true := by decide +kernel
theorem wkod_27 : wIs ([(153), (154)].map kwd) [(4, 199), (4, 196)] = true := by decide +kernel
theorem gkod_27 : ([(153), (154)].map kwd).all goodWord = true := by decide +kernel
set_option maxRecDepth 100000 in
theorem hkod_28 : (tb 4)[202]? = some (kwd 155) := rfl
theorem wkod_28 : wIs ([(155)].map kwd) [(4, 202)] = true := by
  show (decide ((tb 4)[202]? = some (kwd 155)) && true) = true
  rw [decide_eq_true hkod_28]; rfl
theorem gkod_28 : ([(155)].map kwd).all goodWord = true := by decide +kernel
set_option maxRecDepth 100000 in
theorem hkod_29 : (tb 4)[229]? = some (kwd 156) := rfl
theorem wkod_29 : wIs ([(156)].map kwd) [(4, 229)] = true := by
  show (decide ((tb 4)[229]? = some (kwd 156)) && true) = true
  rw [decide_eq_true hkod_29]; rfl
theorem gkod_29 : ([(156)].map kwd).all goodWord = true := by decide +kernel
theorem wkod_30 : wIs ([(157), (158), (159)].map kwd) [(5, 15), (5, 12), (2, 60)] = true := by decide +kernel
theorem gkod_30 : ([(157), (158), (159)].map kwd).all goodWord = true := by decide +kernel
theorem wkod_31 : wIs ([(160), (161), (162), (163), (164), (165), (166), (167), (168), (169)].map kwd) [(2, 60), (2, 60), (2, 60), (2, 60), (2, 60), (2, 60), (2, 60), (2, 60), (2, 60), (2, 60)] = true := by decide +kernel
theorem gkod_31 : ([(160), (161), (162), (163), (164), (165), (166), (167), (168), (169)].map kwd).all goodWord = true := by decide +kernel
theorem wkod_32 : wIs ([(170), (171), (172), (173), (174), (175), (176), (177), (178), (179)].map kwd) [(2, 60), (2, 60), (2, 60), (2, 60), (2, 60), (2, 60), (2, 60), (2, 60), (2, 60), (2, 60)] = true := by decide +kernel
theorem gkod_32 : ([(170), (171), (172), (173), (174), (175), (176), (177), (178), (179)].map kwd).all goodWord = true := by decide +kernel
theorem wkod_33 : wIs ([(180), (181), (182), (183), (184), (185), (186), (187), (188), (189)].map kwd) [(2, 60), (2, 60), (2, 60), (2, 60), (2, 60), (2, 60), (2, 60), (2, 60), (2, 60), (2, 60)] = true := by decide +kernel
theorem gkod_33 : ([(180), (181), (182), (183), (184), (185), (186), (187), (188), (189)].map kwd).all goodWord = true := by decide +kernel
theorem wkod_34 : wIs ([(190), (191), (192), (193), (194), (195), (196), (197), (198), (199)].map kwd) [(2, 60), (2, 60), (2, 60), (2, 60), (2, 60), (2, 60), (2, 60), (2, 60), (2, 60), (3, 58)] = true := by decide +kernel
theorem gkod_34 : ([(190), (191), (192), (193), (194), (195), (196), (197), (198), (199)].map kwd).all goodWord = true := by decide +kernel
theorem wkod_35 : wIs ([(200), (201)].map kwd) [(2, 16), (1, 39)] = true := by decide +kernel
theorem gkod_35 : ([(200), (201)].map kwd).all goodWord = true := by decide +kernel
def kodT : List (Nat) := [(0), (1), (2)] ++ ([(3), (4)] ++ ([(5), (6), (7), (8), (9), (10), (11), (12), (13), (14)] ++ ([(15), (16), (17), (18), (19), (20), (21), (22)] ++ ([(23), (24), (25)] ++ ([(26), (27), (28), (29), (30), (31)] ++ ([(32), (33), (34), (35), (36)] ++ ([(37), (38), (39), (40)] ++ ([(41), (42), (43)] ++ ([(44), (45), (46), (47), (48), (49), (50), (51), (52), (53)] ++ ([(54), (55), (56), (57), (58), (59)] ++ ([(60), (61), (62), (63), (64), (65), (66), (67), (68), (69)] ++ ([(70), (71), (72), (73), (74), (75), (76)] ++ ([(77), (78), (79), (80), (81)] ++ ([(82), (83), (84), (85), (86), (87)] ++ ([(88), (89), (90), (91), (92), (93)] ++ ([(94), (95), (96), (97), (98)] ++ ([(99), (100), (101), (102), (103), (104)] ++ ([(105), (106), (107), (108), (109), (110)] ++ ([(111), (112), (113), (114), (115), (116), (117), (118), (119), (120)] ++ ([(121), (122), (123), (124), (125), (126), (127), (128), (129), (130)] ++ ([(131), (132), (133), (134), (135), (136), (137), (138), (139), (140)] ++ ([(141), (142), (143), (144), (145), (146), (147), (148)] ++ ([(149)] ++ ([(150)] ++ ([(151)] ++ ([(152)] ++ ([(153), (154)] ++ ([(155)] ++ ([(156)] ++ ([(157), (158), (159)] ++ ([(160), (161), (162), (163), (164), (165), (166), (167), (168), (169)] ++ ([(170), (171), (172), (173), (174), (175), (176), (177), (178), (179)] ++ ([(180), (181), (182), (183), (184), (185), (186), (187), (188), (189)] ++ ([(190), (191), (192), (193), (194), (195), (196), (197), (198), (199)] ++ ([(200), (201)])))))))))))))))))))))))))))))))))))
theorem kodT_in : ∀ q ∈ kodT, kwd q ∈ GW := (List.forall_mem_append.mpr ⟨(fun q h => wIs_good wkod_0 gkod_0 _ (List.mem_map.mpr ⟨q, h, rfl⟩)), (List.forall_mem_append.mpr ⟨(fun q h => wIs_good wkod_1 gkod_1 _ (List.mem_map.mpr ⟨q, h, rfl⟩)), (List.forall_mem_append.mpr ⟨(fun q h => wIs_good wkod_2 gkod_2 _ (List.mem_map.mpr ⟨q, h, rfl⟩)), (List.forall_mem_append.mpr ⟨(fun q h => wIs_good wkod_3 gkod_3 _ (List.mem_map.mpr ⟨q, h, rfl⟩)), (List.forall_mem_append.mpr ⟨(fun q h => wIs_good wkod_4 gkod_4 _ (List.mem_map.mpr ⟨q, h, rfl⟩)), (List.forall_mem_append.mpr ⟨(fun q h => wIs_good wkod_5 gkod_5 _ (List.mem_map.mpr ⟨q, h, rfl⟩)), (List.forall_mem_append.mpr ⟨(fun q h => wIs_good wkod_6 gkod_6 _ (List.mem_map.mpr ⟨q, h, rfl⟩)), (List.forall_mem_append.mpr ⟨(fun q h => wIs_good wkod_7 gkod_7 _ (List.mem_map.mpr ⟨q, h, rfl⟩)), (List.forall_mem_append.mpr ⟨(fun q h => wIs_good wkod_8 gkod_8 _ (List.mem_map.mpr ⟨q, h, rfl⟩)), (List.forall_mem_append.mpr ⟨(fun q h => wIs_good wkod_9 gkod_9 _ (List.mem_map.mpr ⟨q, h, rfl⟩)), (List.forall_mem_append.mpr ⟨(fun q h => wIs_good wkod_10 gkod_10 _ (List.mem_map.mpr ⟨q, h, rfl⟩)), (List.forall_mem_append.mpr ⟨(fun q h => wIs_good wkod_11 gkod_11 _ (List.mem_map.mpr ⟨q, h, rfl⟩)), (List.forall_mem_append.mpr ⟨(fun q h => wIs_good wkod_12 gkod_12 _ (List.mem_map.mpr ⟨q, h, rfl⟩)), (List.forall_mem_append.mpr ⟨(fun q h => wIs_good wkod_13 gkod_13 _ (List.mem_map.mpr ⟨q, h, rfl⟩)), (List.forall_mem_append.mpr ⟨(fun q h => wIs_good wkod_14 gkod_14 _ (List.mem_map.mpr ⟨q, h, rfl⟩)), (List.forall_mem_append.mpr ⟨(fun q h => wIs_good wkod_15 gkod_15 _ (List.mem_map.mpr ⟨q, h, rfl⟩)), (List.forall_mem_append.mpr ⟨(fun q h => wIs_good wkod_16 gkod_16 _ (List.mem_map.mpr ⟨q, h, rfl⟩)), (List.forall_mem_append.mpr ⟨(fun q h => wIs_good wkod_17 gkod_17 _ (List.mem_map.mpr ⟨q, h, rfl⟩)), (List.forall_mem_append.mpr ⟨(fun q h => wIs_good wkod_18 gkod_18 _ (List.mem_map.mpr ⟨q, h, rfl⟩)), (List.forall_mem_append.mpr ⟨(fun q h => wIs_good wkod_19 gkod_19 _ (List.mem_map.mpr ⟨q, h, rfl⟩)), (List.forall_mem_append.mpr ⟨(fun q h => wIs_good wkod_20 gkod_20 _ (List.mem_map.mpr ⟨q, h, rfl⟩)), (List.forall_mem_append.mpr ⟨(fun q h => wIs_good wkod_21 gkod_21 _ (List.mem_map.mpr ⟨q, h, rfl⟩)), (List.forall_mem_append.mpr ⟨(fun q h => wIs_good wkod_22 gkod_22 _ (List.mem_map.mpr ⟨q, h, rfl⟩)), (List.forall_mem_append.mpr ⟨(fun q h => wIs_good wkod_23 gkod_23 _ (List.mem_map.mpr ⟨q, h, rfl⟩)), (List.forall_mem_append.mpr ⟨(fun q h => wIs_good wkod_24 gkod_24 _ (List.mem_map.mpr ⟨q, h, rfl⟩)), (List.forall_mem_append.mpr ⟨(fun q h => wIs_good wkod_25 gkod_25 _ (List.mem_map.mpr ⟨q, h, rfl⟩)), (List.forall_mem_append.mpr ⟨(fun q h => wIs_good wkod_26 gkod_26 _ (List.mem_map.mpr ⟨q, h, rfl⟩)), (List.forall_mem_append.mpr ⟨(fun q h => wIs_good wkod_27 gkod_27 _ (List.mem_map.mpr ⟨q, h, rfl⟩)), (List.forall_mem_append.mpr ⟨(fun q h => wIs_good wkod_28 gkod_28 _ (List.mem_map.mpr ⟨q, h, rfl⟩)), (List.forall_mem_append.mpr ⟨(fun q h => wIs_good wkod_29 gkod_29 _ (List.mem_map.mpr ⟨q, h, rfl⟩)), (List.forall_mem_append.mpr ⟨(fun q h => wIs_good wkod_30 gkod_30 _ (List.mem_map.mpr ⟨q, h, rfl⟩)), (List.forall_mem_append.mpr ⟨(fun q h => wIs_good wkod_31 gkod_31 _ (List.mem_map.mpr ⟨q, h, rfl⟩)), (List.forall_mem_append.mpr ⟨(fun q h => wIs_good wkod_32 gkod_32 _ (List.mem_map.mpr ⟨q, h, rfl⟩)), (List.forall_mem_append.mpr ⟨(fun q h => wIs_good wkod_33 gkod_33 _ (List.mem_map.mpr ⟨q, h, rfl⟩)), (List.forall_mem_append.mpr ⟨(fun q h => wIs_good wkod_34 gkod_34 _ (List.mem_map.mpr ⟨q, h, rfl⟩)), (fun q h => wIs_good wkod_35 gkod_35 _ (List.mem_map.mpr ⟨q, h, rfl⟩))⟩)⟩)⟩)⟩)⟩)⟩)⟩)⟩)⟩)⟩)⟩)⟩)⟩)⟩)⟩)⟩)⟩)⟩)⟩)⟩)⟩)⟩)⟩)⟩)⟩)⟩)⟩)⟩)⟩)⟩)⟩)⟩)⟩)⟩)⟩)
def swd (k : Nat) : Cond := .selects (Rn (own k)) (mN k) (mN k)
theorem wsel_0 : wIs ([(1), (2), (3), (4), (5), (6), (7), (8), (9), (10), (11), (12), (13), (14), (15), (16), (17), (19), (20), (21)].map swd) [(2, 7), (0, 0), (0, 1), (0, 3), (0, 5), (0, 6), (2, 84), (3, 147), (2, 99), (3, 153), (3, 157), (2, 95), (4, 95), (2, 103), (3, 113), (3, 117), (3, 121), (2, 27), (0, 2), (2, 35)] = true := by decide +kernel
theorem gsel_0 : ([(1), (2), (3), (4), (5), (6), (7), (8), (9), (10), (11), (12), (13), (14), (15), (16), (17), (19), (20), (21)].map swd).all goodWord = true := by decide +kernel
theorem wsel_1 : wIs ([(22), (23), (24), (26), (27), (28), (29), (31), (32), (33), (34), (35), (36), (37), (39), (40), (41), (43), (44), (45)].map swd) [(2, 72), (0, 4), (2, 80), (4, 7), (2, 220), (0, 8), (0, 9), (3, 173), (0, 14), (0, 15), (0, 16), (4, 60), (4, 71), (3, 195), (4, 84), (0, 20), (0, 21), (0, 23), (0, 22), (4, 140)] = true := by decide +kernel
theorem gsel_1 : ([(22), (23), (24), (26), (27), (28), (29), (31), (32), (33), (34), (35), (36), (37), (39), (40), (41), (43), (44), (45)].map swd).all goodWord = true := by decide +kernel
theorem wsel_2 : wIs ([(47), (48), (49), (50), (51), (52), (53), (54), (55), (56), (57), (58), (59), (60), (61), (63), (64), (65), (70), (71)].map swd) [(1, 35), (2, 235), (3, 52), (2, 19), (3, 88), (3, 136), (2, 39), (4, 26), (5, 7), (4, 236), (3, 48), (3, 44), (3, 64), (3, 69), (3, 74), (4, 152), (4, 157), (4, 173), (3, 2), (3, 220)] = true := by decide +kernel
theorem gsel_2 : ([(47), (48), (49), (50), (51), (52), (53), (54), (55), (56), (57), (58), (59), (60), (61), (63), (64), (65), (70), (71)].map swd).all goodWord = true := by decide +kernel
theorem wsel_3 : wIs ([(72), (73), (74), (75), (76), (77), (78), (81), (82), (83), (84), (85), (86), (87), (88), (89), (90), (91), (92), (93)].map swd) [(4, 180), (3, 225), (0, 18), (4, 186), (4, 39), (3, 200), (0, 17), (3, 235), (4, 16), (5, 3), (4, 232), (4, 169), (4, 34), (3, 84), (3, 17), (3, 216), (3, 132), (4, 47), (4, 55), (3, 165)] = true := by decide +kernel
theorem gsel_3 : ([(72), (73), (74), (75), (76), (77), (78), (81), (82), (83), (84), (85), (86), (87), (88), (89), (90), (91), (92), (93)].map swd).all goodWord = true := by decide +kernel
theorem wsel_4 : wIs ([(94), (95), (96), (97), (98), (99), (100), (101), (102), (104), (106), (107), (108), (109), (110), (111), (112)].map swd) [(4, 67), (4, 79), (4, 128), (4, 135), (4, 205), (4, 209), (4, 222), (4, 147), (4, 162), (2, 148), (0, 19), (0, 11), (0, 10), (0, 12), (0, 13), (0, 24), (0, 25)] = true := by decide +kernel
theorem gsel_4 : ([(94), (95), (96), (97), (98), (99), (100), (101), (102), (104), (106), (107), (108), (109), (110), (111), (112)].map swd).all goodWord = true := by decide +kernel
def selT : List Nat := [(1), (2), (3), (4), (5), (6), (7), (8), (9), (10), (11), (12), (13), (14), (15), (16), (17), (19), (20), (21)] ++ ([(22), (23), (24), (26), (27), (28), (29), (31), (32), (33), (34), (35), (36), (37), (39), (40), (41), (43), (44), (45)] ++ ([(47), (48), (49), (50), (51), (52), (53), (54), (55), (56), (57), (58), (59), (60), (61), (63), (64), (65), (70), (71)] ++ ([(72), (73), (74), (75), (76), (77), (78), (81), (82), (83), (84), (85), (86), (87), (88), (89), (90), (91), (92), (93)] ++ ([(94), (95), (96), (97), (98), (99), (100), (101), (102), (104), (106), (107), (108), (109), (110), (111), (112)]))))
theorem selT_in : ∀ q ∈ selT, swd q ∈ GW := (List.forall_mem_append.mpr ⟨(fun q h => wIs_good wsel_0 gsel_0 _ (List.mem_map.mpr ⟨q, h, rfl⟩)), (List.forall_mem_append.mpr ⟨(fun q h => wIs_good wsel_1 gsel_1 _ (List.mem_map.mpr ⟨q, h, rfl⟩)), (List.forall_mem_append.mpr ⟨(fun q h => wIs_good wsel_2 gsel_2 _ (List.mem_map.mpr ⟨q, h, rfl⟩)), (List.forall_mem_append.mpr ⟨(fun q h => wIs_good wsel_3 gsel_3 _ (List.mem_map.mpr ⟨q, h, rfl⟩)), (fun q h => wIs_good wsel_4 gsel_4 _ (List.mem_map.mpr ⟨q, h, rfl⟩))⟩)⟩)⟩)⟩)
def xwd (k : Nat) : Cond := .instanceMethod (mN k)
theorem wism_0 : wIs ([(0), (1), (2), (3), (4), (5), (6), (7), (8), (9), (10), (11), (12), (13), (14), (15), (16), (17), (18), (19)].map xwd) [(1, 104), (2, 6), (2, 11), (2, 23), (2, 46), (2, 91), (2, 107), (2, 83), (3, 146), (2, 98), (3, 152), (3, 156), (2, 94), (4, 94), (2, 102), (3, 112), (3, 116), (3, 120), (1, 110), (2, 26)] = true := by decide +kernel
theorem gism_0 : ([(0), (1), (2), (3), (4), (5), (6), (7), (8), (9), (10), (11), (12), (13), (14), (15), (16), (17), (18), (19)].map xwd).all goodWord = true := by decide +kernel
theorem wism_1 : wIs ([(20), (21), (22), (23), (24), (25), (26), (27), (28), (29), (30), (31), (32), (33), (34), (35), (36), (37), (38), (39)].map xwd) [(2, 31), (2, 34), (2, 71), (2, 76), (2, 79), (1, 78), (4, 6), (2, 219), (2, 227), (2, 231), (1, 217), (3, 172), (3, 180), (3, 185), (3, 189), (4, 59), (4, 70), (3, 194), (1, 170), (4, 83)] = true := by decide +kernel
theorem gism_1 : ([(20), (21), (22), (23), (24), (25), (26), (27), (28), (29), (30), (31), (32), (33), (34), (35), (36), (37), (38), (39)].map xwd).all goodWord = true := by decide +kernel
theorem wism_2 : wIs ([(40), (41), (43), (44), (45), (46), (47), (48), (49), (50), (51), (52), (53), (54), (55), (56), (57), (58), (59), (60)].map xwd) [(4, 89), (4, 100), (4, 119), (4, 113), (4, 139), (1, 30), (1, 34), (2, 234), (3, 51), (2, 18), (3, 87), (3, 135), (2, 38), (4, 25), (5, 6), (4, 235), (3, 47), (3, 43), (3, 63), (3, 68)] = true := by decide +kernel
theorem gism_2 : ([(40), (41), (43), (44), (45), (46), (47), (48), (49), (50), (51), (52), (53), (54), (55), (56), (57), (58), (59), (60)].map xwd).all goodWord = true := by decide +kernel
theorem wism_3 : wIs ([(61), (62), (63), (64), (65), (69), (70), (71), (72), (73), (74), (75), (76), (77), (78), (80), (81), (82), (83), (84)].map xwd) [(3, 73), (1, 233), (4, 151), (4, 156), (4, 172), (1, 61), (3, 1), (3, 219), (4, 179), (3, 224), (3, 209), (4, 185), (4, 38), (3, 199), (3, 205), (1, 22), (3, 234), (4, 15), (5, 2), (4, 231)] = true := by decide +kernel
theorem gism_3 : ([(61), (62), (63), (64), (65), (69), (70), (71), (72), (73), (74), (75), (76), (77), (78), (80), (81), (82), (83), (84)].map xwd).all goodWord = true := by decide +kernel
theorem wism_4 : wIs ([(85), (86), (87), (88), (89), (90), (91), (92), (93), (94), (95), (96), (97), (98), (99), (100), (101), (102), (104), (106)].map xwd) [(4, 168), (4, 33), (3, 83), (3, 16), (3, 215), (3, 131), (4, 46), (4, 54), (3, 164), (4, 66), (4, 78), (4, 127), (4, 134), (4, 204), (4, 208), (4, 221), (4, 146), (4, 161), (2, 147), (4, 3)] = true := by decide +kernel
theorem gism_4 : ([(85), (86), (87), (88), (89), (90), (91), (92), (93), (94), (95), (96), (97), (98), (99), (100), (101), (102), (104), (106)].map xwd).all goodWord = true := by decide +kernel
theorem wism_5 : wIs ([(107), (108), (109), (110), (111), (112)].map xwd) [(3, 108), (3, 40), (3, 142), (3, 169), (4, 214), (4, 218)] = true := by decide +kernel
theorem gism_5 : ([(107), (108), (109), (110), (111), (112)].map xwd).all goodWord = true := by decide +kernel
def ismT : List Nat := [(0), (1), (2), (3), (4), (5), (6), (7), (8), (9), (10), (11), (12), (13), (14), (15), (16), (17), (18), (19)] ++ ([(20), (21), (22), (23), (24), (25), (26), (27), (28), (29), (30), (31), (32), (33), (34), (35), (36), (37), (38), (39)] ++ ([(40), (41), (43), (44), (45), (46), (47), (48), (49), (50), (51), (52), (53), (54), (55), (56), (57), (58), (59), (60)] ++ ([(61), (62), (63), (64), (65), (69), (70), (71), (72), (73), (74), (75), (76), (77), (78), (80), (81), (82), (83), (84)] ++ ([(85), (86), (87), (88), (89), (90), (91), (92), (93), (94), (95), (96), (97), (98), (99), (100), (101), (102), (104), (106)] ++ ([(107), (108), (109), (110), (111), (112)])))))
theorem ismT_in : ∀ q ∈ ismT, xwd q ∈ GW := (List.forall_mem_append.mpr ⟨(fun q h => wIs_good wism_0 gism_0 _ (List.mem_map.mpr ⟨q, h, rfl⟩)), (List.forall_mem_append.mpr ⟨(fun q h => wIs_good wism_1 gism_1 _ (List.mem_map.mpr ⟨q, h, rfl⟩)), (List.forall_mem_append.mpr ⟨(fun q h => wIs_good wism_2 gism_2 _ (List.mem_map.mpr ⟨q, h, rfl⟩)), (List.forall_mem_append.mpr ⟨(fun q h => wIs_good wism_3 gism_3 _ (List.mem_map.mpr ⟨q, h, rfl⟩)), (List.forall_mem_append.mpr ⟨(fun q h => wIs_good wism_4 gism_4 _ (List.mem_map.mpr ⟨q, h, rfl⟩)), (fun q h => wIs_good wism_5 gism_5 _ (List.mem_map.mpr ⟨q, h, rfl⟩))⟩)⟩)⟩)⟩)⟩)
def vwd (k : Nat) : Cond := .static (mN k)
theorem wsta_0 : wIs ([(42), (116), (117), (118), (119), (120), (121), (122), (123), (124), (125), (126), (127), (128), (129), (130), (131), (132), (133), (134)].map vwd) [(4, 108), (3, 20), (3, 238), (2, 59), (2, 62), (2, 56), (2, 53), (4, 19), (3, 124), (4, 239), (2, 42), (2, 65), (2, 50), (2, 68), (2, 238), (2, 135), (2, 139), (3, 231), (4, 12), (4, 165)] = true := by decide +kernel
theorem gsta_0 : ([(42), (116), (117), (118), (119), (120), (121), (122), (123), (124), (125), (126), (127), (128), (129), (130), (131), (132), (133), (134)].map vwd).all goodWord = true := by decide +kernel
theorem wsta_1 : wIs ([(135), (136), (137), (138), (139), (140), (141), (142), (143), (144), (145), (146), (147), (148), (149), (150), (151), (152), (153), (154)].map vwd) [(4, 30), (3, 79), (3, 12), (3, 212), (3, 128), (4, 43), (4, 51), (3, 161), (4, 63), (4, 75), (4, 124), (4, 131), (4, 143), (2, 143), (3, 7), (3, 228), (4, 189), (4, 192), (4, 198), (4, 195)] = true := by decide +kernel
theorem gsta_1 : ([(135), (136), (137), (138), (139), (140), (141), (142), (143), (144), (145), (146), (147), (148), (149), (150), (151), (152), (153), (154)].map vwd).all goodWord = true := by decide +kernel
theorem wsta_2 : wIs ([(155), (156), (157), (158), (199), (200), (201)].map vwd) [(4, 201), (4, 228), (5, 14), (5, 11), (3, 57), (2, 15), (1, 38)] = true := by decide +kernel
theorem gsta_2 : ([(155), (156), (157), (158), (199), (200), (201)].map vwd).all goodWord = true := by decide +kernel
def staT : List Nat := [(42), (116), (117), (118), (119), (120), (121), (122), (123), (124), (125), (126), (127), (128), (129), (130), (131), (132), (133), (134)] ++ ([(135), (136), (137), (138), (139), (140), (141), (142), (143), (144), (145), (146), (147), (148), (149), (150), (151), (152), (153), (154)] ++ ([(155), (156), (157), (158), (199), (200), (201)]))
theorem staT_in : ∀ q ∈ staT, vwd q ∈ GW := (List.forall_mem_append.mpr ⟨(fun q h => wIs_good wsta_0 gsta_0 _ (List.mem_map.mpr ⟨q, h, rfl⟩)), (List.forall_mem_append.mpr ⟨(fun q h => wIs_good wsta_1 gsta_1 _ (List.mem_map.mpr ⟨q, h, rfl⟩)), (fun q h => wIs_good wsta_2 gsta_2 _ (List.mem_map.mpr ⟨q, h, rfl⟩))⟩)⟩)
def spL : List Cond := [Cond.instanceMethod Lib.objectInit, Cond.code Lib.objectInit ⟨#[0xb1]⟩ 1 none, Cond.static Lib.Math.max.name, Cond.static Lib.Math.min.name, Cond.initialized "java/lang/Math", Cond.code Lib.Math.max.name Lib.Math.max.code 2 (some .int), Cond.code Lib.Math.min.name Lib.Math.min.code 2 (some .int), Cond.arrayClass .int, Cond.arrayClass .long, Cond.arrayClass .int]
theorem wsp : wIs spL [(1, 25), (1, 26), (2, 223), (2, 87), (1, 11), (2, 224), (2, 88), (1, 57), (1, 166), (1, 57)] = true := by decide +kernel
theorem gsp : spL.all goodWord = true := by decide +kernel
theorem spL_in : ∀ w ∈ spL, w ∈ GW := wIs_good wsp gsp
end
section
/-! ===== the code table is what the bytes say, and its links are the tables': by program (wip/p28/gen3.py) ===== -/
def tg (pc : Nat) (o : Int) : Nat := ((pc : Int) + o).toNat
def tgOk (pc : Nat) (o : Int) : Bool := decide (0 ≤ (pc : Int) + o)
def atTag (t : ArrayType) : Nat := match t with
  | .int => 0
  | .long => 1
  | _ => 99
def ilen (i : Instr) : Nat := match i with
  | .ldc _ | .iload _ | .lload _ | .aload _ | .dload _ | .istore _ | .lstore _ | .astore _ | .dstore _ | .bipush _ | .newarray _ => 2
  | .iinc _ _ | .sipush _ | .ldc2_w _ | .goto _ | .ifCond _ _ | .if_icmp _ _ | .ifnull _ | .getfield _ | .putfield _ | .new _ | .anewarray _ | .invokevirtual _ | .invokestatic _ | .invokespecial _ => 3
  | _ => 1
def isTS (i : Instr) : Bool := match i with
  | .tableswitch _ _ _ _ => true
  | _ => false
def okB (k : Nat) (q : Nat × Instr × Nat × Nat × Nat × Nat × List Nat) : Bool := match q with
  | (pc, i, n, a, b, c, _) => decide (decode (mB k) pc = .ok (i, n)) && (n == ilen i || isTS i) && match i with
    | .getfield x => if c == 0 then flgT.contains (own k, x, a, b, 0) else flnT.contains (own k, x, a, b, 1)
    | .putfield x => (if c == 0 then flgT.contains (own k, x, a, b, 0) else flnT.contains (own k, x, a, b, 1)) && (!(TXf a b).2.2.2 || (c == 0 && (mN k).name == "<init>" && (TXf a b).1 == Rn (own k)))
    | .new x => c == 1 || clgT.contains (own k, x, a)
    | .anewarray x => algT.contains (own k, x, a)
    | .newarray t => atTag t < 9
    | .ldc2_w x => llgT.contains (own k, x, a)
    | .ldc x => icgT.contains (own k, x, a)
    | .invokevirtual x => if c == 0 then mlgT.contains (own k, x, a, b, 0) else c == 1 && mlnT.contains (own k, x, a, b, 1)
    | .invokestatic x => if c == 2 then mlgT.contains (own k, x, a, b, 2) else if c == 8 then mlgT.contains (own k, x, a, b, 8) else if c == 9 then mlgT.contains (own k, x, a, b, 9) else if c == 7 then mlgT.contains (own k, x, a, b, 7) else c == 3 && mlnT.contains (own k, x, a, b, 3)
    | .invokespecial x => if c == 6 then mlgT.contains (own k, x, a, b, 6) else if c == 4 then mlgT.contains (own k, x, a, b, 4) else c == 5 && mlnT.contains (own k, x, a, b, 5)
    | .goto o => tgOk pc o
    | .ifCond _ o => tgOk pc o
    | .if_icmp _ o => tgOk pc o
    | .ifnull o => tgOk pc o
    | .tableswitch d _ _ offs => tgOk pc d && offs.all (tgOk pc)
    | _ => true
def AllOk : Nat → List (List (Nat × Instr × Nat × Nat × Nat × Nat × List Nat)) → Prop
  | _, [] => True
  | k, l :: t => (∀ q ∈ l, okB k q = true) ∧ AllOk (k + 1) t
theorem AllOk_at {k : Nat} {ls : List (List (Nat × Instr × Nat × Nat × Nat × Nat × List Nat))} (h : AllOk k ls) (j : Nat) : ∀ q ∈ ls.getD j [], okB (k + j) q = true := by
  induction ls generalizing k j with
  | nil => intro q hq; simp at hq
  | cons l t ih =>
    cases j with
    | zero => exact h.1
    | succ j =>
      have := ih h.2 j
      rw [show k + 1 + j = k + (j + 1) by omega] at this
      simpa using this
theorem td {α : Type} {p : α → Prop} {l : List α} (n : Nat) (h1 : ∀ x ∈ l.take n, p x) (h2 : ∀ x ∈ l.drop n, p x) : ∀ x ∈ l, p x := fun x hx => by
  rw [← List.take_append_drop n l] at hx
  exact (List.mem_append.mp hx).elim (h1 x) (h2 x)
theorem ok_0 : ∀ q ∈ cd_0, okB 0 q = true := by decide +kernel
theorem ok_1 : ∀ q ∈ cd_1, okB 1 q = true := by decide +kernel
theorem ok_2 : ∀ q ∈ cd_2, okB 2 q = true := by decide +kernel
theorem ok_3 : ∀ q ∈ cd_3, okB 3 q = true := by decide +kernel
theorem ok_4_0 : ∀ q ∈ (cd_4).take 40, okB 4 q = true := by decide +kernel
theorem ok_4_1 : ∀ q ∈ (cd_4).drop 40, okB 4 q = true := by decide +kernel
theorem ok_4 : ∀ q ∈ cd_4, okB 4 q = true := (td 40 ok_4_0 ok_4_1)
theorem ok_5_0 : ∀ q ∈ (cd_5).take 40, okB 5 q = true := by decide +kernel
theorem ok_5_1 : ∀ q ∈ (cd_5).drop 40, okB 5 q = true := by decide +kernel
theorem ok_5 : ∀ q ∈ cd_5, okB 5 q = true := (td 40 ok_5_0 ok_5_1)
theorem ok_6 : ∀ q ∈ cd_6, okB 6 q = true := by decide +kernel
theorem ok_7 : ∀ q ∈ cd_7, okB 7 q = true := by decide +kernel
theorem ok_8 : ∀ q ∈ cd_8, okB 8 q = true := by decide +kernel
theorem ok_9 : ∀ q ∈ cd_9, okB 9 q = true := by decide +kernel
theorem ok_10 : ∀ q ∈ cd_10, okB 10 q = true := by decide +kernel
theorem ok_11 : ∀ q ∈ cd_11, okB 11 q = true := by decide +kernel
theorem ok_12 : ∀ q ∈ cd_12, okB 12 q = true := by decide +kernel
theorem ok_13 : ∀ q ∈ cd_13, okB 13 q = true := by decide +kernel
theorem ok_14 : ∀ q ∈ cd_14, okB 14 q = true := by decide +kernel
theorem ok_15 : ∀ q ∈ cd_15, okB 15 q = true := by decide +kernel
theorem ok_16 : ∀ q ∈ cd_16, okB 16 q = true := by decide +kernel
theorem ok_17 : ∀ q ∈ cd_17, okB 17 q = true := by decide +kernel
theorem ok_18 : ∀ q ∈ cd_18, okB 18 q = true := by decide +kernel
theorem ok_19_0 : ∀ q ∈ (cd_19).take 40, okB 19 q = true := by decide +kernel
theorem ok_19_1 : ∀ q ∈ (cd_19).drop 40, okB 19 q = true := by decide +kernel
theorem ok_19 : ∀ q ∈ cd_19, okB 19 q = true := (td 40 ok_19_0 ok_19_1)
theorem ok_20 : ∀ q ∈ cd_20, okB 20 q = true := by decide +kernel
theorem ok_21 : ∀ q ∈ cd_21, okB 21 q = true := by decide +kernel
theorem ok_22 : ∀ q ∈ cd_22, okB 22 q = true := by decide +kernel
theorem ok_23 : ∀ q ∈ cd_23, okB 23 q = true := by decide +kernel
theorem ok_24 : ∀ q ∈ cd_24, okB 24 q = true := by decide +kernel
theorem ok_25 : ∀ q ∈ cd_25, okB 25 q = true := by decide +kernel
theorem ok_26 : ∀ q ∈ cd_26, okB 26 q = true := by decide +kernel
theorem ok_27 : ∀ q ∈ cd_27, okB 27 q = true := by decide +kernel
theorem ok_28 : ∀ q ∈ cd_28, okB 28 q = true := by decide +kernel
theorem ok_29 : ∀ q ∈ cd_29, okB 29 q = true := by decide +kernel
theorem ok_30 : ∀ q ∈ cd_30, okB 30 q = true := by decide +kernel
theorem ok_31 : ∀ q ∈ cd_31, okB 31 q = true := by decide +kernel
theorem ok_32 : ∀ q ∈ cd_32, okB 32 q = true := by decide +kernel
theorem ok_33 : ∀ q ∈ cd_33, okB 33 q = true := by decide +kernel
theorem ok_34 : ∀ q ∈ cd_34, okB 34 q = true := by decide +kernel
theorem ok_35 : ∀ q ∈ cd_35, okB 35 q = true := by decide +kernel
theorem ok_36 : ∀ q ∈ cd_36, okB 36 q = true := by decide +kernel
theorem ok_37_0 : ∀ q ∈ (cd_37).take 40, okB 37 q = true := by decide +kernel
theorem ok_37_1 : ∀ q ∈ (cd_37).drop 40, okB 37 q = true := by decide +kernel
theorem ok_37 : ∀ q ∈ cd_37, okB 37 q = true := (td 40 ok_37_0 ok_37_1)
theorem ok_38 : ∀ q ∈ cd_38, okB 38 q = true := by decide +kernel
theorem ok_39 : ∀ q ∈ cd_39, okB 39 q = true := by decide +kernel
theorem ok_40 : ∀ q ∈ cd_40, okB 40 q = true := by decide +kernel
theorem ok_41 : ∀ q ∈ cd_41, okB 41 q = true := by decide +kernel
theorem ok_42_0 : ∀ q ∈ (cd_42).take 40, okB 42 q = true := by decide +kernel
theorem ok_42_1 : ∀ q ∈ (cd_42).drop 40, okB 42 q = true := by decide +kernel
theorem ok_42 : ∀ q ∈ cd_42, okB 42 q = true := (td 40 ok_42_0 ok_42_1)
theorem ok_43 : ∀ q ∈ cd_43, okB 43 q = true := by decide +kernel
theorem ok_44 : ∀ q ∈ cd_44, okB 44 q = true := by decide +kernel
theorem ok_45 : ∀ q ∈ cd_45, okB 45 q = true := by decide +kernel
theorem ok_46 : ∀ q ∈ cd_46, okB 46 q = true := by decide +kernel
theorem ok_47 : ∀ q ∈ cd_47, okB 47 q = true := by decide +kernel
theorem ok_48 : ∀ q ∈ cd_48, okB 48 q = true := by decide +kernel
theorem ok_49 : ∀ q ∈ cd_49, okB 49 q = true := by decide +kernel
theorem ok_50 : ∀ q ∈ cd_50, okB 50 q = true := by decide +kernel
theorem ok_51 : ∀ q ∈ cd_51, okB 51 q = true := by decide +kernel
theorem ok_52 : ∀ q ∈ cd_52, okB 52 q = true := by decide +kernel
theorem ok_53 : ∀ q ∈ cd_53, okB 53 q = true := by decide +kernel
theorem ok_54 : ∀ q ∈ cd_54, okB 54 q = true := by decide +kernel
theorem ok_55 : ∀ q ∈ cd_55, okB 55 q = true := by decide +kernel
theorem ok_56_0 : ∀ q ∈ (cd_56).take 40, okB 56 q = true := by decide +kernel
theorem ok_56_1 : ∀ q ∈ (cd_56).drop 40, okB 56 q = true := by decide +kernel
theorem ok_56 : ∀ q ∈ cd_56, okB 56 q = true := (td 40 ok_56_0 ok_56_1)
theorem ok_57 : ∀ q ∈ cd_57, okB 57 q = true := by decide +kernel
theorem ok_58 : ∀ q ∈ cd_58, okB 58 q = true := by decide +kernel
theorem ok_59 : ∀ q ∈ cd_59, okB 59 q = true := by decide +kernel
theorem ok_60 : ∀ q ∈ cd_60, okB 60 q = true := by decide +kernel
theorem ok_61 : ∀ q ∈ cd_61, okB 61 q = true := by decide +kernel
theorem ok_62 : ∀ q ∈ cd_62, okB 62 q = true := by decide +kernel
theorem ok_63 : ∀ q ∈ cd_63, okB 63 q = true := by decide +kernel
theorem ok_64 : ∀ q ∈ cd_64, okB 64 q = true := by decide +kernel
theorem ok_65 : ∀ q ∈ cd_65, okB 65 q = true := by decide +kernel
theorem ok_66 : ∀ q ∈ cd_66, okB 66 q = true := by decide +kernel
theorem ok_67 : ∀ q ∈ cd_67, okB 67 q = true := by decide +kernel
theorem ok_68 : ∀ q ∈ cd_68, okB 68 q = true := by decide +kernel
theorem ok_69 : ∀ q ∈ cd_69, okB 69 q = true := by decide +kernel
theorem ok_70 : ∀ q ∈ cd_70, okB 70 q = true := by decide +kernel
theorem ok_71 : ∀ q ∈ cd_71, okB 71 q = true := by decide +kernel
theorem ok_72 : ∀ q ∈ cd_72, okB 72 q = true := by decide +kernel
theorem ok_73 : ∀ q ∈ cd_73, okB 73 q = true := by decide +kernel
theorem ok_74 : ∀ q ∈ cd_74, okB 74 q = true := by decide +kernel
theorem ok_75 : ∀ q ∈ cd_75, okB 75 q = true := by decide +kernel
theorem ok_76 : ∀ q ∈ cd_76, okB 76 q = true := by decide +kernel
theorem ok_77 : ∀ q ∈ cd_77, okB 77 q = true := by decide +kernel
theorem ok_78 : ∀ q ∈ cd_78, okB 78 q = true := by decide +kernel
theorem ok_79 : ∀ q ∈ cd_79, okB 79 q = true := by decide +kernel
theorem ok_80 : ∀ q ∈ cd_80, okB 80 q = true := by decide +kernel
theorem ok_81 : ∀ q ∈ cd_81, okB 81 q = true := by decide +kernel
theorem ok_82 : ∀ q ∈ cd_82, okB 82 q = true := by decide +kernel
theorem ok_83 : ∀ q ∈ cd_83, okB 83 q = true := by decide +kernel
theorem ok_84 : ∀ q ∈ cd_84, okB 84 q = true := by decide +kernel
theorem ok_85 : ∀ q ∈ cd_85, okB 85 q = true := by decide +kernel
theorem ok_86 : ∀ q ∈ cd_86, okB 86 q = true := by decide +kernel
theorem ok_87 : ∀ q ∈ cd_87, okB 87 q = true := by decide +kernel
theorem ok_88 : ∀ q ∈ cd_88, okB 88 q = true := by decide +kernel
theorem ok_89 : ∀ q ∈ cd_89, okB 89 q = true := by decide +kernel
theorem ok_90 : ∀ q ∈ cd_90, okB 90 q = true := by decide +kernel
theorem ok_91 : ∀ q ∈ cd_91, okB 91 q = true := by decide +kernel
theorem ok_92 : ∀ q ∈ cd_92, okB 92 q = true := by decide +kernel
theorem ok_93 : ∀ q ∈ cd_93, okB 93 q = true := by decide +kernel
theorem ok_94 : ∀ q ∈ cd_94, okB 94 q = true := by decide +kernel
theorem ok_95 : ∀ q ∈ cd_95, okB 95 q = true := by decide +kernel
theorem ok_96 : ∀ q ∈ cd_96, okB 96 q = true := by decide +kernel
theorem ok_97 : ∀ q ∈ cd_97, okB 97 q = true := by decide +kernel
theorem ok_98 : ∀ q ∈ cd_98, okB 98 q = true := by decide +kernel
theorem ok_99 : ∀ q ∈ cd_99, okB 99 q = true := by decide +kernel
theorem ok_100 : ∀ q ∈ cd_100, okB 100 q = true := by decide +kernel
theorem ok_101 : ∀ q ∈ cd_101, okB 101 q = true := by decide +kernel
theorem ok_102 : ∀ q ∈ cd_102, okB 102 q = true := by decide +kernel
theorem ok_103 : ∀ q ∈ cd_103, okB 103 q = true := by decide +kernel
theorem ok_104 : ∀ q ∈ cd_104, okB 104 q = true := by decide +kernel
theorem ok_105 : ∀ q ∈ cd_105, okB 105 q = true := by decide +kernel
theorem ok_106 : ∀ q ∈ cd_106, okB 106 q = true := by decide +kernel
theorem ok_107 : ∀ q ∈ cd_107, okB 107 q = true := by decide +kernel
theorem ok_108 : ∀ q ∈ cd_108, okB 108 q = true := by decide +kernel
theorem ok_109 : ∀ q ∈ cd_109, okB 109 q = true := by decide +kernel
theorem ok_110 : ∀ q ∈ cd_110, okB 110 q = true := by decide +kernel
theorem ok_111 : ∀ q ∈ cd_111, okB 111 q = true := by decide +kernel
theorem ok_112 : ∀ q ∈ cd_112, okB 112 q = true := by decide +kernel
theorem ok_113 : ∀ q ∈ cd_113, okB 113 q = true := by decide +kernel
theorem ok_114 : ∀ q ∈ cd_114, okB 114 q = true := by decide +kernel
theorem ok_115 : ∀ q ∈ cd_115, okB 115 q = true := by decide +kernel
theorem ok_116 : ∀ q ∈ cd_116, okB 116 q = true := by decide +kernel
theorem ok_117 : ∀ q ∈ cd_117, okB 117 q = true := by decide +kernel
theorem ok_118 : ∀ q ∈ cd_118, okB 118 q = true := by decide +kernel
theorem ok_119 : ∀ q ∈ cd_119, okB 119 q = true := by decide +kernel
theorem ok_120 : ∀ q ∈ cd_120, okB 120 q = true := by decide +kernel
theorem ok_121 : ∀ q ∈ cd_121, okB 121 q = true := by decide +kernel
theorem ok_122 : ∀ q ∈ cd_122, okB 122 q = true := by decide +kernel
theorem ok_123 : ∀ q ∈ cd_123, okB 123 q = true := by decide +kernel
theorem ok_124 : ∀ q ∈ cd_124, okB 124 q = true := by decide +kernel
theorem ok_125 : ∀ q ∈ cd_125, okB 125 q = true := by decide +kernel
theorem ok_126 : ∀ q ∈ cd_126, okB 126 q = true := by decide +kernel
theorem ok_127 : ∀ q ∈ cd_127, okB 127 q = true := by decide +kernel
theorem ok_128 : ∀ q ∈ cd_128, okB 128 q = true := by decide +kernel
theorem ok_129 : ∀ q ∈ cd_129, okB 129 q = true := by decide +kernel
theorem ok_130 : ∀ q ∈ cd_130, okB 130 q = true := by decide +kernel
theorem ok_131 : ∀ q ∈ cd_131, okB 131 q = true := by decide +kernel
theorem ok_132 : ∀ q ∈ cd_132, okB 132 q = true := by decide +kernel
theorem ok_133 : ∀ q ∈ cd_133, okB 133 q = true := by decide +kernel
theorem ok_134 : ∀ q ∈ cd_134, okB 134 q = true := by decide +kernel
theorem ok_135 : ∀ q ∈ cd_135, okB 135 q = true := by decide +kernel
theorem ok_136 : ∀ q ∈ cd_136, okB 136 q = true := by decide +kernel
theorem ok_137 : ∀ q ∈ cd_137, okB 137 q = true := by decide +kernel
theorem ok_138 : ∀ q ∈ cd_138, okB 138 q = true := by decide +kernel
theorem ok_139 : ∀ q ∈ cd_139, okB 139 q = true := by decide +kernel
theorem ok_140 : ∀ q ∈ cd_140, okB 140 q = true := by decide +kernel
theorem ok_141 : ∀ q ∈ cd_141, okB 141 q = true := by decide +kernel
theorem ok_142 : ∀ q ∈ cd_142, okB 142 q = true := by decide +kernel
theorem ok_143 : ∀ q ∈ cd_143, okB 143 q = true := by decide +kernel
theorem ok_144 : ∀ q ∈ cd_144, okB 144 q = true := by decide +kernel
theorem ok_145 : ∀ q ∈ cd_145, okB 145 q = true := by decide +kernel
theorem ok_146 : ∀ q ∈ cd_146, okB 146 q = true := by decide +kernel
theorem ok_147 : ∀ q ∈ cd_147, okB 147 q = true := by decide +kernel
theorem ok_148 : ∀ q ∈ cd_148, okB 148 q = true := by decide +kernel
theorem ok_149_0 : ∀ q ∈ (cd_149).take 40, okB 149 q = true := by decide +kernel
theorem ok_149_1 : ∀ q ∈ (cd_149).drop 40, okB 149 q = true := by decide +kernel
theorem ok_149 : ∀ q ∈ cd_149, okB 149 q = true := (td 40 ok_149_0 ok_149_1)
theorem ok_150_0 : ∀ q ∈ (cd_150).take 40, okB 150 q = true := by decide +kernel
theorem ok_150_1 : ∀ q ∈ ((cd_150).drop 40).take 40, okB 150 q = true := by decide +kernel
theorem ok_150_2 : ∀ q ∈ (((cd_150).drop 40).drop 40).take 40, okB 150 q = true := by decide +kernel
theorem ok_150_3 : ∀ q ∈ ((((cd_150).drop 40).drop 40).drop 40).take 40, okB 150 q = true := by decide +kernel
theorem ok_150_4 : ∀ q ∈ ((((cd_150).drop 40).drop 40).drop 40).drop 40, okB 150 q = true := by decide +kernel
theorem ok_150 : ∀ q ∈ cd_150, okB 150 q = true := (td 40 ok_150_0 (td 40 ok_150_1 (td 40 ok_150_2 (td 40 ok_150_3 ok_150_4))))
theorem ok_151_0 : ∀ q ∈ (cd_151).take 40, okB 151 q = true := by decide +kernel
theorem ok_151_1 : ∀ q ∈ ((cd_151).drop 40).take 40, okB 151 q = true := by decide +kernel
theorem ok_151_2 : ∀ q ∈ (((cd_151).drop 40).drop 40).take 40, okB 151 q = true := by decide +kernel
theorem ok_151_3 : ∀ q ∈ ((((cd_151).drop 40).drop 40).drop 40).take 40, okB 151 q = true := by decide +kernel
theorem ok_151_4 : ∀ q ∈ (((((cd_151).drop 40).drop 40).drop 40).drop 40).take 40, okB 151 q = true := by decide +kernel
theorem ok_151_5 : ∀ q ∈ ((((((cd_151).drop 40).drop 40).drop 40).drop 40).drop 40).take 40, okB 151 q = true := by decide +kernel
theorem ok_151_6 : ∀ q ∈ (((((((cd_151).drop 40).drop 40).drop 40).drop 40).drop 40).drop 40).take 40, okB 151 q = true := by decide +kernel
theorem ok_151_7 : ∀ q ∈ ((((((((cd_151).drop 40).drop 40).drop 40).drop 40).drop 40).drop 40).drop 40).take 40, okB 151 q = true := by decide +kernel
theorem ok_151_8 : ∀ q ∈ (((((((((cd_151).drop 40).drop 40).drop 40).drop 40).drop 40).drop 40).drop 40).drop 40).take 40, okB 151 q = true := by decide +kernel
theorem ok_151_9 : ∀ q ∈ (((((((((cd_151).drop 40).drop 40).drop 40).drop 40).drop 40).drop 40).drop 40).drop 40).drop 40, okB 151 q = true := by decide +kernel
theorem ok_151 : ∀ q ∈ cd_151, okB 151 q = true := (td 40 ok_151_0 (td 40 ok_151_1 (td 40 ok_151_2 (td 40 ok_151_3 (td 40 ok_151_4 (td 40 ok_151_5 (td 40 ok_151_6 (td 40 ok_151_7 (td 40 ok_151_8 ok_151_9)))))))))
theorem ok_152_0 : ∀ q ∈ (cd_152).take 40, okB 152 q = true := by decide +kernel
theorem ok_152_1 : ∀ q ∈ ((cd_152).drop 40).take 40, okB 152 q = true := by decide +kernel
theorem ok_152_2 : ∀ q ∈ ((cd_152).drop 40).drop 40, okB 152 q = true := by decide +kernel
theorem ok_152 : ∀ q ∈ cd_152, okB 152 q = true := (td 40 ok_152_0 (td 40 ok_152_1 ok_152_2))
theorem ok_153_0 : ∀ q ∈ (cd_153).take 40, okB 153 q = true := by decide +kernel
theorem ok_153_1 : ∀ q ∈ (cd_153).drop 40, okB 153 q = true := by decide +kernel
theorem ok_153 : ∀ q ∈ cd_153, okB 153 q = true := (td 40 ok_153_0 ok_153_1)
theorem ok_154_0 : ∀ q ∈ (cd_154).take 40, okB 154 q = true := by decide +kernel
theorem ok_154_1 : ∀ q ∈ (cd_154).drop 40, okB 154 q = true := by decide +kernel
theorem ok_154 : ∀ q ∈ cd_154, okB 154 q = true := (td 40 ok_154_0 ok_154_1)
theorem ok_155_0 : ∀ q ∈ (cd_155).take 40, okB 155 q = true := by decide +kernel
theorem ok_155_1 : ∀ q ∈ ((cd_155).drop 40).take 40, okB 155 q = true := by decide +kernel
theorem ok_155_2 : ∀ q ∈ (((cd_155).drop 40).drop 40).take 40, okB 155 q = true := by decide +kernel
theorem ok_155_3 : ∀ q ∈ ((((cd_155).drop 40).drop 40).drop 40).take 40, okB 155 q = true := by decide +kernel
theorem ok_155_4 : ∀ q ∈ (((((cd_155).drop 40).drop 40).drop 40).drop 40).take 40, okB 155 q = true := by decide +kernel
theorem ok_155_5 : ∀ q ∈ ((((((cd_155).drop 40).drop 40).drop 40).drop 40).drop 40).take 40, okB 155 q = true := by decide +kernel
theorem ok_155_6 : ∀ q ∈ (((((((cd_155).drop 40).drop 40).drop 40).drop 40).drop 40).drop 40).take 40, okB 155 q = true := by decide +kernel
theorem ok_155_7 : ∀ q ∈ (((((((cd_155).drop 40).drop 40).drop 40).drop 40).drop 40).drop 40).drop 40, okB 155 q = true := by decide +kernel
theorem ok_155 : ∀ q ∈ cd_155, okB 155 q = true := (td 40 ok_155_0 (td 40 ok_155_1 (td 40 ok_155_2 (td 40 ok_155_3 (td 40 ok_155_4 (td 40 ok_155_5 (td 40 ok_155_6 ok_155_7)))))))
theorem ok_156_0 : ∀ q ∈ (cd_156).take 40, okB 156 q = true := by decide +kernel
theorem ok_156_1 : ∀ q ∈ ((cd_156).drop 40).take 40, okB 156 q = true := by decide +kernel
theorem ok_156_2 : ∀ q ∈ (((cd_156).drop 40).drop 40).take 40, okB 156 q = true := by decide +kernel
theorem ok_156_3 : ∀ q ∈ (((cd_156).drop 40).drop 40).drop 40, okB 156 q = true := by decide +kernel
theorem ok_156 : ∀ q ∈ cd_156, okB 156 q = true := (td 40 ok_156_0 (td 40 ok_156_1 (td 40 ok_156_2 ok_156_3)))
theorem ok_157 : ∀ q ∈ cd_157, okB 157 q = true := by decide +kernel
theorem ok_158_0 : ∀ q ∈ (cd_158).take 40, okB 158 q = true := by decide +kernel
theorem ok_158_1 : ∀ q ∈ (cd_158).drop 40, okB 158 q = true := by decide +kernel
theorem ok_158 : ∀ q ∈ cd_158, okB 158 q = true := (td 40 ok_158_0 ok_158_1)
theorem ok_159 : ∀ q ∈ cd_159, okB 159 q = true := by decide +kernel
theorem ok_160 : ∀ q ∈ cd_160, okB 160 q = true := by decide +kernel
theorem ok_161 : ∀ q ∈ cd_161, okB 161 q = true := by decide +kernel
theorem ok_162 : ∀ q ∈ cd_162, okB 162 q = true := by decide +kernel
theorem ok_163 : ∀ q ∈ cd_163, okB 163 q = true := by decide +kernel
theorem ok_164 : ∀ q ∈ cd_164, okB 164 q = true := by decide +kernel
theorem ok_165 : ∀ q ∈ cd_165, okB 165 q = true := by decide +kernel
theorem ok_166 : ∀ q ∈ cd_166, okB 166 q = true := by decide +kernel
theorem ok_167 : ∀ q ∈ cd_167, okB 167 q = true := by decide +kernel
theorem ok_168 : ∀ q ∈ cd_168, okB 168 q = true := by decide +kernel
theorem ok_169 : ∀ q ∈ cd_169, okB 169 q = true := by decide +kernel
theorem ok_170 : ∀ q ∈ cd_170, okB 170 q = true := by decide +kernel
theorem ok_171 : ∀ q ∈ cd_171, okB 171 q = true := by decide +kernel
theorem ok_172 : ∀ q ∈ cd_172, okB 172 q = true := by decide +kernel
theorem ok_173 : ∀ q ∈ cd_173, okB 173 q = true := by decide +kernel
theorem ok_174 : ∀ q ∈ cd_174, okB 174 q = true := by decide +kernel
theorem ok_175 : ∀ q ∈ cd_175, okB 175 q = true := by decide +kernel
theorem ok_176 : ∀ q ∈ cd_176, okB 176 q = true := by decide +kernel
theorem ok_177 : ∀ q ∈ cd_177, okB 177 q = true := by decide +kernel
theorem ok_178 : ∀ q ∈ cd_178, okB 178 q = true := by decide +kernel
theorem ok_179 : ∀ q ∈ cd_179, okB 179 q = true := by decide +kernel
theorem ok_180 : ∀ q ∈ cd_180, okB 180 q = true := by decide +kernel
theorem ok_181 : ∀ q ∈ cd_181, okB 181 q = true := by decide +kernel
theorem ok_182 : ∀ q ∈ cd_182, okB 182 q = true := by decide +kernel
theorem ok_183 : ∀ q ∈ cd_183, okB 183 q = true := by decide +kernel
theorem ok_184 : ∀ q ∈ cd_184, okB 184 q = true := by decide +kernel
theorem ok_185 : ∀ q ∈ cd_185, okB 185 q = true := by decide +kernel
theorem ok_186 : ∀ q ∈ cd_186, okB 186 q = true := by decide +kernel
theorem ok_187 : ∀ q ∈ cd_187, okB 187 q = true := by decide +kernel
theorem ok_188 : ∀ q ∈ cd_188, okB 188 q = true := by decide +kernel
theorem ok_189 : ∀ q ∈ cd_189, okB 189 q = true := by decide +kernel
theorem ok_190 : ∀ q ∈ cd_190, okB 190 q = true := by decide +kernel
theorem ok_191 : ∀ q ∈ cd_191, okB 191 q = true := by decide +kernel
theorem ok_192 : ∀ q ∈ cd_192, okB 192 q = true := by decide +kernel
theorem ok_193 : ∀ q ∈ cd_193, okB 193 q = true := by decide +kernel
theorem ok_194 : ∀ q ∈ cd_194, okB 194 q = true := by decide +kernel
theorem ok_195 : ∀ q ∈ cd_195, okB 195 q = true := by decide +kernel
theorem ok_196 : ∀ q ∈ cd_196, okB 196 q = true := by decide +kernel
theorem ok_197 : ∀ q ∈ cd_197, okB 197 q = true := by decide +kernel
theorem ok_198 : ∀ q ∈ cd_198, okB 198 q = true := by decide +kernel
theorem ok_199 : ∀ q ∈ cd_199, okB 199 q = true := by decide +kernel
theorem ok_200 : ∀ q ∈ cd_200, okB 200 q = true := by decide +kernel
theorem ok_201 : ∀ q ∈ cd_201, okB 201 q = true := by decide +kernel
theorem ok_202_0 : ∀ q ∈ (cd_202).take 40, okB 202 q = true := by decide +kernel
theorem ok_202_1 : ∀ q ∈ ((cd_202).drop 40).take 40, okB 202 q = true := by decide +kernel
theorem ok_202_2 : ∀ q ∈ (((cd_202).drop 40).drop 40).take 40, okB 202 q = true := by decide +kernel
theorem ok_202_3 : ∀ q ∈ ((((cd_202).drop 40).drop 40).drop 40).take 40, okB 202 q = true := by decide +kernel
theorem ok_202_4 : ∀ q ∈ ((((cd_202).drop 40).drop 40).drop 40).drop 40, okB 202 q = true := by decide +kernel
theorem ok_202 : ∀ q ∈ cd_202, okB 202 q = true := (td 40 ok_202_0 (td 40 ok_202_1 (td 40 ok_202_2 (td 40 ok_202_3 ok_202_4))))
theorem okA : AllOk 0 cdL := ⟨ok_0, ok_1, ok_2, ok_3, ok_4, ok_5, ok_6, ok_7, ok_8, ok_9, ok_10, ok_11, ok_12, ok_13, ok_14, ok_15, ok_16, ok_17, ok_18, ok_19, ok_20, ok_21, ok_22, ok_23, ok_24, ok_25, ok_26, ok_27, ok_28, ok_29, ok_30, ok_31, ok_32, ok_33, ok_34, ok_35, ok_36, ok_37, ok_38, ok_39, ok_40, ok_41, ok_42, ok_43, ok_44, ok_45, ok_46, ok_47, ok_48, ok_49, ok_50, ok_51, ok_52, ok_53, ok_54, ok_55, ok_56, ok_57, ok_58, ok_59, ok_60, ok_61, ok_62, ok_63, ok_64, ok_65, ok_66, ok_67, ok_68, ok_69, ok_70, ok_71, ok_72, ok_73, ok_74, ok_75, ok_76, ok_77, ok_78, ok_79, ok_80, ok_81, ok_82, ok_83, ok_84, ok_85, ok_86, ok_87, ok_88, ok_89, ok_90, ok_91, ok_92, ok_93, ok_94, ok_95, ok_96, ok_97, ok_98, ok_99, ok_100, ok_101, ok_102, ok_103, ok_104, ok_105, ok_106, ok_107, ok_108, ok_109, ok_110, ok_111, ok_112, ok_113, ok_114, ok_115, ok_116, ok_117, ok_118, ok_119, ok_120, ok_121, ok_122, ok_123, ok_124, ok_125, ok_126, ok_127, ok_128, ok_129, ok_130, ok_131, ok_132, ok_133, ok_134, ok_135, ok_136, ok_137, ok_138, ok_139, ok_140, ok_141, ok_142, ok_143, ok_144, ok_145, ok_146, ok_147, ok_148, ok_149, ok_150, ok_151, ok_152, ok_153, ok_154, ok_155, ok_156, ok_157, ok_158, ok_159, ok_160, ok_161, ok_162, ok_163, ok_164, ok_165, ok_166, ok_167, ok_168, ok_169, ok_170, ok_171, ok_172, ok_173, ok_174, ok_175, ok_176, ok_177, ok_178, ok_179, ok_180, ok_181, ok_182, ok_183, ok_184, ok_185, ok_186, ok_187, ok_188, ok_189, ok_190, ok_191, ok_192, ok_193, ok_194, ok_195, ok_196, ok_197, ok_198, ok_199, ok_200, ok_201, ok_202, trivial⟩
theorem okC {k pc : Nat} {x : Instr × Nat × Nat × Nat × Nat × List Nat} (h : cd k pc = some x) : okB k (pc, x) = true := by
  unfold cd at h
  obtain ⟨q, hq, rfl⟩ := Option.map_eq_some_iff.mp h
  have h1 := List.mem_of_find?_eq_some hq
  have h2 := List.find?_some hq
  have h3 := AllOk_at okA k q h1
  rw [Nat.zero_add] at h3
  have h4 : q.1 = pc := by simpa using h2
  subst h4
  exact h3
/-- a method's own facts -/
def mokB (k : Nat) : Bool := plainName (mN k).cls && decide ((mN k).cls ≠ "java/lang/invoke/MethodHandle") && decide ((mN k).cls ≠ "java/lang/invoke/VarHandle") && decide ((mN k).cls = Rn (own k))
  && (match mR k with
    | none => rk k == 0
    | some .int => rk k == 1
    | some .boolean => rk k == 2 || rk k == 6
    | some .long => rk k == 3
    | some .double => rk k == 4
    | some (.object _) => rk k == 5
    | _ => false)
def parB (k n : Nat) : Bool := decide ((parseMethodDescriptor (mN k).desc).map (fun d => d.parameters.length) = some n)
/-- calls: the number of arguments, the callee's kind -/
def calB (q : Nat × Nat × Nat × Nat × Nat) : Bool := match q with
  | (o, _, a, b, c) => c == 6 || c == 8 || c == 9 || (decide (a < 202) && nar a == b && (if c == 2 || c == 3 || c == 7 then parB a b && staT.contains a else b ≥ 1 && parB a (b - 1) && ismT.contains a && (c ≥ 4 || selT.contains a)) && (if c == 7 then !(hhs a).isEmpty && decide ((mN a).cls = Rn o) else (hhs a).isEmpty) && (c < 4 || c == 7 || ((mN a).name == "<init>" && rk a == 0)))
theorem mok_all : ∀ k ∈ List.range 203, mokB k = true := by decide +kernel
theorem calg_all : ∀ q ∈ mlgT, calB q = true := by decide +kernel
theorem caln_all : ∀ q ∈ mlnT, calB q = true := by decide +kernel
end
section
/-! ===== the code table, row by row: by program (wip/p28/gen4.py) ===== -/
theorem cd_0_0 : cd 0 0 = some (.aload_n 0, 1, 0, 0, 0, []) := rfl
theorem cd_0_1 : cd 0 1 = some (.invokespecial 3, 3, 0, 1, 6, []) := rfl
theorem cd_0_4 : cd 0 4 = some (.aload_n 0, 1, 0, 0, 0, []) := rfl
theorem cd_0_5 : cd 0 5 = some (.new 9, 3, 1, 0, 0, []) := rfl
theorem cd_0_8 : cd 0 8 = some (.dup, 1, 0, 0, 0, []) := rfl
theorem cd_0_9 : cd 0 9 = some (.invokespecial 11, 3, 18, 1, 5, []) := rfl
theorem cd_0_12 : cd 0 12 = some (.putfield 12, 3, 0, 0, 0, []) := rfl
theorem cd_0_15 : cd 0 15 = some (.aload_n 0, 1, 0, 0, 0, []) := rfl
theorem cd_0_16 : cd 0 16 = some (.bipush 28, 2, 0, 0, 0, []) := rfl
theorem cd_0_18 : cd 0 18 = some (.newarray .int, 2, 0, 0, 0, []) := rfl
theorem cd_0_20 : cd 0 20 = some (.putfield 18, 3, 0, 1, 0, []) := rfl
theorem cd_0_23 : cd 0 23 = some (.aload_n 0, 1, 0, 0, 0, []) := rfl
theorem cd_0_24 : cd 0 24 = some (.bipush 28, 2, 0, 0, 0, []) := rfl
theorem cd_0_26 : cd 0 26 = some (.newarray .int, 2, 0, 0, 0, []) := rfl
theorem cd_0_28 : cd 0 28 = some (.putfield 22, 3, 0, 2, 0, []) := rfl
theorem cd_0_31 : cd 0 31 = some (.aload_n 0, 1, 0, 0, 0, []) := rfl
theorem cd_0_32 : cd 0 32 = some (.bipush 28, 2, 0, 0, 0, []) := rfl
theorem cd_0_34 : cd 0 34 = some (.newarray .int, 2, 0, 0, 0, []) := rfl
theorem cd_0_36 : cd 0 36 = some (.putfield 25, 3, 0, 3, 0, []) := rfl
theorem cd_0_39 : cd 0 39 = some (.aload_n 0, 1, 0, 0, 0, []) := rfl
theorem cd_0_40 : cd 0 40 = some (.bipush 28, 2, 0, 0, 0, []) := rfl
theorem cd_0_42 : cd 0 42 = some (.newarray .int, 2, 0, 0, 0, []) := rfl
theorem cd_0_44 : cd 0 44 = some (.putfield 28, 3, 0, 4, 0, []) := rfl
theorem cd_0_47 : cd 0 47 = some (.aload_n 0, 1, 0, 0, 0, []) := rfl
theorem cd_0_48 : cd 0 48 = some (.bipush 28, 2, 0, 0, 0, []) := rfl
theorem cd_0_50 : cd 0 50 = some (.newarray .long, 2, 0, 0, 0, []) := rfl
theorem cd_0_52 : cd 0 52 = some (.putfield 31, 3, 0, 5, 0, []) := rfl
theorem cd_0_55 : cd 0 55 = some (.aload_n 0, 1, 0, 0, 0, []) := rfl
theorem cd_0_56 : cd 0 56 = some (.bipush 28, 2, 0, 0, 0, []) := rfl
theorem cd_0_58 : cd 0 58 = some (.newarray .long, 2, 0, 0, 0, []) := rfl
theorem cd_0_60 : cd 0 60 = some (.putfield 35, 3, 0, 6, 0, []) := rfl
theorem cd_0_63 : cd 0 63 = some (.aload_n 0, 1, 0, 0, 0, []) := rfl
theorem cd_0_64 : cd 0 64 = some (.sipush 2744, 3, 0, 0, 0, []) := rfl
theorem cd_0_67 : cd 0 67 = some (.newarray .int, 2, 0, 0, 0, []) := rfl
theorem cd_0_69 : cd 0 69 = some (.putfield 38, 3, 0, 7, 0, []) := rfl
theorem cd_0_72 : cd 0 72 = some (.aload_n 0, 1, 0, 0, 0, []) := rfl
theorem cd_0_73 : cd 0 73 = some (.bipush 49, 2, 0, 0, 0, []) := rfl
theorem cd_0_75 : cd 0 75 = some (.newarray .int, 2, 0, 0, 0, []) := rfl
theorem cd_0_77 : cd 0 77 = some (.putfield 41, 3, 0, 8, 0, []) := rfl
theorem cd_0_80 : cd 0 80 = some (.aload_n 0, 1, 0, 0, 0, []) := rfl
theorem cd_0_81 : cd 0 81 = some (.bipush 49, 2, 0, 0, 0, []) := rfl
theorem cd_0_83 : cd 0 83 = some (.newarray .int, 2, 0, 0, 0, []) := rfl
theorem cd_0_85 : cd 0 85 = some (.putfield 44, 3, 0, 9, 0, []) := rfl
theorem cd_0_88 : cd 0 88 = some (.aload_n 0, 1, 0, 0, 0, []) := rfl
theorem cd_0_89 : cd 0 89 = some (.bipush 49, 2, 0, 0, 0, []) := rfl
theorem cd_0_91 : cd 0 91 = some (.newarray .int, 2, 0, 0, 0, []) := rfl
theorem cd_0_93 : cd 0 93 = some (.putfield 47, 3, 0, 10, 0, []) := rfl
theorem cd_0_96 : cd 0 96 = some (.return_, 1, 0, 0, 0, []) := rfl
theorem cd_1_0 : cd 1 0 = some (.aload_n 0, 1, 0, 0, 0, []) := rfl
theorem cd_1_1 : cd 1 1 = some (.invokevirtual 50, 3, 2, 1, 0, []) := rfl
theorem cd_1_4 : cd 1 4 = some (.iconst 0, 1, 0, 0, 0, []) := rfl
theorem cd_1_5 : cd 1 5 = some (.istore_n 2, 1, 0, 0, 0, []) := rfl
theorem cd_1_6 : cd 1 6 = some (.iload_n 2, 1, 0, 0, 0, []) := rfl
theorem cd_1_7 : cd 1 7 = some (.aload_n 1, 1, 0, 0, 0, []) := rfl
theorem cd_1_8 : cd 1 8 = some (.invokevirtual 53, 3, 50, 1, 0, []) := rfl
theorem cd_1_11 : cd 1 11 = some (.if_icmp .ge 30, 3, 0, 0, 0, []) := rfl
theorem cd_1_14 : cd 1 14 = some (.aload_n 0, 1, 0, 0, 0, []) := rfl
theorem cd_1_15 : cd 1 15 = some (.aload_n 1, 1, 0, 0, 0, []) := rfl
theorem cd_1_16 : cd 1 16 = some (.iload_n 2, 1, 0, 0, 0, []) := rfl
theorem cd_1_17 : cd 1 17 = some (.invokevirtual 59, 3, 3, 3, 0, []) := rfl
theorem cd_1_20 : cd 1 20 = some (.aload_n 0, 1, 0, 0, 0, []) := rfl
theorem cd_1_21 : cd 1 21 = some (.iload_n 2, 1, 0, 0, 0, []) := rfl
theorem cd_1_22 : cd 1 22 = some (.invokevirtual 63, 3, 7, 2, 0, []) := rfl
theorem cd_1_25 : cd 1 25 = some (.iload_n 2, 1, 0, 0, 0, []) := rfl
theorem cd_1_26 : cd 1 26 = some (.if_icmp .ne 9, 3, 0, 0, 0, []) := rfl
theorem cd_1_29 : cd 1 29 = some (.aload_n 0, 1, 0, 0, 0, []) := rfl
theorem cd_1_30 : cd 1 30 = some (.aload_n 1, 1, 0, 0, 0, []) := rfl
theorem cd_1_31 : cd 1 31 = some (.iload_n 2, 1, 0, 0, 0, []) := rfl
theorem cd_1_32 : cd 1 32 = some (.invokevirtual 67, 3, 5, 3, 0, []) := rfl
theorem cd_1_35 : cd 1 35 = some (.iinc 2 1, 3, 0, 0, 0, []) := rfl
theorem cd_1_38 : cd 1 38 = some (.goto (-32), 3, 0, 0, 0, []) := rfl
theorem cd_1_41 : cd 1 41 = some (.return_, 1, 0, 0, 0, []) := rfl
theorem cd_2_0 : cd 2 0 = some (.aload_n 0, 1, 0, 0, 0, []) := rfl
theorem cd_2_1 : cd 2 1 = some (.getfield 18, 3, 0, 1, 0, []) := rfl
theorem cd_2_4 : cd 2 4 = some (.iconst (-1), 1, 0, 0, 0, []) := rfl
theorem cd_2_5 : cd 2 5 = some (.invokestatic 70, 3, 201, 2, 2, []) := rfl
theorem cd_2_8 : cd 2 8 = some (.aload_n 0, 1, 0, 0, 0, []) := rfl
theorem cd_2_9 : cd 2 9 = some (.getfield 22, 3, 0, 2, 0, []) := rfl
theorem cd_2_12 : cd 2 12 = some (.iconst 0, 1, 0, 0, 0, []) := rfl
theorem cd_2_13 : cd 2 13 = some (.invokestatic 70, 3, 201, 2, 2, []) := rfl
theorem cd_2_16 : cd 2 16 = some (.aload_n 0, 1, 0, 0, 0, []) := rfl
theorem cd_2_17 : cd 2 17 = some (.getfield 25, 3, 0, 3, 0, []) := rfl
theorem cd_2_20 : cd 2 20 = some (.iconst 0, 1, 0, 0, 0, []) := rfl
theorem cd_2_21 : cd 2 21 = some (.invokestatic 70, 3, 201, 2, 2, []) := rfl
theorem cd_2_24 : cd 2 24 = some (.aload_n 0, 1, 0, 0, 0, []) := rfl
theorem cd_2_25 : cd 2 25 = some (.getfield 28, 3, 0, 4, 0, []) := rfl
theorem cd_2_28 : cd 2 28 = some (.iconst 0, 1, 0, 0, 0, []) := rfl
theorem cd_2_29 : cd 2 29 = some (.invokestatic 70, 3, 201, 2, 2, []) := rfl
theorem cd_2_32 : cd 2 32 = some (.aload_n 0, 1, 0, 0, 0, []) := rfl
theorem cd_2_33 : cd 2 33 = some (.getfield 31, 3, 0, 5, 0, []) := rfl
theorem cd_2_36 : cd 2 36 = some (.lconst 0, 1, 0, 0, 0, []) := rfl
theorem cd_2_37 : cd 2 37 = some (.invokestatic 76, 3, 200, 2, 2, []) := rfl
theorem cd_2_40 : cd 2 40 = some (.aload_n 0, 1, 0, 0, 0, []) := rfl
theorem cd_2_41 : cd 2 41 = some (.getfield 35, 3, 0, 6, 0, []) := rfl
theorem cd_2_44 : cd 2 44 = some (.lconst 0, 1, 0, 0, 0, []) := rfl
theorem cd_2_45 : cd 2 45 = some (.invokestatic 76, 3, 200, 2, 2, []) := rfl
theorem cd_2_48 : cd 2 48 = some (.aload_n 0, 1, 0, 0, 0, []) := rfl
theorem cd_2_49 : cd 2 49 = some (.getfield 41, 3, 0, 8, 0, []) := rfl
theorem cd_2_52 : cd 2 52 = some (.iconst (-1), 1, 0, 0, 0, []) := rfl
theorem cd_2_53 : cd 2 53 = some (.invokestatic 70, 3, 201, 2, 2, []) := rfl
theorem cd_2_56 : cd 2 56 = some (.aload_n 0, 1, 0, 0, 0, []) := rfl
theorem cd_2_57 : cd 2 57 = some (.getfield 44, 3, 0, 9, 0, []) := rfl
theorem cd_2_60 : cd 2 60 = some (.iconst (-1), 1, 0, 0, 0, []) := rfl
theorem cd_2_61 : cd 2 61 = some (.invokestatic 70, 3, 201, 2, 2, []) := rfl
theorem cd_2_64 : cd 2 64 = some (.aload_n 0, 1, 0, 0, 0, []) := rfl
theorem cd_2_65 : cd 2 65 = some (.getfield 47, 3, 0, 10, 0, []) := rfl
theorem cd_2_68 : cd 2 68 = some (.iconst 0, 1, 0, 0, 0, []) := rfl
theorem cd_2_69 : cd 2 69 = some (.invokestatic 70, 3, 201, 2, 2, []) := rfl
theorem cd_2_72 : cd 2 72 = some (.aload_n 0, 1, 0, 0, 0, []) := rfl
theorem cd_2_73 : cd 2 73 = some (.iconst 0, 1, 0, 0, 0, []) := rfl
theorem cd_2_74 : cd 2 74 = some (.putfield 79, 3, 0, 11, 0, []) := rfl
theorem cd_2_77 : cd 2 77 = some (.aload_n 0, 1, 0, 0, 0, []) := rfl
theorem cd_2_78 : cd 2 78 = some (.iconst 0, 1, 0, 0, 0, []) := rfl
theorem cd_2_79 : cd 2 79 = some (.putfield 83, 3, 0, 12, 0, []) := rfl
theorem cd_2_82 : cd 2 82 = some (.return_, 1, 0, 0, 0, []) := rfl
theorem cd_3_0 : cd 3 0 = some (.aload_n 0, 1, 0, 0, 0, []) := rfl
theorem cd_3_1 : cd 3 1 = some (.getfield 12, 3, 0, 0, 0, []) := rfl
theorem cd_3_4 : cd 3 4 = some (.aload_n 1, 1, 0, 0, 0, []) := rfl
theorem cd_3_5 : cd 3 5 = some (.iload_n 2, 1, 0, 0, 0, []) := rfl
theorem cd_3_6 : cd 3 6 = some (.invokevirtual 86, 3, 19, 3, 0, []) := rfl
theorem cd_3_9 : cd 3 9 = some (.iconst 0, 1, 0, 0, 0, []) := rfl
theorem cd_3_10 : cd 3 10 = some (.istore_n 3, 1, 0, 0, 0, []) := rfl
theorem cd_3_11 : cd 3 11 = some (.iload_n 3, 1, 0, 0, 0, [4, 5, 6]) := rfl
theorem cd_3_12 : cd 3 12 = some (.bipush 98, 2, 0, 0, 0, []) := rfl
theorem cd_3_14 : cd 3 14 = some (.if_icmp .ge 80, 3, 0, 0, 0, []) := rfl
theorem cd_3_17 : cd 3 17 = some (.aload_n 0, 1, 0, 0, 0, []) := rfl
theorem cd_3_18 : cd 3 18 = some (.getfield 12, 3, 0, 0, 0, []) := rfl
theorem cd_3_21 : cd 3 21 = some (.aload_n 1, 1, 0, 0, 0, []) := rfl
theorem cd_3_22 : cd 3 22 = some (.invokevirtual 89, 3, 21, 2, 0, []) := rfl
theorem cd_3_25 : cd 3 25 = some (.istore 4, 2, 0, 0, 0, []) := rfl
theorem cd_3_27 : cd 3 27 = some (.aload_n 1, 1, 0, 0, 0, []) := rfl
theorem cd_3_28 : cd 3 28 = some (.iload 4, 2, 0, 0, 0, []) := rfl
theorem cd_3_30 : cd 3 30 = some (.invokevirtual 93, 3, 53, 2, 0, []) := rfl
theorem cd_3_33 : cd 3 33 = some (.istore 5, 2, 0, 0, 0, []) := rfl
theorem cd_3_35 : cd 3 35 = some (.aload_n 0, 1, 0, 0, 0, []) := rfl
theorem cd_3_36 : cd 3 36 = some (.iload_n 2, 1, 0, 0, 0, []) := rfl
theorem cd_3_37 : cd 3 37 = some (.iload 4, 2, 0, 0, 0, []) := rfl
theorem cd_3_39 : cd 3 39 = some (.iload 5, 2, 0, 0, 0, []) := rfl
theorem cd_3_41 : cd 3 41 = some (.invokevirtual 96, 3, 4, 4, 0, []) := rfl
theorem cd_3_44 : cd 3 44 = some (.iload 5, 2, 0, 0, 0, []) := rfl
theorem cd_3_46 : cd 3 46 = some (.bipush 35, 2, 0, 0, 0, []) := rfl
theorem cd_3_48 : cd 3 48 = some (.if_icmp .ne 4, 3, 0, 0, 0, []) := rfl
theorem cd_3_51 : cd 3 51 = some (.return_, 1, 0, 0, 0, []) := rfl
theorem cd_3_52 : cd 3 52 = some (.aload_n 0, 1, 0, 0, 0, []) := rfl
theorem cd_3_53 : cd 3 53 = some (.getfield 12, 3, 0, 0, 0, []) := rfl
theorem cd_3_56 : cd 3 56 = some (.iload 5, 2, 0, 0, 0, []) := rfl
theorem cd_3_58 : cd 3 58 = some (.invokevirtual 100, 3, 22, 2, 0, []) := rfl
theorem cd_3_61 : cd 3 61 = some (.aload_n 0, 1, 0, 0, 0, []) := rfl
theorem cd_3_62 : cd 3 62 = some (.getfield 12, 3, 0, 0, 0, []) := rfl
theorem cd_3_65 : cd 3 65 = some (.aload_n 1, 1, 0, 0, 0, []) := rfl
theorem cd_3_66 : cd 3 66 = some (.invokevirtual 104, 3, 24, 2, 0, []) := rfl
theorem cd_3_69 : cd 3 69 = some (.istore 6, 2, 0, 0, 0, []) := rfl
theorem cd_3_71 : cd 3 71 = some (.iload 6, 2, 0, 0, 0, []) := rfl
theorem cd_3_73 : cd 3 73 = some (.iconst (-1), 1, 0, 0, 0, []) := rfl
theorem cd_3_74 : cd 3 74 = some (.if_icmp .eq 14, 3, 0, 0, 0, []) := rfl
theorem cd_3_77 : cd 3 77 = some (.aload_n 0, 1, 0, 0, 0, []) := rfl
theorem cd_3_78 : cd 3 78 = some (.getfield 18, 3, 0, 1, 0, []) := rfl
theorem cd_3_81 : cd 3 81 = some (.iload_n 2, 1, 0, 0, 0, []) := rfl
theorem cd_3_82 : cd 3 82 = some (.iload 6, 2, 0, 0, 0, []) := rfl
theorem cd_3_84 : cd 3 84 = some (.invokestatic 107, 3, 127, 3, 3, []) := rfl
theorem cd_3_87 : cd 3 87 = some (.return_, 1, 0, 0, 0, []) := rfl
theorem cd_3_88 : cd 3 88 = some (.iinc 3 1, 3, 0, 0, 0, []) := rfl
theorem cd_3_91 : cd 3 91 = some (.goto (-80), 3, 0, 0, 0, []) := rfl
theorem cd_3_94 : cd 3 94 = some (.return_, 1, 0, 0, 0, []) := rfl
theorem cd_4_0 : cd 4 0 = some (.aload_n 0, 1, 0, 0, 0, []) := rfl
theorem cd_4_1 : cd 4 1 = some (.getfield 22, 3, 0, 2, 0, []) := rfl
theorem cd_4_4 : cd 4 4 = some (.iload_n 1, 1, 0, 0, 0, []) := rfl
theorem cd_4_5 : cd 4 5 = some (.invokestatic 111, 3, 125, 2, 3, []) := rfl
theorem cd_4_8 : cd 4 8 = some (.istore 4, 2, 0, 0, 0, []) := rfl
theorem cd_4_10 : cd 4 10 = some (.aload_n 0, 1, 0, 0, 0, []) := rfl
theorem cd_4_11 : cd 4 11 = some (.getfield 38, 3, 0, 7, 0, []) := rfl
theorem cd_4_14 : cd 4 14 = some (.iload_n 1, 1, 0, 0, 0, []) := rfl
theorem cd_4_15 : cd 4 15 = some (.bipush 98, 2, 0, 0, 0, []) := rfl
theorem cd_4_17 : cd 4 17 = some (.imul, 1, 0, 0, 0, []) := rfl
theorem cd_4_18 : cd 4 18 = some (.iload 4, 2, 0, 0, 0, []) := rfl
theorem cd_4_20 : cd 4 20 = some (.iadd, 1, 0, 0, 0, []) := rfl
theorem cd_4_21 : cd 4 21 = some (.iload_n 2, 1, 0, 0, 0, []) := rfl
theorem cd_4_22 : cd 4 22 = some (.invokestatic 107, 3, 127, 3, 3, []) := rfl
theorem cd_4_25 : cd 4 25 = some (.aload_n 0, 1, 0, 0, 0, []) := rfl
theorem cd_4_26 : cd 4 26 = some (.getfield 22, 3, 0, 2, 0, []) := rfl
theorem cd_4_29 : cd 4 29 = some (.iload_n 1, 1, 0, 0, 0, []) := rfl
theorem cd_4_30 : cd 4 30 = some (.iload 4, 2, 0, 0, 0, []) := rfl
theorem cd_4_32 : cd 4 32 = some (.iconst 1, 1, 0, 0, 0, []) := rfl
theorem cd_4_33 : cd 4 33 = some (.iadd, 1, 0, 0, 0, []) := rfl
theorem cd_4_34 : cd 4 34 = some (.invokestatic 107, 3, 127, 3, 3, []) := rfl
theorem cd_4_37 : cd 4 37 = some (.aload_n 0, 1, 0, 0, 0, []) := rfl
theorem cd_4_38 : cd 4 38 = some (.getfield 25, 3, 0, 3, 0, []) := rfl
theorem cd_4_41 : cd 4 41 = some (.iload_n 1, 1, 0, 0, 0, []) := rfl
theorem cd_4_42 : cd 4 42 = some (.aload_n 0, 1, 0, 0, 0, []) := rfl
theorem cd_4_43 : cd 4 43 = some (.getfield 25, 3, 0, 3, 0, []) := rfl
theorem cd_4_46 : cd 4 46 = some (.iload_n 1, 1, 0, 0, 0, []) := rfl
theorem cd_4_47 : cd 4 47 = some (.invokestatic 111, 3, 125, 2, 3, []) := rfl
theorem cd_4_50 : cd 4 50 = some (.iload_n 3, 1, 0, 0, 0, []) := rfl
theorem cd_4_51 : cd 4 51 = some (.invokestatic 115, 3, 121, 1, 3, []) := rfl
theorem cd_4_54 : cd 4 54 = some (.ifCond .eq 7, 3, 0, 0, 0, []) := rfl
theorem cd_4_57 : cd 4 57 = some (.iconst 1, 1, 0, 0, 0, []) := rfl
theorem cd_4_58 : cd 4 58 = some (.goto 4, 3, 0, 0, 0, []) := rfl
theorem cd_4_61 : cd 4 61 = some (.iconst 0, 1, 0, 0, 0, []) := rfl
theorem cd_4_62 : cd 4 62 = some (.iadd, 1, 0, 0, 0, []) := rfl
theorem cd_4_63 : cd 4 63 = some (.invokestatic 107, 3, 127, 3, 3, []) := rfl
theorem cd_4_66 : cd 4 66 = some (.aload_n 0, 1, 0, 0, 0, []) := rfl
theorem cd_4_67 : cd 4 67 = some (.getfield 28, 3, 0, 4, 0, []) := rfl
theorem cd_4_70 : cd 4 70 = some (.iload_n 1, 1, 0, 0, 0, []) := rfl
theorem cd_4_71 : cd 4 71 = some (.aload_n 0, 1, 0, 0, 0, []) := rfl
theorem cd_4_72 : cd 4 72 = some (.getfield 28, 3, 0, 4, 0, []) := rfl
theorem cd_4_75 : cd 4 75 = some (.iload_n 1, 1, 0, 0, 0, []) := rfl
theorem cd_4_76 : cd 4 76 = some (.invokestatic 111, 3, 125, 2, 3, []) := rfl
theorem cd_4_79 : cd 4 79 = some (.iload_n 3, 1, 0, 0, 0, []) := rfl
theorem cd_4_80 : cd 4 80 = some (.invokestatic 119, 3, 120, 1, 3, []) := rfl
theorem cd_4_83 : cd 4 83 = some (.ifCond .eq 7, 3, 0, 0, 0, []) := rfl
theorem cd_4_86 : cd 4 86 = some (.iconst 1, 1, 0, 0, 0, []) := rfl
theorem cd_4_87 : cd 4 87 = some (.goto 4, 3, 0, 0, 0, []) := rfl
theorem cd_4_90 : cd 4 90 = some (.iconst 0, 1, 0, 0, 0, []) := rfl
theorem cd_4_91 : cd 4 91 = some (.iadd, 1, 0, 0, 0, []) := rfl
theorem cd_4_92 : cd 4 92 = some (.invokestatic 107, 3, 127, 3, 3, []) := rfl
theorem cd_4_95 : cd 4 95 = some (.aload_n 0, 1, 0, 0, 0, []) := rfl
theorem cd_4_96 : cd 4 96 = some (.getfield 31, 3, 0, 5, 0, []) := rfl
theorem cd_4_99 : cd 4 99 = some (.iload_n 1, 1, 0, 0, 0, []) := rfl
theorem cd_4_100 : cd 4 100 = some (.invokestatic 122, 3, 126, 2, 3, []) := rfl
theorem cd_4_103 : cd 4 103 = some (.lstore 5, 2, 0, 0, 0, []) := rfl
theorem cd_4_105 : cd 4 105 = some (.lconst 1, 1, 0, 0, 0, []) := rfl
theorem cd_4_106 : cd 4 106 = some (.iload_n 2, 1, 0, 0, 0, []) := rfl
theorem cd_4_107 : cd 4 107 = some (.lshl, 1, 0, 0, 0, []) := rfl
theorem cd_4_108 : cd 4 108 = some (.lstore 7, 2, 0, 0, 0, []) := rfl
theorem cd_4_110 : cd 4 110 = some (.aload_n 0, 1, 0, 0, 0, []) := rfl
theorem cd_4_111 : cd 4 111 = some (.getfield 35, 3, 0, 6, 0, []) := rfl
theorem cd_4_114 : cd 4 114 = some (.iload_n 1, 1, 0, 0, 0, []) := rfl
theorem cd_4_115 : cd 4 115 = some (.aload_n 0, 1, 0, 0, 0, []) := rfl
theorem cd_4_116 : cd 4 116 = some (.getfield 35, 3, 0, 6, 0, []) := rfl
theorem cd_4_119 : cd 4 119 = some (.iload_n 1, 1, 0, 0, 0, []) := rfl
theorem cd_4_120 : cd 4 120 = some (.invokestatic 122, 3, 126, 2, 3, []) := rfl
theorem cd_4_123 : cd 4 123 = some (.lload 5, 2, 0, 0, 0, []) := rfl
theorem cd_4_125 : cd 4 125 = some (.lload 7, 2, 0, 0, 0, []) := rfl
theorem cd_4_127 : cd 4 127 = some (.land, 1, 0, 0, 0, []) := rfl
theorem cd_4_128 : cd 4 128 = some (.lor, 1, 0, 0, 0, []) := rfl
theorem cd_4_129 : cd 4 129 = some (.invokestatic 125, 3, 128, 3, 3, []) := rfl
theorem cd_4_132 : cd 4 132 = some (.aload_n 0, 1, 0, 0, 0, []) := rfl
theorem cd_4_133 : cd 4 133 = some (.getfield 31, 3, 0, 5, 0, []) := rfl
theorem cd_4_136 : cd 4 136 = some (.iload_n 1, 1, 0, 0, 0, []) := rfl
theorem cd_4_137 : cd 4 137 = some (.lload 5, 2, 0, 0, 0, []) := rfl
theorem cd_4_139 : cd 4 139 = some (.lload 7, 2, 0, 0, 0, []) := rfl
theorem cd_4_141 : cd 4 141 = some (.lor, 1, 0, 0, 0, []) := rfl
theorem cd_4_142 : cd 4 142 = some (.invokestatic 125, 3, 128, 3, 3, []) := rfl
theorem cd_4_145 : cd 4 145 = some (.return_, 1, 0, 0, 0, []) := rfl
theorem cd_5_0 : cd 5 0 = some (.aload_n 0, 1, 0, 0, 0, []) := rfl
theorem cd_5_1 : cd 5 1 = some (.dup, 1, 0, 0, 0, []) := rfl
theorem cd_5_2 : cd 5 2 = some (.getfield 79, 3, 0, 11, 0, []) := rfl
theorem cd_5_5 : cd 5 5 = some (.iconst 1, 1, 0, 0, 0, []) := rfl
theorem cd_5_6 : cd 5 6 = some (.iadd, 1, 0, 0, 0, []) := rfl
theorem cd_5_7 : cd 5 7 = some (.putfield 79, 3, 0, 11, 0, []) := rfl
theorem cd_5_10 : cd 5 10 = some (.aload_n 0, 1, 0, 0, 0, []) := rfl
theorem cd_5_11 : cd 5 11 = some (.dup, 1, 0, 0, 0, []) := rfl
theorem cd_5_12 : cd 5 12 = some (.getfield 83, 3, 0, 12, 0, []) := rfl
theorem cd_5_15 : cd 5 15 = some (.aload_n 0, 1, 0, 0, 0, []) := rfl
theorem cd_5_16 : cd 5 16 = some (.iload_n 2, 1, 0, 0, 0, []) := rfl
theorem cd_5_17 : cd 5 17 = some (.invokevirtual 128, 3, 12, 2, 0, []) := rfl
theorem cd_5_20 : cd 5 20 = some (.ifCond .eq 7, 3, 0, 0, 0, []) := rfl
theorem cd_5_23 : cd 5 23 = some (.iconst 1, 1, 0, 0, 0, []) := rfl
theorem cd_5_24 : cd 5 24 = some (.goto 4, 3, 0, 0, 0, []) := rfl
theorem cd_5_27 : cd 5 27 = some (.iconst 0, 1, 0, 0, 0, []) := rfl
theorem cd_5_28 : cd 5 28 = some (.iadd, 1, 0, 0, 0, []) := rfl
theorem cd_5_29 : cd 5 29 = some (.putfield 83, 3, 0, 12, 0, []) := rfl
theorem cd_5_32 : cd 5 32 = some (.aload_n 0, 1, 0, 0, 0, []) := rfl
theorem cd_5_33 : cd 5 33 = some (.getfield 12, 3, 0, 0, 0, []) := rfl
theorem cd_5_36 : cd 5 36 = some (.aload_n 1, 1, 0, 0, 0, []) := rfl
theorem cd_5_37 : cd 5 37 = some (.iload_n 2, 1, 0, 0, 0, []) := rfl
theorem cd_5_38 : cd 5 38 = some (.invokevirtual 86, 3, 19, 3, 0, []) := rfl
theorem cd_5_41 : cd 5 41 = some (.iconst 0, 1, 0, 0, 0, []) := rfl
theorem cd_5_42 : cd 5 42 = some (.istore_n 3, 1, 0, 0, 0, []) := rfl
theorem cd_5_43 : cd 5 43 = some (.iload_n 3, 1, 0, 0, 0, [4, 5]) := rfl
theorem cd_5_44 : cd 5 44 = some (.aload_n 0, 1, 0, 0, 0, []) := rfl
theorem cd_5_45 : cd 5 45 = some (.iload_n 2, 1, 0, 0, 0, []) := rfl
theorem cd_5_46 : cd 5 46 = some (.invokevirtual 131, 3, 9, 2, 0, []) := rfl
theorem cd_5_49 : cd 5 49 = some (.if_icmp .ge 82, 3, 0, 0, 0, []) := rfl
theorem cd_5_52 : cd 5 52 = some (.aload_n 0, 1, 0, 0, 0, []) := rfl
theorem cd_5_53 : cd 5 53 = some (.iload_n 2, 1, 0, 0, 0, []) := rfl
theorem cd_5_54 : cd 5 54 = some (.iload_n 3, 1, 0, 0, 0, []) := rfl
theorem cd_5_55 : cd 5 55 = some (.invokevirtual 134, 3, 14, 3, 0, []) := rfl
theorem cd_5_58 : cd 5 58 = some (.istore 4, 2, 0, 0, 0, []) := rfl
theorem cd_5_60 : cd 5 60 = some (.aload_n 0, 1, 0, 0, 0, []) := rfl
theorem cd_5_61 : cd 5 61 = some (.getfield 12, 3, 0, 0, 0, []) := rfl
theorem cd_5_64 : cd 5 64 = some (.getfield 138, 3, 1, 2, 1, []) := rfl
theorem cd_5_67 : cd 5 67 = some (.iconst 3, 1, 0, 0, 0, []) := rfl
theorem cd_5_68 : cd 5 68 = some (.if_icmp .eq 14, 3, 0, 0, 0, []) := rfl
theorem cd_5_71 : cd 5 71 = some (.aload_n 0, 1, 0, 0, 0, []) := rfl
theorem cd_5_72 : cd 5 72 = some (.getfield 12, 3, 0, 0, 0, []) := rfl
theorem cd_5_75 : cd 5 75 = some (.getfield 138, 3, 1, 2, 1, []) := rfl
theorem cd_5_78 : cd 5 78 = some (.iconst 1, 1, 0, 0, 0, []) := rfl
theorem cd_5_79 : cd 5 79 = some (.if_icmp .ne 7, 3, 0, 0, 0, []) := rfl
theorem cd_5_82 : cd 5 82 = some (.iconst 1, 1, 0, 0, 0, []) := rfl
theorem cd_5_83 : cd 5 83 = some (.goto 4, 3, 0, 0, 0, []) := rfl
theorem cd_5_86 : cd 5 86 = some (.iconst 0, 1, 0, 0, 0, []) := rfl
theorem cd_5_87 : cd 5 87 = some (.istore 5, 2, 0, 0, 0, []) := rfl
theorem cd_5_89 : cd 5 89 = some (.aload_n 0, 1, 0, 0, 0, []) := rfl
theorem cd_5_90 : cd 5 90 = some (.iload 5, 2, 0, 0, 0, []) := rfl
theorem cd_5_92 : cd 5 92 = some (.ifCond .eq 10, 3, 0, 0, 0, []) := rfl
theorem cd_5_95 : cd 5 95 = some (.aload_n 0, 1, 0, 0, 0, []) := rfl
theorem cd_5_96 : cd 5 96 = some (.getfield 41, 3, 0, 8, 0, []) := rfl
theorem cd_5_99 : cd 5 99 = some (.goto 7, 3, 0, 0, 0, []) := rfl
theorem cd_5_102 : cd 5 102 = some (.aload_n 0, 1, 0, 0, 0, []) := rfl
theorem cd_5_103 : cd 5 103 = some (.getfield 44, 3, 0, 9, 0, []) := rfl
theorem cd_5_106 : cd 5 106 = some (.iload 4, 2, 0, 0, 0, []) := rfl
theorem cd_5_108 : cd 5 108 = some (.iload_n 2, 1, 0, 0, 0, []) := rfl
theorem cd_5_109 : cd 5 109 = some (.invokevirtual 141, 3, 6, 4, 0, []) := rfl
theorem cd_5_112 : cd 5 112 = some (.aload_n 0, 1, 0, 0, 0, []) := rfl
theorem cd_5_113 : cd 5 113 = some (.getfield 12, 3, 0, 0, 0, []) := rfl
theorem cd_5_116 : cd 5 116 = some (.aload_n 1, 1, 0, 0, 0, []) := rfl
theorem cd_5_117 : cd 5 117 = some (.iload 4, 2, 0, 0, 0, []) := rfl
theorem cd_5_119 : cd 5 119 = some (.invokevirtual 93, 3, 53, 2, 0, []) := rfl
theorem cd_5_122 : cd 5 122 = some (.invokevirtual 100, 3, 22, 2, 0, []) := rfl
theorem cd_5_125 : cd 5 125 = some (.iinc 3 1, 3, 0, 0, 0, []) := rfl
theorem cd_5_128 : cd 5 128 = some (.goto (-85), 3, 0, 0, 0, []) := rfl
theorem cd_5_131 : cd 5 131 = some (.return_, 1, 0, 0, 0, []) := rfl
theorem cd_6_0 : cd 6 0 = some (.aload_n 1, 1, 0, 0, 0, []) := rfl
theorem cd_6_1 : cd 6 1 = some (.iload_n 2, 1, 0, 0, 0, []) := rfl
theorem cd_6_2 : cd 6 2 = some (.invokestatic 111, 3, 125, 2, 3, []) := rfl
theorem cd_6_5 : cd 6 5 = some (.iconst (-1), 1, 0, 0, 0, []) := rfl
theorem cd_6_6 : cd 6 6 = some (.if_icmp .ne 9, 3, 0, 0, 0, []) := rfl
theorem cd_6_9 : cd 6 9 = some (.aload_n 1, 1, 0, 0, 0, []) := rfl
theorem cd_6_10 : cd 6 10 = some (.iload_n 2, 1, 0, 0, 0, []) := rfl
theorem cd_6_11 : cd 6 11 = some (.iload_n 3, 1, 0, 0, 0, []) := rfl
theorem cd_6_12 : cd 6 12 = some (.invokestatic 107, 3, 127, 3, 3, []) := rfl
theorem cd_6_15 : cd 6 15 = some (.aload_n 0, 1, 0, 0, 0, []) := rfl
theorem cd_6_16 : cd 6 16 = some (.getfield 47, 3, 0, 10, 0, []) := rfl
theorem cd_6_19 : cd 6 19 = some (.iload_n 2, 1, 0, 0, 0, []) := rfl
theorem cd_6_20 : cd 6 20 = some (.aload_n 0, 1, 0, 0, 0, []) := rfl
theorem cd_6_21 : cd 6 21 = some (.getfield 47, 3, 0, 10, 0, []) := rfl
theorem cd_6_24 : cd 6 24 = some (.iload_n 2, 1, 0, 0, 0, []) := rfl
theorem cd_6_25 : cd 6 25 = some (.invokestatic 111, 3, 125, 2, 3, []) := rfl
theorem cd_6_28 : cd 6 28 = some (.iconst 1, 1, 0, 0, 0, []) := rfl
theorem cd_6_29 : cd 6 29 = some (.iadd, 1, 0, 0, 0, []) := rfl
theorem cd_6_30 : cd 6 30 = some (.invokestatic 107, 3, 127, 3, 3, []) := rfl
theorem cd_6_33 : cd 6 33 = some (.return_, 1, 0, 0, 0, []) := rfl
theorem cd_7_0 : cd 7 0 = some (.aload_n 0, 1, 0, 0, 0, []) := rfl
theorem cd_7_1 : cd 7 1 = some (.getfield 18, 3, 0, 1, 0, []) := rfl
theorem cd_7_4 : cd 7 4 = some (.iload_n 1, 1, 0, 0, 0, []) := rfl
theorem cd_7_5 : cd 7 5 = some (.invokestatic 111, 3, 125, 2, 3, []) := rfl
theorem cd_7_8 : cd 7 8 = some (.istore_n 2, 1, 0, 0, 0, []) := rfl
theorem cd_7_9 : cd 7 9 = some (.iload_n 2, 1, 0, 0, 0, []) := rfl
theorem cd_7_10 : cd 7 10 = some (.iconst (-1), 1, 0, 0, 0, []) := rfl
theorem cd_7_11 : cd 7 11 = some (.if_icmp .ne 7, 3, 0, 0, 0, []) := rfl
theorem cd_7_14 : cd 7 14 = some (.iload_n 1, 1, 0, 0, 0, []) := rfl
theorem cd_7_15 : cd 7 15 = some (.goto 8, 3, 0, 0, 0, []) := rfl
theorem cd_7_18 : cd 7 18 = some (.iload_n 1, 1, 0, 0, 0, []) := rfl
theorem cd_7_19 : cd 7 19 = some (.iload_n 2, 1, 0, 0, 0, []) := rfl
theorem cd_7_20 : cd 7 20 = some (.invokestatic 144, 3, 0, 2, 9, []) := rfl
theorem cd_7_23 : cd 7 23 = some (.ireturn, 1, 0, 0, 0, []) := rfl
theorem cd_8_0 : cd 8 0 = some (.aload_n 0, 1, 0, 0, 0, []) := rfl
theorem cd_8_1 : cd 8 1 = some (.getfield 18, 3, 0, 1, 0, []) := rfl
theorem cd_8_4 : cd 8 4 = some (.iload_n 1, 1, 0, 0, 0, []) := rfl
theorem cd_8_5 : cd 8 5 = some (.invokestatic 111, 3, 125, 2, 3, []) := rfl
theorem cd_8_8 : cd 8 8 = some (.ireturn, 1, 0, 0, 0, []) := rfl
theorem cd_9_0 : cd 9 0 = some (.aload_n 0, 1, 0, 0, 0, []) := rfl
theorem cd_9_1 : cd 9 1 = some (.getfield 22, 3, 0, 2, 0, []) := rfl
theorem cd_9_4 : cd 9 4 = some (.iload_n 1, 1, 0, 0, 0, []) := rfl
theorem cd_9_5 : cd 9 5 = some (.invokestatic 111, 3, 125, 2, 3, []) := rfl
theorem cd_9_8 : cd 9 8 = some (.ireturn, 1, 0, 0, 0, []) := rfl
theorem cd_10_0 : cd 10 0 = some (.aload_n 0, 1, 0, 0, 0, []) := rfl
theorem cd_10_1 : cd 10 1 = some (.getfield 25, 3, 0, 3, 0, []) := rfl
theorem cd_10_4 : cd 10 4 = some (.iload_n 1, 1, 0, 0, 0, []) := rfl
theorem cd_10_5 : cd 10 5 = some (.invokestatic 111, 3, 125, 2, 3, []) := rfl
theorem cd_10_8 : cd 10 8 = some (.ireturn, 1, 0, 0, 0, []) := rfl
theorem cd_11_0 : cd 11 0 = some (.aload_n 0, 1, 0, 0, 0, []) := rfl
theorem cd_11_1 : cd 11 1 = some (.getfield 28, 3, 0, 4, 0, []) := rfl
theorem cd_11_4 : cd 11 4 = some (.iload_n 1, 1, 0, 0, 0, []) := rfl
theorem cd_11_5 : cd 11 5 = some (.invokestatic 111, 3, 125, 2, 3, []) := rfl
theorem cd_11_8 : cd 11 8 = some (.ireturn, 1, 0, 0, 0, []) := rfl
theorem cd_12_0 : cd 12 0 = some (.aload_n 0, 1, 0, 0, 0, []) := rfl
theorem cd_12_1 : cd 12 1 = some (.getfield 35, 3, 0, 6, 0, []) := rfl
theorem cd_12_4 : cd 12 4 = some (.iload_n 1, 1, 0, 0, 0, []) := rfl
theorem cd_12_5 : cd 12 5 = some (.invokestatic 122, 3, 126, 2, 3, []) := rfl
theorem cd_12_8 : cd 12 8 = some (.lconst 0, 1, 0, 0, 0, []) := rfl
theorem cd_12_9 : cd 12 9 = some (.lcmp, 1, 0, 0, 0, []) := rfl
theorem cd_12_10 : cd 12 10 = some (.ifCond .eq 7, 3, 0, 0, 0, []) := rfl
theorem cd_12_13 : cd 12 13 = some (.iconst 1, 1, 0, 0, 0, []) := rfl
theorem cd_12_14 : cd 12 14 = some (.goto 4, 3, 0, 0, 0, []) := rfl
theorem cd_12_17 : cd 12 17 = some (.iconst 0, 1, 0, 0, 0, []) := rfl
theorem cd_12_18 : cd 12 18 = some (.ireturn, 1, 0, 0, 0, []) := rfl
theorem cd_13_0 : cd 13 0 = some (.aload_n 0, 1, 0, 0, 0, []) := rfl
theorem cd_13_1 : cd 13 1 = some (.getfield 31, 3, 0, 5, 0, []) := rfl
theorem cd_13_4 : cd 13 4 = some (.iload_n 1, 1, 0, 0, 0, []) := rfl
theorem cd_13_5 : cd 13 5 = some (.invokestatic 122, 3, 126, 2, 3, []) := rfl
theorem cd_13_8 : cd 13 8 = some (.lreturn, 1, 0, 0, 0, []) := rfl
theorem cd_14_0 : cd 14 0 = some (.aload_n 0, 1, 0, 0, 0, []) := rfl
theorem cd_14_1 : cd 14 1 = some (.getfield 38, 3, 0, 7, 0, []) := rfl
theorem cd_14_4 : cd 14 4 = some (.iload_n 1, 1, 0, 0, 0, []) := rfl
theorem cd_14_5 : cd 14 5 = some (.bipush 98, 2, 0, 0, 0, []) := rfl
theorem cd_14_7 : cd 14 7 = some (.imul, 1, 0, 0, 0, []) := rfl
theorem cd_14_8 : cd 14 8 = some (.iload_n 2, 1, 0, 0, 0, []) := rfl
theorem cd_14_9 : cd 14 9 = some (.iadd, 1, 0, 0, 0, []) := rfl
theorem cd_14_10 : cd 14 10 = some (.invokestatic 111, 3, 125, 2, 3, []) := rfl
theorem cd_14_13 : cd 14 13 = some (.ireturn, 1, 0, 0, 0, []) := rfl
theorem cd_15_0 : cd 15 0 = some (.aload_n 0, 1, 0, 0, 0, []) := rfl
theorem cd_15_1 : cd 15 1 = some (.getfield 41, 3, 0, 8, 0, []) := rfl
theorem cd_15_4 : cd 15 4 = some (.iload_n 1, 1, 0, 0, 0, []) := rfl
theorem cd_15_5 : cd 15 5 = some (.invokestatic 111, 3, 125, 2, 3, []) := rfl
theorem cd_15_8 : cd 15 8 = some (.ireturn, 1, 0, 0, 0, []) := rfl
theorem cd_16_0 : cd 16 0 = some (.aload_n 0, 1, 0, 0, 0, []) := rfl
theorem cd_16_1 : cd 16 1 = some (.getfield 44, 3, 0, 9, 0, []) := rfl
theorem cd_16_4 : cd 16 4 = some (.iload_n 1, 1, 0, 0, 0, []) := rfl
theorem cd_16_5 : cd 16 5 = some (.invokestatic 111, 3, 125, 2, 3, []) := rfl
theorem cd_16_8 : cd 16 8 = some (.ireturn, 1, 0, 0, 0, []) := rfl
theorem cd_17_0 : cd 17 0 = some (.aload_n 0, 1, 0, 0, 0, []) := rfl
theorem cd_17_1 : cd 17 1 = some (.getfield 47, 3, 0, 10, 0, []) := rfl
theorem cd_17_4 : cd 17 4 = some (.iload_n 1, 1, 0, 0, 0, []) := rfl
theorem cd_17_5 : cd 17 5 = some (.invokestatic 111, 3, 125, 2, 3, []) := rfl
theorem cd_17_8 : cd 17 8 = some (.ireturn, 1, 0, 0, 0, []) := rfl
theorem cd_18_0 : cd 18 0 = some (.aload_n 0, 1, 0, 0, 0, []) := rfl
theorem cd_18_1 : cd 18 1 = some (.invokespecial 3, 3, 0, 1, 6, []) := rfl
theorem cd_18_4 : cd 18 4 = some (.return_, 1, 0, 0, 0, []) := rfl
theorem cd_19_0 : cd 19 0 = some (.aload_n 1, 1, 0, 0, 0, []) := rfl
theorem cd_19_1 : cd 19 1 = some (.getfield 9, 3, 5, 0, 1, []) := rfl
theorem cd_19_4 : cd 19 4 = some (.istore_n 3, 1, 0, 0, 0, []) := rfl
theorem cd_19_5 : cd 19 5 = some (.aload_n 1, 1, 0, 0, 0, []) := rfl
theorem cd_19_6 : cd 19 6 = some (.getfield 15, 3, 5, 1, 1, []) := rfl
theorem cd_19_9 : cd 19 9 = some (.istore 4, 2, 0, 0, 0, []) := rfl
theorem cd_19_11 : cd 19 11 = some (.iload_n 2, 1, 0, 0, 0, []) := rfl
theorem cd_19_12 : cd 19 12 = some (.iload_n 3, 1, 0, 0, 0, []) := rfl
theorem cd_19_13 : cd 19 13 = some (.if_icmp .ge 13, 3, 0, 0, 0, []) := rfl
theorem cd_19_16 : cd 19 16 = some (.aload_n 0, 1, 0, 0, 0, []) := rfl
theorem cd_19_17 : cd 19 17 = some (.iconst 0, 1, 0, 0, 0, []) := rfl
theorem cd_19_18 : cd 19 18 = some (.iload_n 2, 1, 0, 0, 0, []) := rfl
theorem cd_19_19 : cd 19 19 = some (.iconst 2, 1, 0, 0, 0, []) := rfl
theorem cd_19_20 : cd 19 20 = some (.invokevirtual 18, 3, 20, 4, 0, []) := rfl
theorem cd_19_23 : cd 19 23 = some (.goto 67, 3, 0, 0, 0, []) := rfl
theorem cd_19_26 : cd 19 26 = some (.iload_n 2, 1, 0, 0, 0, []) := rfl
theorem cd_19_27 : cd 19 27 = some (.iload_n 3, 1, 0, 0, 0, []) := rfl
theorem cd_19_28 : cd 19 28 = some (.iload 4, 2, 0, 0, 0, []) := rfl
theorem cd_19_30 : cd 19 30 = some (.iadd, 1, 0, 0, 0, []) := rfl
theorem cd_19_31 : cd 19 31 = some (.if_icmp .ge 17, 3, 0, 0, 0, []) := rfl
theorem cd_19_34 : cd 19 34 = some (.aload_n 0, 1, 0, 0, 0, []) := rfl
theorem cd_19_35 : cd 19 35 = some (.iload_n 2, 1, 0, 0, 0, []) := rfl
theorem cd_19_36 : cd 19 36 = some (.iload_n 3, 1, 0, 0, 0, []) := rfl
theorem cd_19_37 : cd 19 37 = some (.isub, 1, 0, 0, 0, []) := rfl
theorem cd_19_38 : cd 19 38 = some (.iload_n 3, 1, 0, 0, 0, []) := rfl
theorem cd_19_39 : cd 19 39 = some (.iconst 1, 1, 0, 0, 0, []) := rfl
theorem cd_19_40 : cd 19 40 = some (.isub, 1, 0, 0, 0, []) := rfl
theorem cd_19_41 : cd 19 41 = some (.iconst 3, 1, 0, 0, 0, []) := rfl
theorem cd_19_42 : cd 19 42 = some (.invokevirtual 18, 3, 20, 4, 0, []) := rfl
theorem cd_19_45 : cd 19 45 = some (.goto 45, 3, 0, 0, 0, []) := rfl
theorem cd_19_48 : cd 19 48 = some (.iload_n 2, 1, 0, 0, 0, []) := rfl
theorem cd_19_49 : cd 19 49 = some (.iconst 2, 1, 0, 0, 0, []) := rfl
theorem cd_19_50 : cd 19 50 = some (.iload_n 3, 1, 0, 0, 0, []) := rfl
theorem cd_19_51 : cd 19 51 = some (.imul, 1, 0, 0, 0, []) := rfl
theorem cd_19_52 : cd 19 52 = some (.iload 4, 2, 0, 0, 0, []) := rfl
theorem cd_19_54 : cd 19 54 = some (.iadd, 1, 0, 0, 0, []) := rfl
theorem cd_19_55 : cd 19 55 = some (.if_icmp .ge 21, 3, 0, 0, 0, []) := rfl
theorem cd_19_58 : cd 19 58 = some (.aload_n 0, 1, 0, 0, 0, []) := rfl
theorem cd_19_59 : cd 19 59 = some (.iload 4, 2, 0, 0, 0, []) := rfl
theorem cd_19_61 : cd 19 61 = some (.iconst 1, 1, 0, 0, 0, []) := rfl
theorem cd_19_62 : cd 19 62 = some (.isub, 1, 0, 0, 0, []) := rfl
theorem cd_19_63 : cd 19 63 = some (.iload_n 2, 1, 0, 0, 0, []) := rfl
theorem cd_19_64 : cd 19 64 = some (.iload_n 3, 1, 0, 0, 0, []) := rfl
theorem cd_19_65 : cd 19 65 = some (.isub, 1, 0, 0, 0, []) := rfl
theorem cd_19_66 : cd 19 66 = some (.iload 4, 2, 0, 0, 0, []) := rfl
theorem cd_19_68 : cd 19 68 = some (.isub, 1, 0, 0, 0, []) := rfl
theorem cd_19_69 : cd 19 69 = some (.iconst 0, 1, 0, 0, 0, []) := rfl
theorem cd_19_70 : cd 19 70 = some (.invokevirtual 18, 3, 20, 4, 0, []) := rfl
theorem cd_19_73 : cd 19 73 = some (.goto 17, 3, 0, 0, 0, []) := rfl
theorem cd_19_76 : cd 19 76 = some (.aload_n 0, 1, 0, 0, 0, []) := rfl
theorem cd_19_77 : cd 19 77 = some (.iload_n 2, 1, 0, 0, 0, []) := rfl
theorem cd_19_78 : cd 19 78 = some (.iconst 2, 1, 0, 0, 0, []) := rfl
theorem cd_19_79 : cd 19 79 = some (.iload_n 3, 1, 0, 0, 0, []) := rfl
theorem cd_19_80 : cd 19 80 = some (.imul, 1, 0, 0, 0, []) := rfl
theorem cd_19_81 : cd 19 81 = some (.isub, 1, 0, 0, 0, []) := rfl
theorem cd_19_82 : cd 19 82 = some (.iload 4, 2, 0, 0, 0, []) := rfl
theorem cd_19_84 : cd 19 84 = some (.isub, 1, 0, 0, 0, []) := rfl
theorem cd_19_85 : cd 19 85 = some (.iconst 0, 1, 0, 0, 0, []) := rfl
theorem cd_19_86 : cd 19 86 = some (.iconst 1, 1, 0, 0, 0, []) := rfl
theorem cd_19_87 : cd 19 87 = some (.invokevirtual 18, 3, 20, 4, 0, []) := rfl
theorem cd_19_90 : cd 19 90 = some (.return_, 1, 0, 0, 0, []) := rfl
theorem cd_20_0 : cd 20 0 = some (.aload_n 0, 1, 0, 0, 0, []) := rfl
theorem cd_20_1 : cd 20 1 = some (.iload_n 1, 1, 0, 0, 0, []) := rfl
theorem cd_20_2 : cd 20 2 = some (.putfield 24, 3, 1, 0, 0, []) := rfl
theorem cd_20_5 : cd 20 5 = some (.aload_n 0, 1, 0, 0, 0, []) := rfl
theorem cd_20_6 : cd 20 6 = some (.iload_n 2, 1, 0, 0, 0, []) := rfl
theorem cd_20_7 : cd 20 7 = some (.putfield 27, 3, 1, 1, 0, []) := rfl
theorem cd_20_10 : cd 20 10 = some (.aload_n 0, 1, 0, 0, 0, []) := rfl
theorem cd_20_11 : cd 20 11 = some (.iload_n 3, 1, 0, 0, 0, []) := rfl
theorem cd_20_12 : cd 20 12 = some (.putfield 30, 3, 1, 2, 0, []) := rfl
theorem cd_20_15 : cd 20 15 = some (.return_, 1, 0, 0, 0, []) := rfl
theorem cd_21_0 : cd 21 0 = some (.aload_n 0, 1, 0, 0, 0, []) := rfl
theorem cd_21_1 : cd 21 1 = some (.getfield 24, 3, 1, 0, 0, []) := rfl
theorem cd_21_4 : cd 21 4 = some (.aload_n 1, 1, 0, 0, 0, []) := rfl
theorem cd_21_5 : cd 21 5 = some (.getfield 9, 3, 5, 0, 1, []) := rfl
theorem cd_21_8 : cd 21 8 = some (.imul, 1, 0, 0, 0, []) := rfl
theorem cd_21_9 : cd 21 9 = some (.aload_n 0, 1, 0, 0, 0, []) := rfl
theorem cd_21_10 : cd 21 10 = some (.getfield 27, 3, 1, 1, 0, []) := rfl
theorem cd_21_13 : cd 21 13 = some (.iadd, 1, 0, 0, 0, []) := rfl
theorem cd_21_14 : cd 21 14 = some (.ireturn, 1, 0, 0, 0, []) := rfl
theorem cd_22_0 : cd 22 0 = some (.aload_n 0, 1, 0, 0, 0, []) := rfl
theorem cd_22_1 : cd 22 1 = some (.aload_n 0, 1, 0, 0, 0, []) := rfl
theorem cd_22_2 : cd 22 2 = some (.iload_n 1, 1, 0, 0, 0, []) := rfl
theorem cd_22_3 : cd 22 3 = some (.invokevirtual 33, 3, 23, 2, 0, []) := rfl
theorem cd_22_6 : cd 22 6 = some (.putfield 30, 3, 1, 2, 0, []) := rfl
theorem cd_22_9 : cd 22 9 = some (.aload_n 0, 1, 0, 0, 0, []) := rfl
theorem cd_22_10 : cd 22 10 = some (.getfield 30, 3, 1, 2, 0, []) := rfl
theorem cd_22_13 : cd 22 13 = some (.tableswitch 66 0 2 #[27, 40, 53], 27, 0, 0, 0, []) := rfl
theorem cd_22_40 : cd 22 40 = some (.aload_n 0, 1, 0, 0, 0, []) := rfl
theorem cd_22_41 : cd 22 41 = some (.dup, 1, 0, 0, 0, []) := rfl
theorem cd_22_42 : cd 22 42 = some (.getfield 24, 3, 1, 0, 0, []) := rfl
theorem cd_22_45 : cd 22 45 = some (.iconst 1, 1, 0, 0, 0, []) := rfl
theorem cd_22_46 : cd 22 46 = some (.isub, 1, 0, 0, 0, []) := rfl
theorem cd_22_47 : cd 22 47 = some (.putfield 24, 3, 1, 0, 0, []) := rfl
theorem cd_22_50 : cd 22 50 = some (.goto 39, 3, 0, 0, 0, []) := rfl
theorem cd_22_53 : cd 22 53 = some (.aload_n 0, 1, 0, 0, 0, []) := rfl
theorem cd_22_54 : cd 22 54 = some (.dup, 1, 0, 0, 0, []) := rfl
theorem cd_22_55 : cd 22 55 = some (.getfield 27, 3, 1, 1, 0, []) := rfl
theorem cd_22_58 : cd 22 58 = some (.iconst 1, 1, 0, 0, 0, []) := rfl
theorem cd_22_59 : cd 22 59 = some (.iadd, 1, 0, 0, 0, []) := rfl
theorem cd_22_60 : cd 22 60 = some (.putfield 27, 3, 1, 1, 0, []) := rfl
theorem cd_22_63 : cd 22 63 = some (.goto 26, 3, 0, 0, 0, []) := rfl
theorem cd_22_66 : cd 22 66 = some (.aload_n 0, 1, 0, 0, 0, []) := rfl
theorem cd_22_67 : cd 22 67 = some (.dup, 1, 0, 0, 0, []) := rfl
theorem cd_22_68 : cd 22 68 = some (.getfield 24, 3, 1, 0, 0, []) := rfl
theorem cd_22_71 : cd 22 71 = some (.iconst 1, 1, 0, 0, 0, []) := rfl
theorem cd_22_72 : cd 22 72 = some (.iadd, 1, 0, 0, 0, []) := rfl
theorem cd_22_73 : cd 22 73 = some (.putfield 24, 3, 1, 0, 0, []) := rfl
theorem cd_22_76 : cd 22 76 = some (.goto 13, 3, 0, 0, 0, []) := rfl
theorem cd_22_79 : cd 22 79 = some (.aload_n 0, 1, 0, 0, 0, []) := rfl
theorem cd_22_80 : cd 22 80 = some (.dup, 1, 0, 0, 0, []) := rfl
theorem cd_22_81 : cd 22 81 = some (.getfield 27, 3, 1, 1, 0, []) := rfl
theorem cd_22_84 : cd 22 84 = some (.iconst 1, 1, 0, 0, 0, []) := rfl
theorem cd_22_85 : cd 22 85 = some (.isub, 1, 0, 0, 0, []) := rfl
theorem cd_22_86 : cd 22 86 = some (.putfield 27, 3, 1, 1, 0, []) := rfl
theorem cd_22_89 : cd 22 89 = some (.return_, 1, 0, 0, 0, []) := rfl
theorem cd_23_0 : cd 23 0 = some (.iload_n 1, 1, 0, 0, 0, []) := rfl
theorem cd_23_1 : cd 23 1 = some (.bipush 47, 2, 0, 0, 0, []) := rfl
theorem cd_23_3 : cd 23 3 = some (.if_icmp .ne 40, 3, 0, 0, 0, []) := rfl
theorem cd_23_6 : cd 23 6 = some (.aload_n 0, 1, 0, 0, 0, []) := rfl
theorem cd_23_7 : cd 23 7 = some (.getfield 30, 3, 1, 2, 0, []) := rfl
theorem cd_23_10 : cd 23 10 = some (.ifCond .ne 7, 3, 0, 0, 0, []) := rfl
theorem cd_23_13 : cd 23 13 = some (.iconst 1, 1, 0, 0, 0, []) := rfl
theorem cd_23_14 : cd 23 14 = some (.goto 28, 3, 0, 0, 0, []) := rfl
theorem cd_23_17 : cd 23 17 = some (.aload_n 0, 1, 0, 0, 0, []) := rfl
theorem cd_23_18 : cd 23 18 = some (.getfield 30, 3, 1, 2, 0, []) := rfl
theorem cd_23_21 : cd 23 21 = some (.iconst 1, 1, 0, 0, 0, []) := rfl
theorem cd_23_22 : cd 23 22 = some (.if_icmp .ne 7, 3, 0, 0, 0, []) := rfl
theorem cd_23_25 : cd 23 25 = some (.iconst 0, 1, 0, 0, 0, []) := rfl
theorem cd_23_26 : cd 23 26 = some (.goto 16, 3, 0, 0, 0, []) := rfl
theorem cd_23_29 : cd 23 29 = some (.aload_n 0, 1, 0, 0, 0, []) := rfl
theorem cd_23_30 : cd 23 30 = some (.getfield 30, 3, 1, 2, 0, []) := rfl
theorem cd_23_33 : cd 23 33 = some (.iconst 2, 1, 0, 0, 0, []) := rfl
theorem cd_23_34 : cd 23 34 = some (.if_icmp .ne 7, 3, 0, 0, 0, []) := rfl
theorem cd_23_37 : cd 23 37 = some (.iconst 3, 1, 0, 0, 0, []) := rfl
theorem cd_23_38 : cd 23 38 = some (.goto 4, 3, 0, 0, 0, []) := rfl
theorem cd_23_41 : cd 23 41 = some (.iconst 2, 1, 0, 0, 0, []) := rfl
theorem cd_23_42 : cd 23 42 = some (.ireturn, 1, 0, 0, 0, []) := rfl
theorem cd_23_43 : cd 23 43 = some (.iload_n 1, 1, 0, 0, 0, []) := rfl
theorem cd_23_44 : cd 23 44 = some (.bipush 92, 2, 0, 0, 0, []) := rfl
theorem cd_23_46 : cd 23 46 = some (.if_icmp .ne 40, 3, 0, 0, 0, []) := rfl
theorem cd_23_49 : cd 23 49 = some (.aload_n 0, 1, 0, 0, 0, []) := rfl
theorem cd_23_50 : cd 23 50 = some (.getfield 30, 3, 1, 2, 0, []) := rfl
theorem cd_23_53 : cd 23 53 = some (.ifCond .ne 7, 3, 0, 0, 0, []) := rfl
theorem cd_23_56 : cd 23 56 = some (.iconst 3, 1, 0, 0, 0, []) := rfl
theorem cd_23_57 : cd 23 57 = some (.goto 28, 3, 0, 0, 0, []) := rfl
theorem cd_23_60 : cd 23 60 = some (.aload_n 0, 1, 0, 0, 0, []) := rfl
theorem cd_23_61 : cd 23 61 = some (.getfield 30, 3, 1, 2, 0, []) := rfl
theorem cd_23_64 : cd 23 64 = some (.iconst 3, 1, 0, 0, 0, []) := rfl
theorem cd_23_65 : cd 23 65 = some (.if_icmp .ne 7, 3, 0, 0, 0, []) := rfl
theorem cd_23_68 : cd 23 68 = some (.iconst 0, 1, 0, 0, 0, []) := rfl
theorem cd_23_69 : cd 23 69 = some (.goto 16, 3, 0, 0, 0, []) := rfl
theorem cd_23_72 : cd 23 72 = some (.aload_n 0, 1, 0, 0, 0, []) := rfl
theorem cd_23_73 : cd 23 73 = some (.getfield 30, 3, 1, 2, 0, []) := rfl
theorem cd_23_76 : cd 23 76 = some (.iconst 2, 1, 0, 0, 0, []) := rfl
theorem cd_23_77 : cd 23 77 = some (.if_icmp .ne 7, 3, 0, 0, 0, []) := rfl
theorem cd_23_80 : cd 23 80 = some (.iconst 1, 1, 0, 0, 0, []) := rfl
theorem cd_23_81 : cd 23 81 = some (.goto 4, 3, 0, 0, 0, []) := rfl
theorem cd_23_84 : cd 23 84 = some (.iconst 2, 1, 0, 0, 0, []) := rfl
theorem cd_23_85 : cd 23 85 = some (.ireturn, 1, 0, 0, 0, []) := rfl
theorem cd_23_86 : cd 23 86 = some (.aload_n 0, 1, 0, 0, 0, []) := rfl
theorem cd_23_87 : cd 23 87 = some (.getfield 30, 3, 1, 2, 0, []) := rfl
theorem cd_23_90 : cd 23 90 = some (.ireturn, 1, 0, 0, 0, []) := rfl
theorem cd_24_0 : cd 24 0 = some (.aload_n 1, 1, 0, 0, 0, []) := rfl
theorem cd_24_1 : cd 24 1 = some (.getfield 9, 3, 5, 0, 1, []) := rfl
theorem cd_24_4 : cd 24 4 = some (.istore_n 2, 1, 0, 0, 0, []) := rfl
theorem cd_24_5 : cd 24 5 = some (.aload_n 1, 1, 0, 0, 0, []) := rfl
theorem cd_24_6 : cd 24 6 = some (.getfield 15, 3, 5, 1, 1, []) := rfl
theorem cd_24_9 : cd 24 9 = some (.istore_n 3, 1, 0, 0, 0, []) := rfl
theorem cd_24_10 : cd 24 10 = some (.aload_n 0, 1, 0, 0, 0, []) := rfl
theorem cd_24_11 : cd 24 11 = some (.getfield 24, 3, 1, 0, 0, []) := rfl
theorem cd_24_14 : cd 24 14 = some (.ifCond .ge 8, 3, 0, 0, 0, []) := rfl
theorem cd_24_17 : cd 24 17 = some (.aload_n 0, 1, 0, 0, 0, []) := rfl
theorem cd_24_18 : cd 24 18 = some (.getfield 27, 3, 1, 1, 0, []) := rfl
theorem cd_24_21 : cd 24 21 = some (.ireturn, 1, 0, 0, 0, []) := rfl
theorem cd_24_22 : cd 24 22 = some (.aload_n 0, 1, 0, 0, 0, []) := rfl
theorem cd_24_23 : cd 24 23 = some (.getfield 27, 3, 1, 1, 0, []) := rfl
theorem cd_24_26 : cd 24 26 = some (.iload_n 2, 1, 0, 0, 0, []) := rfl
theorem cd_24_27 : cd 24 27 = some (.if_icmp .lt 10, 3, 0, 0, 0, []) := rfl
theorem cd_24_30 : cd 24 30 = some (.iload_n 2, 1, 0, 0, 0, []) := rfl
theorem cd_24_31 : cd 24 31 = some (.aload_n 0, 1, 0, 0, 0, []) := rfl
theorem cd_24_32 : cd 24 32 = some (.getfield 24, 3, 1, 0, 0, []) := rfl
theorem cd_24_35 : cd 24 35 = some (.iadd, 1, 0, 0, 0, []) := rfl
theorem cd_24_36 : cd 24 36 = some (.ireturn, 1, 0, 0, 0, []) := rfl
theorem cd_24_37 : cd 24 37 = some (.aload_n 0, 1, 0, 0, 0, []) := rfl
theorem cd_24_38 : cd 24 38 = some (.getfield 24, 3, 1, 0, 0, []) := rfl
theorem cd_24_41 : cd 24 41 = some (.iload_n 3, 1, 0, 0, 0, []) := rfl
theorem cd_24_42 : cd 24 42 = some (.if_icmp .lt 12, 3, 0, 0, 0, []) := rfl
theorem cd_24_45 : cd 24 45 = some (.iload_n 2, 1, 0, 0, 0, []) := rfl
theorem cd_24_46 : cd 24 46 = some (.iload_n 3, 1, 0, 0, 0, []) := rfl
theorem cd_24_47 : cd 24 47 = some (.iadd, 1, 0, 0, 0, []) := rfl
theorem cd_24_48 : cd 24 48 = some (.aload_n 0, 1, 0, 0, 0, []) := rfl
theorem cd_24_49 : cd 24 49 = some (.getfield 27, 3, 1, 1, 0, []) := rfl
theorem cd_24_52 : cd 24 52 = some (.iadd, 1, 0, 0, 0, []) := rfl
theorem cd_24_53 : cd 24 53 = some (.ireturn, 1, 0, 0, 0, []) := rfl
theorem cd_24_54 : cd 24 54 = some (.aload_n 0, 1, 0, 0, 0, []) := rfl
theorem cd_24_55 : cd 24 55 = some (.getfield 27, 3, 1, 1, 0, []) := rfl
theorem cd_24_58 : cd 24 58 = some (.ifCond .ge 16, 3, 0, 0, 0, []) := rfl
theorem cd_24_61 : cd 24 61 = some (.iconst 2, 1, 0, 0, 0, []) := rfl
theorem cd_24_62 : cd 24 62 = some (.iload_n 2, 1, 0, 0, 0, []) := rfl
theorem cd_24_63 : cd 24 63 = some (.imul, 1, 0, 0, 0, []) := rfl
theorem cd_24_64 : cd 24 64 = some (.iload_n 3, 1, 0, 0, 0, []) := rfl
theorem cd_24_65 : cd 24 65 = some (.iadd, 1, 0, 0, 0, []) := rfl
theorem cd_24_66 : cd 24 66 = some (.aload_n 0, 1, 0, 0, 0, []) := rfl
theorem cd_24_67 : cd 24 67 = some (.getfield 24, 3, 1, 0, 0, []) := rfl
theorem cd_24_70 : cd 24 70 = some (.iadd, 1, 0, 0, 0, []) := rfl
theorem cd_24_71 : cd 24 71 = some (.goto 4, 3, 0, 0, 0, []) := rfl
theorem cd_24_74 : cd 24 74 = some (.iconst (-1), 1, 0, 0, 0, []) := rfl
theorem cd_24_75 : cd 24 75 = some (.ireturn, 1, 0, 0, 0, []) := rfl
theorem cd_25_0 : cd 25 0 = some (.aload_n 0, 1, 0, 0, 0, []) := rfl
theorem cd_25_1 : cd 25 1 = some (.invokespecial 3, 3, 0, 1, 6, []) := rfl
theorem cd_25_4 : cd 25 4 = some (.aload_n 0, 1, 0, 0, 0, []) := rfl
theorem cd_25_5 : cd 25 5 = some (.iconst 4, 1, 0, 0, 0, []) := rfl
theorem cd_25_6 : cd 25 6 = some (.anewarray 9, 3, 3, 0, 0, []) := rfl
theorem cd_25_9 : cd 25 9 = some (.putfield 11, 3, 2, 0, 0, []) := rfl
theorem cd_25_12 : cd 25 12 = some (.aload_n 0, 1, 0, 0, 0, []) := rfl
theorem cd_25_13 : cd 25 13 = some (.iconst 4, 1, 0, 0, 0, []) := rfl
theorem cd_25_14 : cd 25 14 = some (.anewarray 17, 3, 4, 0, 0, []) := rfl
theorem cd_25_17 : cd 25 17 = some (.putfield 19, 3, 2, 1, 0, []) := rfl
theorem cd_25_20 : cd 25 20 = some (.iconst 0, 1, 0, 0, 0, []) := rfl
theorem cd_25_21 : cd 25 21 = some (.istore_n 1, 1, 0, 0, 0, []) := rfl
theorem cd_25_22 : cd 25 22 = some (.iload_n 1, 1, 0, 0, 0, []) := rfl
theorem cd_25_23 : cd 25 23 = some (.aload_n 0, 1, 0, 0, 0, []) := rfl
theorem cd_25_24 : cd 25 24 = some (.getfield 11, 3, 2, 0, 0, []) := rfl
theorem cd_25_27 : cd 25 27 = some (.arraylength, 1, 0, 0, 0, []) := rfl
theorem cd_25_28 : cd 25 28 = some (.if_icmp .ge 44, 3, 0, 0, 0, []) := rfl
theorem cd_25_31 : cd 25 31 = some (.iload_n 1, 1, 0, 0, 0, []) := rfl
theorem cd_25_32 : cd 25 32 = some (.aload_n 0, 1, 0, 0, 0, []) := rfl
theorem cd_25_33 : cd 25 33 = some (.getfield 19, 3, 2, 1, 0, []) := rfl
theorem cd_25_36 : cd 25 36 = some (.arraylength, 1, 0, 0, 0, []) := rfl
theorem cd_25_37 : cd 25 37 = some (.if_icmp .ge 35, 3, 0, 0, 0, []) := rfl
theorem cd_25_40 : cd 25 40 = some (.aload_n 0, 1, 0, 0, 0, []) := rfl
theorem cd_25_41 : cd 25 41 = some (.getfield 11, 3, 2, 0, 0, []) := rfl
theorem cd_25_44 : cd 25 44 = some (.iload_n 1, 1, 0, 0, 0, []) := rfl
theorem cd_25_45 : cd 25 45 = some (.new 9, 3, 5, 0, 0, []) := rfl
theorem cd_25_48 : cd 25 48 = some (.dup, 1, 0, 0, 0, []) := rfl
theorem cd_25_49 : cd 25 49 = some (.invokespecial 23, 3, 46, 1, 4, []) := rfl
theorem cd_25_52 : cd 25 52 = some (.aastore, 1, 0, 0, 0, []) := rfl
theorem cd_25_53 : cd 25 53 = some (.aload_n 0, 1, 0, 0, 0, []) := rfl
theorem cd_25_54 : cd 25 54 = some (.getfield 19, 3, 2, 1, 0, []) := rfl
theorem cd_25_57 : cd 25 57 = some (.iload_n 1, 1, 0, 0, 0, []) := rfl
theorem cd_25_58 : cd 25 58 = some (.new 17, 3, 7, 0, 0, []) := rfl
theorem cd_25_61 : cd 25 61 = some (.dup, 1, 0, 0, 0, []) := rfl
theorem cd_25_62 : cd 25 62 = some (.invokespecial 24, 3, 69, 1, 5, []) := rfl
theorem cd_25_65 : cd 25 65 = some (.aastore, 1, 0, 0, 0, []) := rfl
theorem cd_25_66 : cd 25 66 = some (.iinc 1 1, 3, 0, 0, 0, []) := rfl
theorem cd_25_69 : cd 25 69 = some (.goto (-47), 3, 0, 0, 0, []) := rfl
theorem cd_25_72 : cd 25 72 = some (.return_, 1, 0, 0, 0, []) := rfl
theorem cd_26_0 : cd 26 0 = some (.aload_n 0, 1, 0, 0, 0, []) := rfl
theorem cd_26_1 : cd 26 1 = some (.aload_n 0, 1, 0, 0, 0, []) := rfl
theorem cd_26_2 : cd 26 2 = some (.getfield 25, 3, 2, 3, 0, []) := rfl
theorem cd_26_5 : cd 26 5 = some (.invokevirtual 29, 3, 28, 2, 0, []) := rfl
theorem cd_26_8 : cd 26 8 = some (.astore_n 3, 1, 0, 0, 0, []) := rfl
theorem cd_26_9 : cd 26 9 = some (.aload_n 0, 1, 0, 0, 0, []) := rfl
theorem cd_26_10 : cd 26 10 = some (.aload_n 0, 1, 0, 0, 0, []) := rfl
theorem cd_26_11 : cd 26 11 = some (.getfield 25, 3, 2, 3, 0, []) := rfl
theorem cd_26_14 : cd 26 14 = some (.invokevirtual 33, 3, 29, 2, 0, []) := rfl
theorem cd_26_17 : cd 26 17 = some (.astore 4, 2, 0, 0, 0, []) := rfl
theorem cd_26_19 : cd 26 19 = some (.aload_n 3, 1, 0, 0, 0, []) := rfl
theorem cd_26_20 : cd 26 20 = some (.ifnull 19, 3, 0, 0, 0, []) := rfl
theorem cd_26_23 : cd 26 23 = some (.aload 4, 2, 0, 0, 0, []) := rfl
theorem cd_26_25 : cd 26 25 = some (.ifnull 14, 3, 0, 0, 0, []) := rfl
theorem cd_26_28 : cd 26 28 = some (.aload_n 3, 1, 0, 0, 0, []) := rfl
theorem cd_26_29 : cd 26 29 = some (.aload_n 1, 1, 0, 0, 0, []) := rfl
theorem cd_26_30 : cd 26 30 = some (.invokevirtual 37, 3, 48, 2, 0, []) := rfl
theorem cd_26_33 : cd 26 33 = some (.aload 4, 2, 0, 0, 0, []) := rfl
theorem cd_26_35 : cd 26 35 = some (.aload_n 2, 1, 0, 0, 0, []) := rfl
theorem cd_26_36 : cd 26 36 = some (.invokevirtual 41, 3, 70, 2, 0, []) := rfl
theorem cd_26_39 : cd 26 39 = some (.aload_n 0, 1, 0, 0, 0, []) := rfl
theorem cd_26_40 : cd 26 40 = some (.aload_n 0, 1, 0, 0, 0, []) := rfl
theorem cd_26_41 : cd 26 41 = some (.getfield 25, 3, 2, 3, 0, []) := rfl
theorem cd_26_44 : cd 26 44 = some (.iconst 1, 1, 0, 0, 0, []) := rfl
theorem cd_26_45 : cd 26 45 = some (.iadd, 1, 0, 0, 0, []) := rfl
theorem cd_26_46 : cd 26 46 = some (.iconst 4, 1, 0, 0, 0, []) := rfl
theorem cd_26_47 : cd 26 47 = some (.irem, 1, 0, 0, 0, []) := rfl
theorem cd_26_48 : cd 26 48 = some (.putfield 25, 3, 2, 3, 0, []) := rfl
theorem cd_26_51 : cd 26 51 = some (.aload_n 0, 1, 0, 0, 0, []) := rfl
theorem cd_26_52 : cd 26 52 = some (.aload_n 0, 1, 0, 0, 0, []) := rfl
theorem cd_26_53 : cd 26 53 = some (.getfield 44, 3, 2, 2, 0, []) := rfl
theorem cd_26_56 : cd 26 56 = some (.iconst 1, 1, 0, 0, 0, []) := rfl
theorem cd_26_57 : cd 26 57 = some (.iadd, 1, 0, 0, 0, []) := rfl
theorem cd_26_58 : cd 26 58 = some (.iconst 4, 1, 0, 0, 0, []) := rfl
theorem cd_26_59 : cd 26 59 = some (.invokestatic 47, 3, 0, 2, 9, []) := rfl
theorem cd_26_62 : cd 26 62 = some (.putfield 44, 3, 2, 2, 0, []) := rfl
theorem cd_26_65 : cd 26 65 = some (.return_, 1, 0, 0, 0, []) := rfl
theorem cd_27_0 : cd 27 0 = some (.aload_n 0, 1, 0, 0, 0, []) := rfl
theorem cd_27_1 : cd 27 1 = some (.aload_n 0, 1, 0, 0, 0, []) := rfl
theorem cd_27_2 : cd 27 2 = some (.getfield 25, 3, 2, 3, 0, []) := rfl
theorem cd_27_5 : cd 27 5 = some (.iconst 4, 1, 0, 0, 0, []) := rfl
theorem cd_27_6 : cd 27 6 = some (.iadd, 1, 0, 0, 0, []) := rfl
theorem cd_27_7 : cd 27 7 = some (.iconst 1, 1, 0, 0, 0, []) := rfl
theorem cd_27_8 : cd 27 8 = some (.isub, 1, 0, 0, 0, []) := rfl
theorem cd_27_9 : cd 27 9 = some (.iconst 4, 1, 0, 0, 0, []) := rfl
theorem cd_27_10 : cd 27 10 = some (.irem, 1, 0, 0, 0, []) := rfl
theorem cd_27_11 : cd 27 11 = some (.putfield 25, 3, 2, 3, 0, []) := rfl
theorem cd_27_14 : cd 27 14 = some (.aload_n 0, 1, 0, 0, 0, []) := rfl
theorem cd_27_15 : cd 27 15 = some (.aload_n 0, 1, 0, 0, 0, []) := rfl
theorem cd_27_16 : cd 27 16 = some (.getfield 44, 3, 2, 2, 0, []) := rfl
theorem cd_27_19 : cd 27 19 = some (.iconst 1, 1, 0, 0, 0, []) := rfl
theorem cd_27_20 : cd 27 20 = some (.isub, 1, 0, 0, 0, []) := rfl
theorem cd_27_21 : cd 27 21 = some (.iconst 0, 1, 0, 0, 0, []) := rfl
theorem cd_27_22 : cd 27 22 = some (.invokestatic 53, 3, 0, 2, 8, []) := rfl
theorem cd_27_25 : cd 27 25 = some (.putfield 44, 3, 2, 2, 0, []) := rfl
theorem cd_27_28 : cd 27 28 = some (.aload_n 0, 1, 0, 0, 0, []) := rfl
theorem cd_27_29 : cd 27 29 = some (.aload_n 0, 1, 0, 0, 0, []) := rfl
theorem cd_27_30 : cd 27 30 = some (.getfield 25, 3, 2, 3, 0, []) := rfl
theorem cd_27_33 : cd 27 33 = some (.invokevirtual 29, 3, 28, 2, 0, []) := rfl
theorem cd_27_36 : cd 27 36 = some (.astore_n 3, 1, 0, 0, 0, []) := rfl
theorem cd_27_37 : cd 27 37 = some (.aload_n 0, 1, 0, 0, 0, []) := rfl
theorem cd_27_38 : cd 27 38 = some (.aload_n 0, 1, 0, 0, 0, []) := rfl
theorem cd_27_39 : cd 27 39 = some (.getfield 25, 3, 2, 3, 0, []) := rfl
theorem cd_27_42 : cd 27 42 = some (.invokevirtual 33, 3, 29, 2, 0, []) := rfl
theorem cd_27_45 : cd 27 45 = some (.astore 4, 2, 0, 0, 0, []) := rfl
theorem cd_27_47 : cd 27 47 = some (.aload_n 3, 1, 0, 0, 0, []) := rfl
theorem cd_27_48 : cd 27 48 = some (.ifnull 19, 3, 0, 0, 0, []) := rfl
theorem cd_27_51 : cd 27 51 = some (.aload 4, 2, 0, 0, 0, []) := rfl
theorem cd_27_53 : cd 27 53 = some (.ifnull 14, 3, 0, 0, 0, []) := rfl
theorem cd_27_56 : cd 27 56 = some (.aload_n 1, 1, 0, 0, 0, []) := rfl
theorem cd_27_57 : cd 27 57 = some (.aload_n 3, 1, 0, 0, 0, []) := rfl
theorem cd_27_58 : cd 27 58 = some (.invokevirtual 37, 3, 48, 2, 0, []) := rfl
theorem cd_27_61 : cd 27 61 = some (.aload_n 2, 1, 0, 0, 0, []) := rfl
theorem cd_27_62 : cd 27 62 = some (.aload 4, 2, 0, 0, 0, []) := rfl
theorem cd_27_64 : cd 27 64 = some (.invokevirtual 41, 3, 70, 2, 0, []) := rfl
theorem cd_27_67 : cd 27 67 = some (.return_, 1, 0, 0, 0, []) := rfl
theorem cd_28_0 : cd 28 0 = some (.iload_n 1, 1, 0, 0, 0, []) := rfl
theorem cd_28_1 : cd 28 1 = some (.ifCond .lt 21, 3, 0, 0, 0, []) := rfl
theorem cd_28_4 : cd 28 4 = some (.iload_n 1, 1, 0, 0, 0, []) := rfl
theorem cd_28_5 : cd 28 5 = some (.aload_n 0, 1, 0, 0, 0, []) := rfl
theorem cd_28_6 : cd 28 6 = some (.getfield 11, 3, 2, 0, 0, []) := rfl
theorem cd_28_9 : cd 28 9 = some (.arraylength, 1, 0, 0, 0, []) := rfl
theorem cd_28_10 : cd 28 10 = some (.if_icmp .ge 12, 3, 0, 0, 0, []) := rfl
theorem cd_28_13 : cd 28 13 = some (.aload_n 0, 1, 0, 0, 0, []) := rfl
theorem cd_28_14 : cd 28 14 = some (.getfield 11, 3, 2, 0, 0, []) := rfl
theorem cd_28_17 : cd 28 17 = some (.iload_n 1, 1, 0, 0, 0, []) := rfl
theorem cd_28_18 : cd 28 18 = some (.aaload, 1, 0, 0, 0, []) := rfl
theorem cd_28_19 : cd 28 19 = some (.goto 4, 3, 0, 0, 0, []) := rfl
theorem cd_28_22 : cd 28 22 = some (.aconst_null, 1, 0, 0, 0, []) := rfl
theorem cd_28_23 : cd 28 23 = some (.areturn, 1, 0, 0, 0, []) := rfl
theorem cd_29_0 : cd 29 0 = some (.iload_n 1, 1, 0, 0, 0, []) := rfl
theorem cd_29_1 : cd 29 1 = some (.ifCond .lt 21, 3, 0, 0, 0, []) := rfl
theorem cd_29_4 : cd 29 4 = some (.iload_n 1, 1, 0, 0, 0, []) := rfl
theorem cd_29_5 : cd 29 5 = some (.aload_n 0, 1, 0, 0, 0, []) := rfl
theorem cd_29_6 : cd 29 6 = some (.getfield 19, 3, 2, 1, 0, []) := rfl
theorem cd_29_9 : cd 29 9 = some (.arraylength, 1, 0, 0, 0, []) := rfl
theorem cd_29_10 : cd 29 10 = some (.if_icmp .ge 12, 3, 0, 0, 0, []) := rfl
theorem cd_29_13 : cd 29 13 = some (.aload_n 0, 1, 0, 0, 0, []) := rfl
theorem cd_29_14 : cd 29 14 = some (.getfield 19, 3, 2, 1, 0, []) := rfl
theorem cd_29_17 : cd 29 17 = some (.iload_n 1, 1, 0, 0, 0, []) := rfl
theorem cd_29_18 : cd 29 18 = some (.aaload, 1, 0, 0, 0, []) := rfl
theorem cd_29_19 : cd 29 19 = some (.goto 4, 3, 0, 0, 0, []) := rfl
theorem cd_29_22 : cd 29 22 = some (.aconst_null, 1, 0, 0, 0, []) := rfl
theorem cd_29_23 : cd 29 23 = some (.areturn, 1, 0, 0, 0, []) := rfl
theorem cd_30_0 : cd 30 0 = some (.aload_n 0, 1, 0, 0, 0, []) := rfl
theorem cd_30_1 : cd 30 1 = some (.invokespecial 3, 3, 0, 1, 6, []) := rfl
theorem cd_30_4 : cd 30 4 = some (.aload_n 0, 1, 0, 0, 0, []) := rfl
theorem cd_30_5 : cd 30 5 = some (.sipush 294, 3, 0, 0, 0, []) := rfl
theorem cd_30_8 : cd 30 8 = some (.newarray .int, 2, 0, 0, 0, []) := rfl
theorem cd_30_10 : cd 30 10 = some (.putfield 9, 3, 3, 0, 0, []) := rfl
theorem cd_30_13 : cd 30 13 = some (.return_, 1, 0, 0, 0, []) := rfl
theorem cd_31_0 : cd 31 0 = some (.aload_n 0, 1, 0, 0, 0, []) := rfl
theorem cd_31_1 : cd 31 1 = some (.iconst 0, 1, 0, 0, 0, []) := rfl
theorem cd_31_2 : cd 31 2 = some (.putfield 15, 3, 3, 1, 0, []) := rfl
theorem cd_31_5 : cd 31 5 = some (.aload_n 0, 1, 0, 0, 0, []) := rfl
theorem cd_31_6 : cd 31 6 = some (.iconst 0, 1, 0, 0, 0, []) := rfl
theorem cd_31_7 : cd 31 7 = some (.putfield 19, 3, 3, 2, 0, []) := rfl
theorem cd_31_10 : cd 31 10 = some (.iconst 0, 1, 0, 0, 0, []) := rfl
theorem cd_31_11 : cd 31 11 = some (.istore 4, 2, 0, 0, 0, []) := rfl
theorem cd_31_13 : cd 31 13 = some (.iload 4, 2, 0, 0, 0, []) := rfl
theorem cd_31_15 : cd 31 15 = some (.aload_n 2, 1, 0, 0, 0, []) := rfl
theorem cd_31_16 : cd 31 16 = some (.iload_n 3, 1, 0, 0, 0, []) := rfl
theorem cd_31_17 : cd 31 17 = some (.invokevirtual 23, 3, 9, 2, 0, []) := rfl
theorem cd_31_20 : cd 31 20 = some (.if_icmp .ge 24, 3, 0, 0, 0, []) := rfl
theorem cd_31_23 : cd 31 23 = some (.aload_n 0, 1, 0, 0, 0, []) := rfl
theorem cd_31_24 : cd 31 24 = some (.aload_n 1, 1, 0, 0, 0, []) := rfl
theorem cd_31_25 : cd 31 25 = some (.aload_n 2, 1, 0, 0, 0, []) := rfl
theorem cd_31_26 : cd 31 26 = some (.iload_n 3, 1, 0, 0, 0, []) := rfl
theorem cd_31_27 : cd 31 27 = some (.iload 4, 2, 0, 0, 0, []) := rfl
theorem cd_31_29 : cd 31 29 = some (.invokevirtual 29, 3, 14, 3, 0, []) := rfl
theorem cd_31_32 : cd 31 32 = some (.invokevirtual 33, 3, 53, 2, 0, []) := rfl
theorem cd_31_35 : cd 31 35 = some (.invokevirtual 38, 3, 32, 2, 0, []) := rfl
theorem cd_31_38 : cd 31 38 = some (.iinc 4 1, 3, 0, 0, 0, []) := rfl
theorem cd_31_41 : cd 31 41 = some (.goto (-28), 3, 0, 0, 0, []) := rfl
theorem cd_31_44 : cd 31 44 = some (.return_, 1, 0, 0, 0, []) := rfl
theorem cd_32_0 : cd 32 0 = some (.iload_n 1, 1, 0, 0, 0, []) := rfl
theorem cd_32_1 : cd 32 1 = some (.invokestatic 42, 3, 118, 1, 3, []) := rfl
theorem cd_32_4 : cd 32 4 = some (.ifCond .eq 11, 3, 0, 0, 0, []) := rfl
theorem cd_32_7 : cd 32 7 = some (.aload_n 0, 1, 0, 0, 0, []) := rfl
theorem cd_32_8 : cd 32 8 = some (.iload_n 1, 1, 0, 0, 0, []) := rfl
theorem cd_32_9 : cd 32 9 = some (.invokevirtual 46, 3, 33, 2, 0, []) := rfl
theorem cd_32_12 : cd 32 12 = some (.goto 47, 3, 0, 0, 0, []) := rfl
theorem cd_32_15 : cd 32 15 = some (.iload_n 1, 1, 0, 0, 0, []) := rfl
theorem cd_32_16 : cd 32 16 = some (.invokestatic 49, 3, 119, 1, 3, []) := rfl
theorem cd_32_19 : cd 32 19 = some (.ifCond .eq 29, 3, 0, 0, 0, []) := rfl
theorem cd_32_22 : cd 32 22 = some (.iload_n 1, 1, 0, 0, 0, []) := rfl
theorem cd_32_23 : cd 32 23 = some (.bipush 65, 2, 0, 0, 0, []) := rfl
theorem cd_32_25 : cd 32 25 = some (.isub, 1, 0, 0, 0, []) := rfl
theorem cd_32_26 : cd 32 26 = some (.bipush 97, 2, 0, 0, 0, []) := rfl
theorem cd_32_28 : cd 32 28 = some (.iadd, 1, 0, 0, 0, []) := rfl
theorem cd_32_29 : cd 32 29 = some (.istore_n 2, 1, 0, 0, 0, []) := rfl
theorem cd_32_30 : cd 32 30 = some (.aload_n 0, 1, 0, 0, 0, []) := rfl
theorem cd_32_31 : cd 32 31 = some (.iload_n 2, 1, 0, 0, 0, []) := rfl
theorem cd_32_32 : cd 32 32 = some (.invokevirtual 46, 3, 33, 2, 0, []) := rfl
theorem cd_32_35 : cd 32 35 = some (.aload_n 0, 1, 0, 0, 0, []) := rfl
theorem cd_32_36 : cd 32 36 = some (.iconst 1, 1, 0, 0, 0, []) := rfl
theorem cd_32_37 : cd 32 37 = some (.putfield 19, 3, 3, 2, 0, []) := rfl
theorem cd_32_40 : cd 32 40 = some (.aload_n 0, 1, 0, 0, 0, []) := rfl
theorem cd_32_41 : cd 32 41 = some (.iload_n 2, 1, 0, 0, 0, []) := rfl
theorem cd_32_42 : cd 32 42 = some (.invokevirtual 46, 3, 33, 2, 0, []) := rfl
theorem cd_32_45 : cd 32 45 = some (.goto 14, 3, 0, 0, 0, []) := rfl
theorem cd_32_48 : cd 32 48 = some (.iload_n 1, 1, 0, 0, 0, []) := rfl
theorem cd_32_49 : cd 32 49 = some (.bipush 58, 2, 0, 0, 0, []) := rfl
theorem cd_32_51 : cd 32 51 = some (.if_icmp .ne 8, 3, 0, 0, 0, []) := rfl
theorem cd_32_54 : cd 32 54 = some (.aload_n 0, 1, 0, 0, 0, []) := rfl
theorem cd_32_55 : cd 32 55 = some (.iconst 1, 1, 0, 0, 0, []) := rfl
theorem cd_32_56 : cd 32 56 = some (.putfield 19, 3, 3, 2, 0, []) := rfl
theorem cd_32_59 : cd 32 59 = some (.return_, 1, 0, 0, 0, []) := rfl
theorem cd_33_0 : cd 33 0 = some (.aload_n 0, 1, 0, 0, 0, []) := rfl
theorem cd_33_1 : cd 33 1 = some (.getfield 19, 3, 3, 2, 0, []) := rfl
theorem cd_33_4 : cd 33 4 = some (.ifCond .eq 16, 3, 0, 0, 0, []) := rfl
theorem cd_33_7 : cd 33 7 = some (.aload_n 0, 1, 0, 0, 0, []) := rfl
theorem cd_33_8 : cd 33 8 = some (.getfield 15, 3, 3, 1, 0, []) := rfl
theorem cd_33_11 : cd 33 11 = some (.ifCond .le 9, 3, 0, 0, 0, []) := rfl
theorem cd_33_14 : cd 33 14 = some (.aload_n 0, 1, 0, 0, 0, []) := rfl
theorem cd_33_15 : cd 33 15 = some (.bipush 32, 2, 0, 0, 0, []) := rfl
theorem cd_33_17 : cd 33 17 = some (.invokevirtual 52, 3, 34, 2, 0, []) := rfl
theorem cd_33_20 : cd 33 20 = some (.aload_n 0, 1, 0, 0, 0, []) := rfl
theorem cd_33_21 : cd 33 21 = some (.iconst 0, 1, 0, 0, 0, []) := rfl
theorem cd_33_22 : cd 33 22 = some (.putfield 19, 3, 3, 2, 0, []) := rfl
theorem cd_33_25 : cd 33 25 = some (.aload_n 0, 1, 0, 0, 0, []) := rfl
theorem cd_33_26 : cd 33 26 = some (.iload_n 1, 1, 0, 0, 0, []) := rfl
theorem cd_33_27 : cd 33 27 = some (.invokevirtual 52, 3, 34, 2, 0, []) := rfl
theorem cd_33_30 : cd 33 30 = some (.return_, 1, 0, 0, 0, []) := rfl
theorem cd_34_0 : cd 34 0 = some (.aload_n 0, 1, 0, 0, 0, []) := rfl
theorem cd_34_1 : cd 34 1 = some (.getfield 9, 3, 3, 0, 0, []) := rfl
theorem cd_34_4 : cd 34 4 = some (.aload_n 0, 1, 0, 0, 0, []) := rfl
theorem cd_34_5 : cd 34 5 = some (.getfield 15, 3, 3, 1, 0, []) := rfl
theorem cd_34_8 : cd 34 8 = some (.iload_n 1, 1, 0, 0, 0, []) := rfl
theorem cd_34_9 : cd 34 9 = some (.invokestatic 55, 3, 127, 3, 3, []) := rfl
theorem cd_34_12 : cd 34 12 = some (.aload_n 0, 1, 0, 0, 0, []) := rfl
theorem cd_34_13 : cd 34 13 = some (.dup, 1, 0, 0, 0, []) := rfl
theorem cd_34_14 : cd 34 14 = some (.getfield 15, 3, 3, 1, 0, []) := rfl
theorem cd_34_17 : cd 34 17 = some (.iconst 1, 1, 0, 0, 0, []) := rfl
theorem cd_34_18 : cd 34 18 = some (.iadd, 1, 0, 0, 0, []) := rfl
theorem cd_34_19 : cd 34 19 = some (.putfield 15, 3, 3, 1, 0, []) := rfl
theorem cd_34_22 : cd 34 22 = some (.return_, 1, 0, 0, 0, []) := rfl
theorem cd_35_0 : cd 35 0 = some (.iload_n 1, 1, 0, 0, 0, []) := rfl
theorem cd_35_1 : cd 35 1 = some (.aload_n 0, 1, 0, 0, 0, []) := rfl
theorem cd_35_2 : cd 35 2 = some (.getfield 15, 3, 3, 1, 0, []) := rfl
theorem cd_35_5 : cd 35 5 = some (.if_icmp .ge 14, 3, 0, 0, 0, []) := rfl
theorem cd_35_8 : cd 35 8 = some (.aload_n 0, 1, 0, 0, 0, []) := rfl
theorem cd_35_9 : cd 35 9 = some (.getfield 9, 3, 3, 0, 0, []) := rfl
theorem cd_35_12 : cd 35 12 = some (.iload_n 1, 1, 0, 0, 0, []) := rfl
theorem cd_35_13 : cd 35 13 = some (.invokestatic 59, 3, 125, 2, 3, []) := rfl
theorem cd_35_16 : cd 35 16 = some (.goto 4, 3, 0, 0, 0, []) := rfl
theorem cd_35_19 : cd 35 19 = some (.iconst (-1), 1, 0, 0, 0, []) := rfl
theorem cd_35_20 : cd 35 20 = some (.ireturn, 1, 0, 0, 0, []) := rfl
theorem cd_36_0 : cd 36 0 = some (.aload_n 0, 1, 0, 0, 0, []) := rfl
theorem cd_36_1 : cd 36 1 = some (.getfield 15, 3, 3, 1, 0, []) := rfl
theorem cd_36_4 : cd 36 4 = some (.aload_n 1, 1, 0, 0, 0, []) := rfl
theorem cd_36_5 : cd 36 5 = some (.getfield 15, 3, 3, 1, 0, []) := rfl
theorem cd_36_8 : cd 36 8 = some (.if_icmp .eq 5, 3, 0, 0, 0, []) := rfl
theorem cd_36_11 : cd 36 11 = some (.iconst 0, 1, 0, 0, 0, []) := rfl
theorem cd_36_12 : cd 36 12 = some (.ireturn, 1, 0, 0, 0, []) := rfl
theorem cd_36_13 : cd 36 13 = some (.iconst 0, 1, 0, 0, 0, []) := rfl
theorem cd_36_14 : cd 36 14 = some (.istore_n 2, 1, 0, 0, 0, []) := rfl
theorem cd_36_15 : cd 36 15 = some (.iload_n 2, 1, 0, 0, 0, []) := rfl
theorem cd_36_16 : cd 36 16 = some (.aload_n 0, 1, 0, 0, 0, []) := rfl
theorem cd_36_17 : cd 36 17 = some (.getfield 15, 3, 3, 1, 0, []) := rfl
theorem cd_36_20 : cd 36 20 = some (.if_icmp .ge 24, 3, 0, 0, 0, []) := rfl
theorem cd_36_23 : cd 36 23 = some (.aload_n 0, 1, 0, 0, 0, []) := rfl
theorem cd_36_24 : cd 36 24 = some (.iload_n 2, 1, 0, 0, 0, []) := rfl
theorem cd_36_25 : cd 36 25 = some (.invokevirtual 63, 3, 35, 2, 0, []) := rfl
theorem cd_36_28 : cd 36 28 = some (.aload_n 1, 1, 0, 0, 0, []) := rfl
theorem cd_36_29 : cd 36 29 = some (.iload_n 2, 1, 0, 0, 0, []) := rfl
theorem cd_36_30 : cd 36 30 = some (.invokevirtual 63, 3, 35, 2, 0, []) := rfl
theorem cd_36_33 : cd 36 33 = some (.if_icmp .eq 5, 3, 0, 0, 0, []) := rfl
theorem cd_36_36 : cd 36 36 = some (.iconst 0, 1, 0, 0, 0, []) := rfl
theorem cd_36_37 : cd 36 37 = some (.ireturn, 1, 0, 0, 0, []) := rfl
theorem cd_36_38 : cd 36 38 = some (.iinc 2 1, 3, 0, 0, 0, []) := rfl
theorem cd_36_41 : cd 36 41 = some (.goto (-26), 3, 0, 0, 0, []) := rfl
theorem cd_36_44 : cd 36 44 = some (.iconst 1, 1, 0, 0, 0, []) := rfl
theorem cd_36_45 : cd 36 45 = some (.ireturn, 1, 0, 0, 0, []) := rfl
theorem cd_37_0 : cd 37 0 = some (.iconst 0, 1, 0, 0, 0, []) := rfl
theorem cd_37_1 : cd 37 1 = some (.istore_n 2, 1, 0, 0, 0, []) := rfl
theorem cd_37_2 : cd 37 2 = some (.iconst 0, 1, 0, 0, 0, []) := rfl
theorem cd_37_3 : cd 37 3 = some (.istore_n 3, 1, 0, 0, 0, []) := rfl
theorem cd_37_4 : cd 37 4 = some (.iconst 0, 1, 0, 0, 0, []) := rfl
theorem cd_37_5 : cd 37 5 = some (.istore 4, 2, 0, 0, 0, []) := rfl
theorem cd_37_7 : cd 37 7 = some (.iconst 0, 1, 0, 0, 0, []) := rfl
theorem cd_37_8 : cd 37 8 = some (.istore 5, 2, 0, 0, 0, []) := rfl
theorem cd_37_10 : cd 37 10 = some (.iload 5, 2, 0, 0, 0, []) := rfl
theorem cd_37_12 : cd 37 12 = some (.aload_n 0, 1, 0, 0, 0, []) := rfl
theorem cd_37_13 : cd 37 13 = some (.getfield 15, 3, 3, 1, 0, []) := rfl
theorem cd_37_16 : cd 37 16 = some (.if_icmp .gt 75, 3, 0, 0, 0, []) := rfl
theorem cd_37_19 : cd 37 19 = some (.iload 5, 2, 0, 0, 0, []) := rfl
theorem cd_37_21 : cd 37 21 = some (.aload_n 0, 1, 0, 0, 0, []) := rfl
theorem cd_37_22 : cd 37 22 = some (.getfield 15, 3, 3, 1, 0, []) := rfl
theorem cd_37_25 : cd 37 25 = some (.if_icmp .eq 17, 3, 0, 0, 0, []) := rfl
theorem cd_37_28 : cd 37 28 = some (.aload_n 0, 1, 0, 0, 0, []) := rfl
theorem cd_37_29 : cd 37 29 = some (.getfield 9, 3, 3, 0, 0, []) := rfl
theorem cd_37_32 : cd 37 32 = some (.iload 5, 2, 0, 0, 0, []) := rfl
theorem cd_37_34 : cd 37 34 = some (.invokestatic 59, 3, 125, 2, 3, []) := rfl
theorem cd_37_37 : cd 37 37 = some (.bipush 32, 2, 0, 0, 0, []) := rfl
theorem cd_37_39 : cd 37 39 = some (.if_icmp .ne 46, 3, 0, 0, 0, []) := rfl
theorem cd_37_42 : cd 37 42 = some (.iload 5, 2, 0, 0, 0, []) := rfl
theorem cd_37_44 : cd 37 44 = some (.iload 4, 2, 0, 0, 0, []) := rfl
theorem cd_37_46 : cd 37 46 = some (.if_icmp .le 33, 3, 0, 0, 0, []) := rfl
theorem cd_37_49 : cd 37 49 = some (.iinc 2 1, 3, 0, 0, 0, []) := rfl
theorem cd_37_52 : cd 37 52 = some (.iload_n 3, 1, 0, 0, 0, []) := rfl
theorem cd_37_53 : cd 37 53 = some (.aload_n 1, 1, 0, 0, 0, []) := rfl
theorem cd_37_54 : cd 37 54 = some (.aload_n 0, 1, 0, 0, 0, []) := rfl
theorem cd_37_55 : cd 37 55 = some (.getfield 9, 3, 3, 0, 0, []) := rfl
theorem cd_37_58 : cd 37 58 = some (.iload 4, 2, 0, 0, 0, []) := rfl
theorem cd_37_60 : cd 37 60 = some (.iload 5, 2, 0, 0, 0, []) := rfl
theorem cd_37_62 : cd 37 62 = some (.iload 4, 2, 0, 0, 0, []) := rfl
theorem cd_37_64 : cd 37 64 = some (.isub, 1, 0, 0, 0, []) := rfl
theorem cd_37_65 : cd 37 65 = some (.invokevirtual 64, 3, 77, 4, 0, []) := rfl
theorem cd_37_68 : cd 37 68 = some (.iconst (-1), 1, 0, 0, 0, []) := rfl
theorem cd_37_69 : cd 37 69 = some (.if_icmp .eq 7, 3, 0, 0, 0, []) := rfl
theorem cd_37_72 : cd 37 72 = some (.iconst 1, 1, 0, 0, 0, []) := rfl
theorem cd_37_73 : cd 37 73 = some (.goto 4, 3, 0, 0, 0, []) := rfl
theorem cd_37_76 : cd 37 76 = some (.iconst 0, 1, 0, 0, 0, []) := rfl
theorem cd_37_77 : cd 37 77 = some (.iadd, 1, 0, 0, 0, []) := rfl
theorem cd_37_78 : cd 37 78 = some (.istore_n 3, 1, 0, 0, 0, []) := rfl
theorem cd_37_79 : cd 37 79 = some (.iload 5, 2, 0, 0, 0, []) := rfl
theorem cd_37_81 : cd 37 81 = some (.iconst 1, 1, 0, 0, 0, []) := rfl
theorem cd_37_82 : cd 37 82 = some (.iadd, 1, 0, 0, 0, []) := rfl
theorem cd_37_83 : cd 37 83 = some (.istore 4, 2, 0, 0, 0, []) := rfl
theorem cd_37_85 : cd 37 85 = some (.iinc 5 1, 3, 0, 0, 0, []) := rfl
theorem cd_37_88 : cd 37 88 = some (.goto (-78), 3, 0, 0, 0, []) := rfl
theorem cd_37_91 : cd 37 91 = some (.iload_n 2, 1, 0, 0, 0, []) := rfl
theorem cd_37_92 : cd 37 92 = some (.ifCond .le 12, 3, 0, 0, 0, []) := rfl
theorem cd_37_95 : cd 37 95 = some (.iload_n 3, 1, 0, 0, 0, []) := rfl
theorem cd_37_96 : cd 37 96 = some (.iload_n 2, 1, 0, 0, 0, []) := rfl
theorem cd_37_97 : cd 37 97 = some (.if_icmp .ne 7, 3, 0, 0, 0, []) := rfl
theorem cd_37_100 : cd 37 100 = some (.iload_n 3, 1, 0, 0, 0, []) := rfl
theorem cd_37_101 : cd 37 101 = some (.goto 6, 3, 0, 0, 0, []) := rfl
theorem cd_37_104 : cd 37 104 = some (.iconst (-1), 1, 0, 0, 0, []) := rfl
theorem cd_37_105 : cd 37 105 = some (.iload_n 3, 1, 0, 0, 0, []) := rfl
theorem cd_37_106 : cd 37 106 = some (.isub, 1, 0, 0, 0, []) := rfl
theorem cd_37_107 : cd 37 107 = some (.ireturn, 1, 0, 0, 0, []) := rfl
end
section
/-! ===== the code table, row by row: by program (wip/p28/gen4.py) ===== -/
theorem cd_38_0 : cd 38 0 = some (.aload_n 0, 1, 0, 0, 0, []) := rfl
theorem cd_38_1 : cd 38 1 = some (.invokespecial 3, 3, 0, 1, 6, []) := rfl
theorem cd_38_4 : cd 38 4 = some (.aload_n 0, 1, 0, 0, 0, []) := rfl
theorem cd_38_5 : cd 38 5 = some (.bipush 28, 2, 0, 0, 0, []) := rfl
theorem cd_38_7 : cd 38 7 = some (.newarray .long, 2, 0, 0, 0, []) := rfl
theorem cd_38_9 : cd 38 9 = some (.putfield 9, 3, 4, 0, 0, []) := rfl
theorem cd_38_12 : cd 38 12 = some (.aload_n 0, 1, 0, 0, 0, []) := rfl
theorem cd_38_13 : cd 38 13 = some (.bipush 49, 2, 0, 0, 0, []) := rfl
theorem cd_38_15 : cd 38 15 = some (.newarray .int, 2, 0, 0, 0, []) := rfl
theorem cd_38_17 : cd 38 17 = some (.putfield 15, 3, 4, 1, 0, []) := rfl
theorem cd_38_20 : cd 38 20 = some (.aload_n 0, 1, 0, 0, 0, []) := rfl
theorem cd_38_21 : cd 38 21 = some (.bipush 49, 2, 0, 0, 0, []) := rfl
theorem cd_38_23 : cd 38 23 = some (.newarray .int, 2, 0, 0, 0, []) := rfl
theorem cd_38_25 : cd 38 25 = some (.putfield 19, 3, 4, 2, 0, []) := rfl
theorem cd_38_28 : cd 38 28 = some (.aload_n 0, 1, 0, 0, 0, []) := rfl
theorem cd_38_29 : cd 38 29 = some (.bipush 28, 2, 0, 0, 0, []) := rfl
theorem cd_38_31 : cd 38 31 = some (.newarray .int, 2, 0, 0, 0, []) := rfl
theorem cd_38_33 : cd 38 33 = some (.putfield 22, 3, 4, 3, 0, []) := rfl
theorem cd_38_36 : cd 38 36 = some (.aload_n 0, 1, 0, 0, 0, []) := rfl
theorem cd_38_37 : cd 38 37 = some (.bipush 28, 2, 0, 0, 0, []) := rfl
theorem cd_38_39 : cd 38 39 = some (.newarray .int, 2, 0, 0, 0, []) := rfl
theorem cd_38_41 : cd 38 41 = some (.putfield 25, 3, 4, 4, 0, []) := rfl
theorem cd_38_44 : cd 38 44 = some (.return_, 1, 0, 0, 0, []) := rfl
theorem cd_39_0 : cd 39 0 = some (.aload_n 0, 1, 0, 0, 0, []) := rfl
theorem cd_39_1 : cd 39 1 = some (.aload_n 1, 1, 0, 0, 0, []) := rfl
theorem cd_39_2 : cd 39 2 = some (.invokevirtual 28, 3, 57, 1, 0, []) := rfl
theorem cd_39_5 : cd 39 5 = some (.putfield 34, 3, 4, 5, 0, []) := rfl
theorem cd_39_8 : cd 39 8 = some (.aload_n 0, 1, 0, 0, 0, []) := rfl
theorem cd_39_9 : cd 39 9 = some (.iload_n 3, 1, 0, 0, 0, []) := rfl
theorem cd_39_10 : cd 39 10 = some (.putfield 38, 3, 4, 6, 0, []) := rfl
theorem cd_39_13 : cd 39 13 = some (.aload_n 0, 1, 0, 0, 0, []) := rfl
theorem cd_39_14 : cd 39 14 = some (.iconst 0, 1, 0, 0, 0, []) := rfl
theorem cd_39_15 : cd 39 15 = some (.putfield 42, 3, 4, 7, 0, []) := rfl
theorem cd_39_18 : cd 39 18 = some (.aload_n 0, 1, 0, 0, 0, []) := rfl
theorem cd_39_19 : cd 39 19 = some (.iconst 0, 1, 0, 0, 0, []) := rfl
theorem cd_39_20 : cd 39 20 = some (.putfield 45, 3, 4, 8, 0, []) := rfl
theorem cd_39_23 : cd 39 23 = some (.aload_n 0, 1, 0, 0, 0, []) := rfl
theorem cd_39_24 : cd 39 24 = some (.iconst 0, 1, 0, 0, 0, []) := rfl
theorem cd_39_25 : cd 39 25 = some (.putfield 48, 3, 4, 9, 0, []) := rfl
theorem cd_39_28 : cd 39 28 = some (.aload_n 0, 1, 0, 0, 0, []) := rfl
theorem cd_39_29 : cd 39 29 = some (.iconst (-1), 1, 0, 0, 0, []) := rfl
theorem cd_39_30 : cd 39 30 = some (.putfield 51, 3, 4, 10, 0, []) := rfl
theorem cd_39_33 : cd 39 33 = some (.aload_n 0, 1, 0, 0, 0, []) := rfl
theorem cd_39_34 : cd 39 34 = some (.iconst 0, 1, 0, 0, 0, []) := rfl
theorem cd_39_35 : cd 39 35 = some (.putfield 54, 3, 4, 11, 0, []) := rfl
theorem cd_39_38 : cd 39 38 = some (.aload_n 0, 1, 0, 0, 0, []) := rfl
theorem cd_39_39 : cd 39 39 = some (.aload_n 2, 1, 0, 0, 0, []) := rfl
theorem cd_39_40 : cd 39 40 = some (.invokevirtual 58, 3, 40, 2, 0, []) := rfl
theorem cd_39_43 : cd 39 43 = some (.aload_n 0, 1, 0, 0, 0, []) := rfl
theorem cd_39_44 : cd 39 44 = some (.aload_n 2, 1, 0, 0, 0, []) := rfl
theorem cd_39_45 : cd 39 45 = some (.invokevirtual 62, 3, 41, 2, 0, []) := rfl
theorem cd_39_48 : cd 39 48 = some (.aload_n 0, 1, 0, 0, 0, []) := rfl
theorem cd_39_49 : cd 39 49 = some (.iconst 0, 1, 0, 0, 0, []) := rfl
theorem cd_39_50 : cd 39 50 = some (.lconst 0, 1, 0, 0, 0, []) := rfl
theorem cd_39_51 : cd 39 51 = some (.invokestatic 65, 3, 42, 3, 2, []) := rfl
theorem cd_39_54 : cd 39 54 = some (.return_, 1, 0, 0, 0, []) := rfl
theorem cd_40_0 : cd 40 0 = some (.iconst 0, 1, 0, 0, 0, []) := rfl
theorem cd_40_1 : cd 40 1 = some (.istore_n 2, 1, 0, 0, 0, []) := rfl
theorem cd_40_2 : cd 40 2 = some (.iload_n 2, 1, 0, 0, 0, [3]) := rfl
theorem cd_40_3 : cd 40 3 = some (.bipush 28, 2, 0, 0, 0, []) := rfl
theorem cd_40_5 : cd 40 5 = some (.if_icmp .ge 58, 3, 0, 0, 0, []) := rfl
theorem cd_40_8 : cd 40 8 = some (.aload_n 1, 1, 0, 0, 0, []) := rfl
theorem cd_40_9 : cd 40 9 = some (.iload_n 2, 1, 0, 0, 0, []) := rfl
theorem cd_40_10 : cd 40 10 = some (.invokevirtual 69, 3, 7, 2, 0, []) := rfl
theorem cd_40_13 : cd 40 13 = some (.iload_n 2, 1, 0, 0, 0, []) := rfl
theorem cd_40_14 : cd 40 14 = some (.if_icmp .ne 15, 3, 0, 0, 0, []) := rfl
theorem cd_40_17 : cd 40 17 = some (.aload_n 1, 1, 0, 0, 0, []) := rfl
theorem cd_40_18 : cd 40 18 = some (.iload_n 2, 1, 0, 0, 0, []) := rfl
theorem cd_40_19 : cd 40 19 = some (.invokevirtual 75, 3, 12, 2, 0, []) := rfl
theorem cd_40_22 : cd 40 22 = some (.ifCond .ne 7, 3, 0, 0, 0, []) := rfl
theorem cd_40_25 : cd 40 25 = some (.iconst 1, 1, 0, 0, 0, []) := rfl
theorem cd_40_26 : cd 40 26 = some (.goto 4, 3, 0, 0, 0, []) := rfl
theorem cd_40_29 : cd 40 29 = some (.iconst 0, 1, 0, 0, 0, []) := rfl
theorem cd_40_30 : cd 40 30 = some (.istore_n 3, 1, 0, 0, 0, []) := rfl
theorem cd_40_31 : cd 40 31 = some (.aload_n 0, 1, 0, 0, 0, []) := rfl
theorem cd_40_32 : cd 40 32 = some (.getfield 9, 3, 4, 0, 0, []) := rfl
theorem cd_40_35 : cd 40 35 = some (.iload_n 2, 1, 0, 0, 0, []) := rfl
theorem cd_40_36 : cd 40 36 = some (.iload_n 3, 1, 0, 0, 0, []) := rfl
theorem cd_40_37 : cd 40 37 = some (.ifCond .eq 16, 3, 0, 0, 0, []) := rfl
theorem cd_40_40 : cd 40 40 = some (.aload_n 1, 1, 0, 0, 0, []) := rfl
theorem cd_40_41 : cd 40 41 = some (.iload_n 2, 1, 0, 0, 0, []) := rfl
theorem cd_40_42 : cd 40 42 = some (.invokevirtual 79, 3, 13, 2, 0, []) := rfl
theorem cd_40_45 : cd 40 45 = some (.aload_n 0, 1, 0, 0, 0, []) := rfl
theorem cd_40_46 : cd 40 46 = some (.getfield 34, 3, 4, 5, 0, []) := rfl
theorem cd_40_49 : cd 40 49 = some (.land, 1, 0, 0, 0, []) := rfl
theorem cd_40_50 : cd 40 50 = some (.goto 4, 3, 0, 0, 0, []) := rfl
theorem cd_40_53 : cd 40 53 = some (.lconst 0, 1, 0, 0, 0, []) := rfl
theorem cd_40_54 : cd 40 54 = some (.invokestatic 83, 3, 128, 3, 3, []) := rfl
theorem cd_40_57 : cd 40 57 = some (.iinc 2 1, 3, 0, 0, 0, []) := rfl
theorem cd_40_60 : cd 40 60 = some (.goto (-58), 3, 0, 0, 0, []) := rfl
theorem cd_40_63 : cd 40 63 = some (.return_, 1, 0, 0, 0, []) := rfl
theorem cd_41_0 : cd 41 0 = some (.iconst 0, 1, 0, 0, 0, []) := rfl
theorem cd_41_1 : cd 41 1 = some (.istore_n 2, 1, 0, 0, 0, []) := rfl
theorem cd_41_2 : cd 41 2 = some (.iload_n 2, 1, 0, 0, 0, [3, 4]) := rfl
theorem cd_41_3 : cd 41 3 = some (.bipush 49, 2, 0, 0, 0, []) := rfl
theorem cd_41_5 : cd 41 5 = some (.if_icmp .ge 50, 3, 0, 0, 0, []) := rfl
theorem cd_41_8 : cd 41 8 = some (.aload_n 1, 1, 0, 0, 0, []) := rfl
theorem cd_41_9 : cd 41 9 = some (.iload_n 2, 1, 0, 0, 0, []) := rfl
theorem cd_41_10 : cd 41 10 = some (.invokevirtual 87, 3, 15, 2, 0, []) := rfl
theorem cd_41_13 : cd 41 13 = some (.istore_n 3, 1, 0, 0, 0, []) := rfl
theorem cd_41_14 : cd 41 14 = some (.aload_n 1, 1, 0, 0, 0, []) := rfl
theorem cd_41_15 : cd 41 15 = some (.iload_n 2, 1, 0, 0, 0, []) := rfl
theorem cd_41_16 : cd 41 16 = some (.invokevirtual 90, 3, 16, 2, 0, []) := rfl
theorem cd_41_19 : cd 41 19 = some (.istore 4, 2, 0, 0, 0, []) := rfl
theorem cd_41_21 : cd 41 21 = some (.aload_n 0, 1, 0, 0, 0, []) := rfl
theorem cd_41_22 : cd 41 22 = some (.getfield 15, 3, 4, 1, 0, []) := rfl
theorem cd_41_25 : cd 41 25 = some (.iload_n 2, 1, 0, 0, 0, []) := rfl
theorem cd_41_26 : cd 41 26 = some (.iload_n 3, 1, 0, 0, 0, []) := rfl
theorem cd_41_27 : cd 41 27 = some (.iload 4, 2, 0, 0, 0, []) := rfl
theorem cd_41_29 : cd 41 29 = some (.invokestatic 93, 3, 0, 2, 9, []) := rfl
theorem cd_41_32 : cd 41 32 = some (.invokestatic 99, 3, 127, 3, 3, []) := rfl
theorem cd_41_35 : cd 41 35 = some (.aload_n 0, 1, 0, 0, 0, []) := rfl
theorem cd_41_36 : cd 41 36 = some (.getfield 19, 3, 4, 2, 0, []) := rfl
theorem cd_41_39 : cd 41 39 = some (.iload_n 2, 1, 0, 0, 0, []) := rfl
theorem cd_41_40 : cd 41 40 = some (.iload_n 3, 1, 0, 0, 0, []) := rfl
theorem cd_41_41 : cd 41 41 = some (.iload 4, 2, 0, 0, 0, []) := rfl
theorem cd_41_43 : cd 41 43 = some (.invokestatic 102, 3, 0, 2, 8, []) := rfl
theorem cd_41_46 : cd 41 46 = some (.invokestatic 99, 3, 127, 3, 3, []) := rfl
theorem cd_41_49 : cd 41 49 = some (.iinc 2 1, 3, 0, 0, 0, []) := rfl
theorem cd_41_52 : cd 41 52 = some (.goto (-50), 3, 0, 0, 0, []) := rfl
theorem cd_41_55 : cd 41 55 = some (.return_, 1, 0, 0, 0, []) := rfl
theorem cd_42_0 : cd 42 0 = some (.aload_n 0, 1, 0, 0, 0, []) := rfl
theorem cd_42_1 : cd 42 1 = some (.getfield 42, 3, 4, 7, 0, []) := rfl
theorem cd_42_4 : cd 42 4 = some (.sipush 2000, 3, 0, 0, 0, []) := rfl
theorem cd_42_7 : cd 42 7 = some (.if_icmp .eq 9, 3, 0, 0, 0, []) := rfl
theorem cd_42_10 : cd 42 10 = some (.iload_n 1, 1, 0, 0, 0, []) := rfl
theorem cd_42_11 : cd 42 11 = some (.bipush 28, 2, 0, 0, 0, []) := rfl
theorem cd_42_13 : cd 42 13 = some (.if_icmp .le 9, 3, 0, 0, 0, []) := rfl
theorem cd_42_16 : cd 42 16 = some (.aload_n 0, 1, 0, 0, 0, []) := rfl
theorem cd_42_17 : cd 42 17 = some (.iconst 1, 1, 0, 0, 0, []) := rfl
theorem cd_42_18 : cd 42 18 = some (.putfield 54, 3, 4, 11, 0, []) := rfl
theorem cd_42_21 : cd 42 21 = some (.return_, 1, 0, 0, 0, []) := rfl
theorem cd_42_22 : cd 42 22 = some (.aload_n 0, 1, 0, 0, 0, []) := rfl
theorem cd_42_23 : cd 42 23 = some (.dup, 1, 0, 0, 0, []) := rfl
theorem cd_42_24 : cd 42 24 = some (.getfield 42, 3, 4, 7, 0, []) := rfl
theorem cd_42_27 : cd 42 27 = some (.iconst 1, 1, 0, 0, 0, []) := rfl
theorem cd_42_28 : cd 42 28 = some (.iadd, 1, 0, 0, 0, []) := rfl
theorem cd_42_29 : cd 42 29 = some (.putfield 42, 3, 4, 7, 0, []) := rfl
theorem cd_42_32 : cd 42 32 = some (.aload_n 0, 1, 0, 0, 0, []) := rfl
theorem cd_42_33 : cd 42 33 = some (.getfield 34, 3, 4, 5, 0, []) := rfl
theorem cd_42_36 : cd 42 36 = some (.lload_n 2, 1, 0, 0, 0, []) := rfl
theorem cd_42_37 : cd 42 37 = some (.ldc2_w 105, 3, 0, 0, 0, []) := rfl
theorem cd_42_40 : cd 42 40 = some (.lxor, 1, 0, 0, 0, []) := rfl
theorem cd_42_41 : cd 42 41 = some (.land, 1, 0, 0, 0, []) := rfl
theorem cd_42_42 : cd 42 42 = some (.lstore 4, 2, 0, 0, 0, []) := rfl
theorem cd_42_44 : cd 42 44 = some (.lload 4, 2, 0, 0, 0, []) := rfl
theorem cd_42_46 : cd 42 46 = some (.lconst 0, 1, 0, 0, 0, []) := rfl
theorem cd_42_47 : cd 42 47 = some (.lcmp, 1, 0, 0, 0, []) := rfl
theorem cd_42_48 : cd 42 48 = some (.ifCond .ne 9, 3, 0, 0, 0, []) := rfl
theorem cd_42_51 : cd 42 51 = some (.aload_n 0, 1, 0, 0, 0, []) := rfl
theorem cd_42_52 : cd 42 52 = some (.iload_n 1, 1, 0, 0, 0, []) := rfl
theorem cd_42_53 : cd 42 53 = some (.invokevirtual 107, 3, 44, 2, 0, []) := rfl
theorem cd_42_56 : cd 42 56 = some (.return_, 1, 0, 0, 0, []) := rfl
theorem cd_42_57 : cd 42 57 = some (.lload 4, 2, 0, 0, 0, []) := rfl
theorem cd_42_59 : cd 42 59 = some (.lload 4, 2, 0, 0, 0, []) := rfl
theorem cd_42_61 : cd 42 61 = some (.lneg, 1, 0, 0, 0, []) := rfl
theorem cd_42_62 : cd 42 62 = some (.land, 1, 0, 0, 0, []) := rfl
theorem cd_42_63 : cd 42 63 = some (.lstore 6, 2, 0, 0, 0, []) := rfl
theorem cd_42_65 : cd 42 65 = some (.lload 6, 2, 0, 0, 0, []) := rfl
theorem cd_42_67 : cd 42 67 = some (.lconst 1, 1, 0, 0, 0, []) := rfl
theorem cd_42_68 : cd 42 68 = some (.lsub, 1, 0, 0, 0, []) := rfl
theorem cd_42_69 : cd 42 69 = some (.invokestatic 111, 3, 199, 1, 2, []) := rfl
theorem cd_42_72 : cd 42 72 = some (.istore 8, 2, 0, 0, 0, []) := rfl
theorem cd_42_74 : cd 42 74 = some (.iconst 0, 1, 0, 0, 0, []) := rfl
theorem cd_42_75 : cd 42 75 = some (.istore 9, 2, 0, 0, 0, []) := rfl
theorem cd_42_77 : cd 42 77 = some (.iload 9, 2, 0, 0, 0, [3, 4, 5, 7, 10, 11, 12]) := rfl
theorem cd_42_79 : cd 42 79 = some (.iconst 2, 1, 0, 0, 0, []) := rfl
theorem cd_42_80 : cd 42 80 = some (.if_icmp .ge 90, 3, 0, 0, 0, []) := rfl
theorem cd_42_83 : cd 42 83 = some (.aload_n 0, 1, 0, 0, 0, []) := rfl
theorem cd_42_84 : cd 42 84 = some (.invokevirtual 117, 3, 43, 1, 0, []) := rfl
theorem cd_42_87 : cd 42 87 = some (.ifCond .ne 83, 3, 0, 0, 0, []) := rfl
theorem cd_42_90 : cd 42 90 = some (.iload 9, 2, 0, 0, 0, []) := rfl
theorem cd_42_92 : cd 42 92 = some (.ifCond .ne 10, 3, 0, 0, 0, []) := rfl
theorem cd_42_95 : cd 42 95 = some (.aload_n 0, 1, 0, 0, 0, []) := rfl
theorem cd_42_96 : cd 42 96 = some (.getfield 15, 3, 4, 1, 0, []) := rfl
theorem cd_42_99 : cd 42 99 = some (.goto 7, 3, 0, 0, 0, []) := rfl
theorem cd_42_102 : cd 42 102 = some (.aload_n 0, 1, 0, 0, 0, []) := rfl
theorem cd_42_103 : cd 42 103 = some (.getfield 19, 3, 4, 2, 0, []) := rfl
theorem cd_42_106 : cd 42 106 = some (.iload 8, 2, 0, 0, 0, []) := rfl
theorem cd_42_108 : cd 42 108 = some (.invokestatic 121, 3, 125, 2, 3, []) := rfl
theorem cd_42_111 : cd 42 111 = some (.istore 10, 2, 0, 0, 0, []) := rfl
theorem cd_42_113 : cd 42 113 = some (.aload_n 0, 1, 0, 0, 0, []) := rfl
theorem cd_42_114 : cd 42 114 = some (.getfield 9, 3, 4, 0, 0, []) := rfl
theorem cd_42_117 : cd 42 117 = some (.iload 10, 2, 0, 0, 0, []) := rfl
theorem cd_42_119 : cd 42 119 = some (.invokestatic 125, 3, 126, 2, 3, []) := rfl
theorem cd_42_122 : cd 42 122 = some (.lstore 11, 2, 0, 0, 0, []) := rfl
theorem cd_42_124 : cd 42 124 = some (.lload 11, 2, 0, 0, 0, []) := rfl
theorem cd_42_126 : cd 42 126 = some (.lload 6, 2, 0, 0, 0, []) := rfl
theorem cd_42_128 : cd 42 128 = some (.land, 1, 0, 0, 0, []) := rfl
theorem cd_42_129 : cd 42 129 = some (.lconst 0, 1, 0, 0, 0, []) := rfl
theorem cd_42_130 : cd 42 130 = some (.lcmp, 1, 0, 0, 0, []) := rfl
theorem cd_42_131 : cd 42 131 = some (.ifCond .eq 33, 3, 0, 0, 0, []) := rfl
theorem cd_42_134 : cd 42 134 = some (.lload 11, 2, 0, 0, 0, []) := rfl
theorem cd_42_136 : cd 42 136 = some (.lload_n 2, 1, 0, 0, 0, []) := rfl
theorem cd_42_137 : cd 42 137 = some (.land, 1, 0, 0, 0, []) := rfl
theorem cd_42_138 : cd 42 138 = some (.lconst 0, 1, 0, 0, 0, []) := rfl
theorem cd_42_139 : cd 42 139 = some (.lcmp, 1, 0, 0, 0, []) := rfl
theorem cd_42_140 : cd 42 140 = some (.ifCond .ne 24, 3, 0, 0, 0, []) := rfl
theorem cd_42_143 : cd 42 143 = some (.aload_n 0, 1, 0, 0, 0, []) := rfl
theorem cd_42_144 : cd 42 144 = some (.getfield 22, 3, 4, 3, 0, []) := rfl
theorem cd_42_147 : cd 42 147 = some (.iload_n 1, 1, 0, 0, 0, []) := rfl
theorem cd_42_148 : cd 42 148 = some (.iload 10, 2, 0, 0, 0, []) := rfl
theorem cd_42_150 : cd 42 150 = some (.invokestatic 99, 3, 127, 3, 3, []) := rfl
theorem cd_42_153 : cd 42 153 = some (.aload_n 0, 1, 0, 0, 0, []) := rfl
theorem cd_42_154 : cd 42 154 = some (.iload_n 1, 1, 0, 0, 0, []) := rfl
theorem cd_42_155 : cd 42 155 = some (.iconst 1, 1, 0, 0, 0, []) := rfl
theorem cd_42_156 : cd 42 156 = some (.iadd, 1, 0, 0, 0, []) := rfl
theorem cd_42_157 : cd 42 157 = some (.lload_n 2, 1, 0, 0, 0, []) := rfl
theorem cd_42_158 : cd 42 158 = some (.lload 11, 2, 0, 0, 0, []) := rfl
theorem cd_42_160 : cd 42 160 = some (.lor, 1, 0, 0, 0, []) := rfl
theorem cd_42_161 : cd 42 161 = some (.invokestatic 65, 3, 42, 3, 2, []) := rfl
theorem cd_42_164 : cd 42 164 = some (.iinc 9 1, 3, 0, 0, 0, []) := rfl
theorem cd_42_167 : cd 42 167 = some (.goto (-90), 3, 0, 0, 0, []) := rfl
theorem cd_42_170 : cd 42 170 = some (.return_, 1, 0, 0, 0, []) := rfl
theorem cd_43_0 : cd 43 0 = some (.aload_n 0, 1, 0, 0, 0, []) := rfl
theorem cd_43_1 : cd 43 1 = some (.getfield 54, 3, 4, 11, 0, []) := rfl
theorem cd_43_4 : cd 43 4 = some (.ifCond .ne 14, 3, 0, 0, 0, []) := rfl
theorem cd_43_7 : cd 43 7 = some (.aload_n 0, 1, 0, 0, 0, []) := rfl
theorem cd_43_8 : cd 43 8 = some (.getfield 45, 3, 4, 8, 0, []) := rfl
theorem cd_43_11 : cd 43 11 = some (.aload_n 0, 1, 0, 0, 0, []) := rfl
theorem cd_43_12 : cd 43 12 = some (.getfield 38, 3, 4, 6, 0, []) := rfl
theorem cd_43_15 : cd 43 15 = some (.if_icmp .ne 7, 3, 0, 0, 0, []) := rfl
theorem cd_43_18 : cd 43 18 = some (.iconst 1, 1, 0, 0, 0, []) := rfl
theorem cd_43_19 : cd 43 19 = some (.goto 4, 3, 0, 0, 0, []) := rfl
theorem cd_43_22 : cd 43 22 = some (.iconst 0, 1, 0, 0, 0, []) := rfl
theorem cd_43_23 : cd 43 23 = some (.ireturn, 1, 0, 0, 0, []) := rfl
theorem cd_44_0 : cd 44 0 = some (.aload_n 0, 1, 0, 0, 0, []) := rfl
theorem cd_44_1 : cd 44 1 = some (.getfield 45, 3, 4, 8, 0, []) := rfl
theorem cd_44_4 : cd 44 4 = some (.ifCond .ne 19, 3, 0, 0, 0, []) := rfl
theorem cd_44_7 : cd 44 7 = some (.aload_n 0, 1, 0, 0, 0, []) := rfl
theorem cd_44_8 : cd 44 8 = some (.getfield 22, 3, 4, 3, 0, []) := rfl
theorem cd_44_11 : cd 44 11 = some (.aload_n 0, 1, 0, 0, 0, []) := rfl
theorem cd_44_12 : cd 44 12 = some (.getfield 25, 3, 4, 4, 0, []) := rfl
theorem cd_44_15 : cd 44 15 = some (.invokestatic 128, 3, 129, 2, 3, []) := rfl
theorem cd_44_18 : cd 44 18 = some (.aload_n 0, 1, 0, 0, 0, []) := rfl
theorem cd_44_19 : cd 44 19 = some (.iload_n 1, 1, 0, 0, 0, []) := rfl
theorem cd_44_20 : cd 44 20 = some (.putfield 48, 3, 4, 9, 0, []) := rfl
theorem cd_44_23 : cd 44 23 = some (.aload_n 0, 1, 0, 0, 0, []) := rfl
theorem cd_44_24 : cd 44 24 = some (.aload_n 0, 1, 0, 0, 0, []) := rfl
theorem cd_44_25 : cd 44 25 = some (.getfield 45, 3, 4, 8, 0, []) := rfl
theorem cd_44_28 : cd 44 28 = some (.ifCond .ne 7, 3, 0, 0, 0, []) := rfl
theorem cd_44_31 : cd 44 31 = some (.iload_n 1, 1, 0, 0, 0, []) := rfl
theorem cd_44_32 : cd 44 32 = some (.goto 11, 3, 0, 0, 0, []) := rfl
theorem cd_44_35 : cd 44 35 = some (.aload_n 0, 1, 0, 0, 0, []) := rfl
theorem cd_44_36 : cd 44 36 = some (.getfield 51, 3, 4, 10, 0, []) := rfl
theorem cd_44_39 : cd 44 39 = some (.iload_n 1, 1, 0, 0, 0, []) := rfl
theorem cd_44_40 : cd 44 40 = some (.invokestatic 93, 3, 0, 2, 9, []) := rfl
theorem cd_44_43 : cd 44 43 = some (.putfield 51, 3, 4, 10, 0, []) := rfl
theorem cd_44_46 : cd 44 46 = some (.aload_n 0, 1, 0, 0, 0, []) := rfl
theorem cd_44_47 : cd 44 47 = some (.dup, 1, 0, 0, 0, []) := rfl
theorem cd_44_48 : cd 44 48 = some (.getfield 45, 3, 4, 8, 0, []) := rfl
theorem cd_44_51 : cd 44 51 = some (.iconst 1, 1, 0, 0, 0, []) := rfl
theorem cd_44_52 : cd 44 52 = some (.iadd, 1, 0, 0, 0, []) := rfl
theorem cd_44_53 : cd 44 53 = some (.putfield 45, 3, 4, 8, 0, []) := rfl
theorem cd_44_56 : cd 44 56 = some (.return_, 1, 0, 0, 0, []) := rfl
theorem cd_45_0 : cd 45 0 = some (.aload_n 0, 1, 0, 0, 0, []) := rfl
theorem cd_45_1 : cd 45 1 = some (.getfield 45, 3, 4, 8, 0, []) := rfl
theorem cd_45_4 : cd 45 4 = some (.ifCond .le 22, 3, 0, 0, 0, []) := rfl
theorem cd_45_7 : cd 45 7 = some (.iload_n 1, 1, 0, 0, 0, []) := rfl
theorem cd_45_8 : cd 45 8 = some (.aload_n 0, 1, 0, 0, 0, []) := rfl
theorem cd_45_9 : cd 45 9 = some (.getfield 48, 3, 4, 9, 0, []) := rfl
theorem cd_45_12 : cd 45 12 = some (.if_icmp .ge 14, 3, 0, 0, 0, []) := rfl
theorem cd_45_15 : cd 45 15 = some (.aload_n 0, 1, 0, 0, 0, []) := rfl
theorem cd_45_16 : cd 45 16 = some (.getfield 25, 3, 4, 4, 0, []) := rfl
theorem cd_45_19 : cd 45 19 = some (.iload_n 1, 1, 0, 0, 0, []) := rfl
theorem cd_45_20 : cd 45 20 = some (.invokestatic 121, 3, 125, 2, 3, []) := rfl
theorem cd_45_23 : cd 45 23 = some (.goto 4, 3, 0, 0, 0, []) := rfl
theorem cd_45_26 : cd 45 26 = some (.iconst (-1), 1, 0, 0, 0, []) := rfl
theorem cd_45_27 : cd 45 27 = some (.ireturn, 1, 0, 0, 0, []) := rfl
theorem cd_46_0 : cd 46 0 = some (.aload_n 0, 1, 0, 0, 0, []) := rfl
theorem cd_46_1 : cd 46 1 = some (.invokespecial 3, 3, 0, 1, 6, []) := rfl
theorem cd_46_4 : cd 46 4 = some (.aload_n 0, 1, 0, 0, 0, []) := rfl
theorem cd_46_5 : cd 46 5 = some (.bipush 49, 2, 0, 0, 0, []) := rfl
theorem cd_46_7 : cd 46 7 = some (.newarray .int, 2, 0, 0, 0, []) := rfl
theorem cd_46_9 : cd 46 9 = some (.putfield 9, 3, 5, 2, 0, []) := rfl
theorem cd_46_12 : cd 46 12 = some (.aload_n 0, 1, 0, 0, 0, []) := rfl
theorem cd_46_13 : cd 46 13 = some (.bipush 49, 2, 0, 0, 0, []) := rfl
theorem cd_46_15 : cd 46 15 = some (.newarray .int, 2, 0, 0, 0, []) := rfl
theorem cd_46_17 : cd 46 17 = some (.putfield 15, 3, 5, 3, 0, []) := rfl
theorem cd_46_20 : cd 46 20 = some (.aload_n 0, 1, 0, 0, 0, []) := rfl
theorem cd_46_21 : cd 46 21 = some (.iconst 4, 1, 0, 0, 0, []) := rfl
theorem cd_46_22 : cd 46 22 = some (.iconst 4, 1, 0, 0, 0, []) := rfl
theorem cd_46_23 : cd 46 23 = some (.invokevirtual 18, 3, 47, 3, 0, []) := rfl
theorem cd_46_26 : cd 46 26 = some (.return_, 1, 0, 0, 0, []) := rfl
theorem cd_47_0 : cd 47 0 = some (.aload_n 0, 1, 0, 0, 0, []) := rfl
theorem cd_47_1 : cd 47 1 = some (.iload_n 1, 1, 0, 0, 0, []) := rfl
theorem cd_47_2 : cd 47 2 = some (.putfield 22, 3, 5, 0, 0, []) := rfl
theorem cd_47_5 : cd 47 5 = some (.aload_n 0, 1, 0, 0, 0, []) := rfl
theorem cd_47_6 : cd 47 6 = some (.iload_n 2, 1, 0, 0, 0, []) := rfl
theorem cd_47_7 : cd 47 7 = some (.putfield 26, 3, 5, 1, 0, []) := rfl
theorem cd_47_10 : cd 47 10 = some (.aload_n 0, 1, 0, 0, 0, []) := rfl
theorem cd_47_11 : cd 47 11 = some (.getfield 9, 3, 5, 2, 0, []) := rfl
theorem cd_47_14 : cd 47 14 = some (.bipush 46, 2, 0, 0, 0, []) := rfl
theorem cd_47_16 : cd 47 16 = some (.invokestatic 29, 3, 201, 2, 2, []) := rfl
theorem cd_47_19 : cd 47 19 = some (.return_, 1, 0, 0, 0, []) := rfl
theorem cd_48_0 : cd 48 0 = some (.aload_n 0, 1, 0, 0, 0, []) := rfl
theorem cd_48_1 : cd 48 1 = some (.aload_n 1, 1, 0, 0, 0, []) := rfl
theorem cd_48_2 : cd 48 2 = some (.getfield 22, 3, 5, 0, 0, []) := rfl
theorem cd_48_5 : cd 48 5 = some (.putfield 22, 3, 5, 0, 0, []) := rfl
theorem cd_48_8 : cd 48 8 = some (.aload_n 0, 1, 0, 0, 0, []) := rfl
theorem cd_48_9 : cd 48 9 = some (.aload_n 1, 1, 0, 0, 0, []) := rfl
theorem cd_48_10 : cd 48 10 = some (.getfield 26, 3, 5, 1, 0, []) := rfl
theorem cd_48_13 : cd 48 13 = some (.putfield 26, 3, 5, 1, 0, []) := rfl
theorem cd_48_16 : cd 48 16 = some (.aload_n 1, 1, 0, 0, 0, []) := rfl
theorem cd_48_17 : cd 48 17 = some (.getfield 9, 3, 5, 2, 0, []) := rfl
theorem cd_48_20 : cd 48 20 = some (.aload_n 0, 1, 0, 0, 0, []) := rfl
theorem cd_48_21 : cd 48 21 = some (.getfield 9, 3, 5, 2, 0, []) := rfl
theorem cd_48_24 : cd 48 24 = some (.invokestatic 35, 3, 129, 2, 3, []) := rfl
theorem cd_48_27 : cd 48 27 = some (.return_, 1, 0, 0, 0, []) := rfl
theorem cd_49_0 : cd 49 0 = some (.aload_n 0, 1, 0, 0, 0, []) := rfl
theorem cd_49_1 : cd 49 1 = some (.getfield 22, 3, 5, 0, 0, []) := rfl
theorem cd_49_4 : cd 49 4 = some (.aload_n 0, 1, 0, 0, 0, []) := rfl
theorem cd_49_5 : cd 49 5 = some (.getfield 26, 3, 5, 1, 0, []) := rfl
theorem cd_49_8 : cd 49 8 = some (.imul, 1, 0, 0, 0, []) := rfl
theorem cd_49_9 : cd 49 9 = some (.ireturn, 1, 0, 0, 0, []) := rfl
theorem cd_50_0 : cd 50 0 = some (.iconst 2, 1, 0, 0, 0, []) := rfl
theorem cd_50_1 : cd 50 1 = some (.aload_n 0, 1, 0, 0, 0, []) := rfl
theorem cd_50_2 : cd 50 2 = some (.getfield 22, 3, 5, 0, 0, []) := rfl
theorem cd_50_5 : cd 50 5 = some (.aload_n 0, 1, 0, 0, 0, []) := rfl
theorem cd_50_6 : cd 50 6 = some (.getfield 26, 3, 5, 1, 0, []) := rfl
theorem cd_50_9 : cd 50 9 = some (.iadd, 1, 0, 0, 0, []) := rfl
theorem cd_50_10 : cd 50 10 = some (.imul, 1, 0, 0, 0, []) := rfl
theorem cd_50_11 : cd 50 11 = some (.ireturn, 1, 0, 0, 0, []) := rfl
theorem cd_51_0 : cd 51 0 = some (.iload_n 1, 1, 0, 0, 0, []) := rfl
theorem cd_51_1 : cd 51 1 = some (.ifCond .lt 15, 3, 0, 0, 0, []) := rfl
theorem cd_51_4 : cd 51 4 = some (.iload_n 1, 1, 0, 0, 0, []) := rfl
theorem cd_51_5 : cd 51 5 = some (.aload_n 0, 1, 0, 0, 0, []) := rfl
theorem cd_51_6 : cd 51 6 = some (.invokevirtual 39, 3, 49, 1, 0, []) := rfl
theorem cd_51_9 : cd 51 9 = some (.if_icmp .ge 7, 3, 0, 0, 0, []) := rfl
theorem cd_51_12 : cd 51 12 = some (.iconst 1, 1, 0, 0, 0, []) := rfl
theorem cd_51_13 : cd 51 13 = some (.goto 4, 3, 0, 0, 0, []) := rfl
theorem cd_51_16 : cd 51 16 = some (.iconst 0, 1, 0, 0, 0, []) := rfl
theorem cd_51_17 : cd 51 17 = some (.ireturn, 1, 0, 0, 0, []) := rfl
theorem cd_52_0 : cd 52 0 = some (.iload_n 1, 1, 0, 0, 0, []) := rfl
theorem cd_52_1 : cd 52 1 = some (.ifCond .lt 15, 3, 0, 0, 0, []) := rfl
theorem cd_52_4 : cd 52 4 = some (.iload_n 1, 1, 0, 0, 0, []) := rfl
theorem cd_52_5 : cd 52 5 = some (.aload_n 0, 1, 0, 0, 0, []) := rfl
theorem cd_52_6 : cd 52 6 = some (.invokevirtual 43, 3, 50, 1, 0, []) := rfl
theorem cd_52_9 : cd 52 9 = some (.if_icmp .ge 7, 3, 0, 0, 0, []) := rfl
theorem cd_52_12 : cd 52 12 = some (.iconst 1, 1, 0, 0, 0, []) := rfl
theorem cd_52_13 : cd 52 13 = some (.goto 4, 3, 0, 0, 0, []) := rfl
theorem cd_52_16 : cd 52 16 = some (.iconst 0, 1, 0, 0, 0, []) := rfl
theorem cd_52_17 : cd 52 17 = some (.ireturn, 1, 0, 0, 0, []) := rfl
theorem cd_53_0 : cd 53 0 = some (.aload_n 0, 1, 0, 0, 0, []) := rfl
theorem cd_53_1 : cd 53 1 = some (.getfield 9, 3, 5, 2, 0, []) := rfl
theorem cd_53_4 : cd 53 4 = some (.iload_n 1, 1, 0, 0, 0, []) := rfl
theorem cd_53_5 : cd 53 5 = some (.invokestatic 46, 3, 125, 2, 3, []) := rfl
theorem cd_53_8 : cd 53 8 = some (.ireturn, 1, 0, 0, 0, []) := rfl
theorem cd_54_0 : cd 54 0 = some (.aload_n 0, 1, 0, 0, 0, []) := rfl
theorem cd_54_1 : cd 54 1 = some (.getfield 9, 3, 5, 2, 0, []) := rfl
theorem cd_54_4 : cd 54 4 = some (.iload_n 1, 1, 0, 0, 0, []) := rfl
theorem cd_54_5 : cd 54 5 = some (.iload_n 2, 1, 0, 0, 0, []) := rfl
theorem cd_54_6 : cd 54 6 = some (.invokestatic 50, 3, 127, 3, 3, []) := rfl
theorem cd_54_9 : cd 54 9 = some (.return_, 1, 0, 0, 0, []) := rfl
theorem cd_55_0 : cd 55 0 = some (.iconst 0, 1, 0, 0, 0, []) := rfl
theorem cd_55_1 : cd 55 1 = some (.istore_n 1, 1, 0, 0, 0, []) := rfl
theorem cd_55_2 : cd 55 2 = some (.iload_n 1, 1, 0, 0, 0, []) := rfl
theorem cd_55_3 : cd 55 3 = some (.aload_n 0, 1, 0, 0, 0, []) := rfl
theorem cd_55_4 : cd 55 4 = some (.invokevirtual 39, 3, 49, 1, 0, []) := rfl
theorem cd_55_7 : cd 55 7 = some (.if_icmp .ge 22, 3, 0, 0, 0, []) := rfl
theorem cd_55_10 : cd 55 10 = some (.aload_n 0, 1, 0, 0, 0, []) := rfl
theorem cd_55_11 : cd 55 11 = some (.iload_n 1, 1, 0, 0, 0, []) := rfl
theorem cd_55_12 : cd 55 12 = some (.aload_n 0, 1, 0, 0, 0, []) := rfl
theorem cd_55_13 : cd 55 13 = some (.iload_n 1, 1, 0, 0, 0, []) := rfl
theorem cd_55_14 : cd 55 14 = some (.invokevirtual 54, 3, 53, 2, 0, []) := rfl
theorem cd_55_17 : cd 55 17 = some (.invokestatic 58, 3, 124, 1, 3, []) := rfl
theorem cd_55_20 : cd 55 20 = some (.invokevirtual 61, 3, 54, 3, 0, []) := rfl
theorem cd_55_23 : cd 55 23 = some (.iinc 1 1, 3, 0, 0, 0, []) := rfl
theorem cd_55_26 : cd 55 26 = some (.goto (-24), 3, 0, 0, 0, []) := rfl
theorem cd_55_29 : cd 55 29 = some (.return_, 1, 0, 0, 0, []) := rfl
theorem cd_56_0 : cd 56 0 = some (.iconst 0, 1, 0, 0, 0, []) := rfl
theorem cd_56_1 : cd 56 1 = some (.istore_n 1, 1, 0, 0, 0, []) := rfl
theorem cd_56_2 : cd 56 2 = some (.iload_n 1, 1, 0, 0, 0, [2, 3]) := rfl
theorem cd_56_3 : cd 56 3 = some (.aload_n 0, 1, 0, 0, 0, []) := rfl
theorem cd_56_4 : cd 56 4 = some (.getfield 26, 3, 5, 1, 0, []) := rfl
theorem cd_56_7 : cd 56 7 = some (.if_icmp .ge 64, 3, 0, 0, 0, []) := rfl
theorem cd_56_10 : cd 56 10 = some (.iconst 0, 1, 0, 0, 0, []) := rfl
theorem cd_56_11 : cd 56 11 = some (.istore_n 2, 1, 0, 0, 0, []) := rfl
theorem cd_56_12 : cd 56 12 = some (.iload_n 2, 1, 0, 0, 0, [3]) := rfl
theorem cd_56_13 : cd 56 13 = some (.aload_n 0, 1, 0, 0, 0, []) := rfl
theorem cd_56_14 : cd 56 14 = some (.getfield 22, 3, 5, 0, 0, []) := rfl
theorem cd_56_17 : cd 56 17 = some (.if_icmp .ge 48, 3, 0, 0, 0, []) := rfl
theorem cd_56_20 : cd 56 20 = some (.aload_n 0, 1, 0, 0, 0, []) := rfl
theorem cd_56_21 : cd 56 21 = some (.iload_n 1, 1, 0, 0, 0, []) := rfl
theorem cd_56_22 : cd 56 22 = some (.aload_n 0, 1, 0, 0, 0, []) := rfl
theorem cd_56_23 : cd 56 23 = some (.getfield 22, 3, 5, 0, 0, []) := rfl
theorem cd_56_26 : cd 56 26 = some (.imul, 1, 0, 0, 0, []) := rfl
theorem cd_56_27 : cd 56 27 = some (.iload_n 2, 1, 0, 0, 0, []) := rfl
theorem cd_56_28 : cd 56 28 = some (.iadd, 1, 0, 0, 0, []) := rfl
theorem cd_56_29 : cd 56 29 = some (.invokevirtual 54, 3, 53, 2, 0, []) := rfl
theorem cd_56_32 : cd 56 32 = some (.istore_n 3, 1, 0, 0, 0, []) := rfl
theorem cd_56_33 : cd 56 33 = some (.aload_n 0, 1, 0, 0, 0, []) := rfl
theorem cd_56_34 : cd 56 34 = some (.getfield 15, 3, 5, 3, 0, []) := rfl
theorem cd_56_37 : cd 56 37 = some (.iload_n 2, 1, 0, 0, 0, []) := rfl
theorem cd_56_38 : cd 56 38 = some (.aload_n 0, 1, 0, 0, 0, []) := rfl
theorem cd_56_39 : cd 56 39 = some (.getfield 26, 3, 5, 1, 0, []) := rfl
theorem cd_56_42 : cd 56 42 = some (.imul, 1, 0, 0, 0, []) := rfl
theorem cd_56_43 : cd 56 43 = some (.aload_n 0, 1, 0, 0, 0, []) := rfl
theorem cd_56_44 : cd 56 44 = some (.getfield 26, 3, 5, 1, 0, []) := rfl
theorem cd_56_47 : cd 56 47 = some (.iadd, 1, 0, 0, 0, []) := rfl
theorem cd_56_48 : cd 56 48 = some (.iconst 1, 1, 0, 0, 0, []) := rfl
theorem cd_56_49 : cd 56 49 = some (.isub, 1, 0, 0, 0, []) := rfl
theorem cd_56_50 : cd 56 50 = some (.iload_n 1, 1, 0, 0, 0, []) := rfl
theorem cd_56_51 : cd 56 51 = some (.isub, 1, 0, 0, 0, []) := rfl
theorem cd_56_52 : cd 56 52 = some (.iload_n 3, 1, 0, 0, 0, []) := rfl
theorem cd_56_53 : cd 56 53 = some (.invokestatic 58, 3, 124, 1, 3, []) := rfl
theorem cd_56_56 : cd 56 56 = some (.invokestatic 50, 3, 127, 3, 3, []) := rfl
theorem cd_56_59 : cd 56 59 = some (.iinc 2 1, 3, 0, 0, 0, []) := rfl
theorem cd_56_62 : cd 56 62 = some (.goto (-50), 3, 0, 0, 0, []) := rfl
theorem cd_56_65 : cd 56 65 = some (.iinc 1 1, 3, 0, 0, 0, []) := rfl
theorem cd_56_68 : cd 56 68 = some (.goto (-66), 3, 0, 0, 0, []) := rfl
theorem cd_56_71 : cd 56 71 = some (.aload_n 0, 1, 0, 0, 0, []) := rfl
theorem cd_56_72 : cd 56 72 = some (.getfield 22, 3, 5, 0, 0, []) := rfl
theorem cd_56_75 : cd 56 75 = some (.istore_n 1, 1, 0, 0, 0, []) := rfl
theorem cd_56_76 : cd 56 76 = some (.aload_n 0, 1, 0, 0, 0, []) := rfl
theorem cd_56_77 : cd 56 77 = some (.aload_n 0, 1, 0, 0, 0, []) := rfl
theorem cd_56_78 : cd 56 78 = some (.getfield 26, 3, 5, 1, 0, []) := rfl
theorem cd_56_81 : cd 56 81 = some (.putfield 22, 3, 5, 0, 0, []) := rfl
theorem cd_56_84 : cd 56 84 = some (.aload_n 0, 1, 0, 0, 0, []) := rfl
theorem cd_56_85 : cd 56 85 = some (.iload_n 1, 1, 0, 0, 0, []) := rfl
theorem cd_56_86 : cd 56 86 = some (.putfield 26, 3, 5, 1, 0, []) := rfl
theorem cd_56_89 : cd 56 89 = some (.aload_n 0, 1, 0, 0, 0, []) := rfl
theorem cd_56_90 : cd 56 90 = some (.getfield 15, 3, 5, 3, 0, []) := rfl
theorem cd_56_93 : cd 56 93 = some (.aload_n 0, 1, 0, 0, 0, []) := rfl
theorem cd_56_94 : cd 56 94 = some (.getfield 9, 3, 5, 2, 0, []) := rfl
theorem cd_56_97 : cd 56 97 = some (.invokestatic 35, 3, 129, 2, 3, []) := rfl
theorem cd_56_100 : cd 56 100 = some (.return_, 1, 0, 0, 0, []) := rfl
theorem cd_57_0 : cd 57 0 = some (.lconst 0, 1, 0, 0, 0, []) := rfl
theorem cd_57_1 : cd 57 1 = some (.lstore_n 1, 1, 0, 0, 0, []) := rfl
theorem cd_57_2 : cd 57 2 = some (.iconst 0, 1, 0, 0, 0, []) := rfl
theorem cd_57_3 : cd 57 3 = some (.istore_n 3, 1, 0, 0, 0, []) := rfl
theorem cd_57_4 : cd 57 4 = some (.iload_n 3, 1, 0, 0, 0, [2]) := rfl
theorem cd_57_5 : cd 57 5 = some (.aload_n 0, 1, 0, 0, 0, []) := rfl
theorem cd_57_6 : cd 57 6 = some (.invokevirtual 39, 3, 49, 1, 0, []) := rfl
theorem cd_57_9 : cd 57 9 = some (.if_icmp .ge 26, 3, 0, 0, 0, []) := rfl
theorem cd_57_12 : cd 57 12 = some (.aload_n 0, 1, 0, 0, 0, []) := rfl
theorem cd_57_13 : cd 57 13 = some (.iload_n 3, 1, 0, 0, 0, []) := rfl
theorem cd_57_14 : cd 57 14 = some (.invokevirtual 54, 3, 53, 2, 0, []) := rfl
theorem cd_57_17 : cd 57 17 = some (.invokestatic 64, 3, 120, 1, 3, []) := rfl
theorem cd_57_20 : cd 57 20 = some (.ifCond .eq 9, 3, 0, 0, 0, []) := rfl
theorem cd_57_23 : cd 57 23 = some (.lload_n 1, 1, 0, 0, 0, []) := rfl
theorem cd_57_24 : cd 57 24 = some (.lconst 1, 1, 0, 0, 0, []) := rfl
theorem cd_57_25 : cd 57 25 = some (.iload_n 3, 1, 0, 0, 0, []) := rfl
theorem cd_57_26 : cd 57 26 = some (.lshl, 1, 0, 0, 0, []) := rfl
theorem cd_57_27 : cd 57 27 = some (.lor, 1, 0, 0, 0, []) := rfl
theorem cd_57_28 : cd 57 28 = some (.lstore_n 1, 1, 0, 0, 0, []) := rfl
theorem cd_57_29 : cd 57 29 = some (.iinc 3 1, 3, 0, 0, 0, []) := rfl
theorem cd_57_32 : cd 57 32 = some (.goto (-28), 3, 0, 0, 0, []) := rfl
theorem cd_57_35 : cd 57 35 = some (.lload_n 1, 1, 0, 0, 0, []) := rfl
theorem cd_57_36 : cd 57 36 = some (.lreturn, 1, 0, 0, 0, []) := rfl
theorem cd_58_0 : cd 58 0 = some (.aload_n 0, 1, 0, 0, 0, []) := rfl
theorem cd_58_1 : cd 58 1 = some (.invokevirtual 68, 3, 57, 1, 0, []) := rfl
theorem cd_58_4 : cd 58 4 = some (.invokestatic 72, 3, 199, 1, 2, []) := rfl
theorem cd_58_7 : cd 58 7 = some (.ireturn, 1, 0, 0, 0, []) := rfl
theorem cd_59_0 : cd 59 0 = some (.iconst 0, 1, 0, 0, 0, []) := rfl
theorem cd_59_1 : cd 59 1 = some (.istore_n 1, 1, 0, 0, 0, []) := rfl
theorem cd_59_2 : cd 59 2 = some (.iconst 0, 1, 0, 0, 0, []) := rfl
theorem cd_59_3 : cd 59 3 = some (.istore_n 2, 1, 0, 0, 0, []) := rfl
theorem cd_59_4 : cd 59 4 = some (.iload_n 2, 1, 0, 0, 0, []) := rfl
theorem cd_59_5 : cd 59 5 = some (.aload_n 0, 1, 0, 0, 0, []) := rfl
theorem cd_59_6 : cd 59 6 = some (.invokevirtual 39, 3, 49, 1, 0, []) := rfl
theorem cd_59_9 : cd 59 9 = some (.if_icmp .ge 28, 3, 0, 0, 0, []) := rfl
theorem cd_59_12 : cd 59 12 = some (.iload_n 1, 1, 0, 0, 0, []) := rfl
theorem cd_59_13 : cd 59 13 = some (.aload_n 0, 1, 0, 0, 0, []) := rfl
theorem cd_59_14 : cd 59 14 = some (.iload_n 2, 1, 0, 0, 0, []) := rfl
theorem cd_59_15 : cd 59 15 = some (.invokevirtual 54, 3, 53, 2, 0, []) := rfl
theorem cd_59_18 : cd 59 18 = some (.invokestatic 78, 3, 119, 1, 3, []) := rfl
theorem cd_59_21 : cd 59 21 = some (.ifCond .eq 7, 3, 0, 0, 0, []) := rfl
theorem cd_59_24 : cd 59 24 = some (.iconst 1, 1, 0, 0, 0, []) := rfl
theorem cd_59_25 : cd 59 25 = some (.goto 4, 3, 0, 0, 0, []) := rfl
theorem cd_59_28 : cd 59 28 = some (.iconst 0, 1, 0, 0, 0, []) := rfl
theorem cd_59_29 : cd 59 29 = some (.iadd, 1, 0, 0, 0, []) := rfl
theorem cd_59_30 : cd 59 30 = some (.istore_n 1, 1, 0, 0, 0, []) := rfl
theorem cd_59_31 : cd 59 31 = some (.iinc 2 1, 3, 0, 0, 0, []) := rfl
theorem cd_59_34 : cd 59 34 = some (.goto (-30), 3, 0, 0, 0, []) := rfl
theorem cd_59_37 : cd 59 37 = some (.iload_n 1, 1, 0, 0, 0, []) := rfl
theorem cd_59_38 : cd 59 38 = some (.ireturn, 1, 0, 0, 0, []) := rfl
theorem cd_60_0 : cd 60 0 = some (.iconst 0, 1, 0, 0, 0, []) := rfl
theorem cd_60_1 : cd 60 1 = some (.istore_n 1, 1, 0, 0, 0, []) := rfl
theorem cd_60_2 : cd 60 2 = some (.iconst 0, 1, 0, 0, 0, []) := rfl
theorem cd_60_3 : cd 60 3 = some (.istore_n 2, 1, 0, 0, 0, []) := rfl
theorem cd_60_4 : cd 60 4 = some (.iload_n 2, 1, 0, 0, 0, []) := rfl
theorem cd_60_5 : cd 60 5 = some (.aload_n 0, 1, 0, 0, 0, []) := rfl
theorem cd_60_6 : cd 60 6 = some (.invokevirtual 39, 3, 49, 1, 0, []) := rfl
theorem cd_60_9 : cd 60 9 = some (.if_icmp .ge 28, 3, 0, 0, 0, []) := rfl
theorem cd_60_12 : cd 60 12 = some (.iload_n 1, 1, 0, 0, 0, []) := rfl
theorem cd_60_13 : cd 60 13 = some (.aload_n 0, 1, 0, 0, 0, []) := rfl
theorem cd_60_14 : cd 60 14 = some (.iload_n 2, 1, 0, 0, 0, []) := rfl
theorem cd_60_15 : cd 60 15 = some (.invokevirtual 54, 3, 53, 2, 0, []) := rfl
theorem cd_60_18 : cd 60 18 = some (.invokestatic 81, 3, 121, 1, 3, []) := rfl
theorem cd_60_21 : cd 60 21 = some (.ifCond .eq 7, 3, 0, 0, 0, []) := rfl
theorem cd_60_24 : cd 60 24 = some (.iconst 1, 1, 0, 0, 0, []) := rfl
theorem cd_60_25 : cd 60 25 = some (.goto 4, 3, 0, 0, 0, []) := rfl
theorem cd_60_28 : cd 60 28 = some (.iconst 0, 1, 0, 0, 0, []) := rfl
theorem cd_60_29 : cd 60 29 = some (.iadd, 1, 0, 0, 0, []) := rfl
theorem cd_60_30 : cd 60 30 = some (.istore_n 1, 1, 0, 0, 0, []) := rfl
theorem cd_60_31 : cd 60 31 = some (.iinc 2 1, 3, 0, 0, 0, []) := rfl
theorem cd_60_34 : cd 60 34 = some (.goto (-30), 3, 0, 0, 0, []) := rfl
theorem cd_60_37 : cd 60 37 = some (.iload_n 1, 1, 0, 0, 0, []) := rfl
theorem cd_60_38 : cd 60 38 = some (.ireturn, 1, 0, 0, 0, []) := rfl
theorem cd_61_0 : cd 61 0 = some (.iconst 0, 1, 0, 0, 0, []) := rfl
theorem cd_61_1 : cd 61 1 = some (.istore_n 1, 1, 0, 0, 0, []) := rfl
theorem cd_61_2 : cd 61 2 = some (.iconst 0, 1, 0, 0, 0, []) := rfl
theorem cd_61_3 : cd 61 3 = some (.istore_n 2, 1, 0, 0, 0, []) := rfl
theorem cd_61_4 : cd 61 4 = some (.iload_n 2, 1, 0, 0, 0, []) := rfl
theorem cd_61_5 : cd 61 5 = some (.aload_n 0, 1, 0, 0, 0, []) := rfl
theorem cd_61_6 : cd 61 6 = some (.invokevirtual 39, 3, 49, 1, 0, []) := rfl
theorem cd_61_9 : cd 61 9 = some (.if_icmp .ge 27, 3, 0, 0, 0, []) := rfl
theorem cd_61_12 : cd 61 12 = some (.iload_n 1, 1, 0, 0, 0, []) := rfl
theorem cd_61_13 : cd 61 13 = some (.aload_n 0, 1, 0, 0, 0, []) := rfl
theorem cd_61_14 : cd 61 14 = some (.iload_n 2, 1, 0, 0, 0, []) := rfl
theorem cd_61_15 : cd 61 15 = some (.invokevirtual 54, 3, 53, 2, 0, []) := rfl
theorem cd_61_18 : cd 61 18 = some (.bipush 35, 2, 0, 0, 0, []) := rfl
theorem cd_61_20 : cd 61 20 = some (.if_icmp .ne 7, 3, 0, 0, 0, []) := rfl
theorem cd_61_23 : cd 61 23 = some (.iconst 1, 1, 0, 0, 0, []) := rfl
theorem cd_61_24 : cd 61 24 = some (.goto 4, 3, 0, 0, 0, []) := rfl
theorem cd_61_27 : cd 61 27 = some (.iconst 0, 1, 0, 0, 0, []) := rfl
theorem cd_61_28 : cd 61 28 = some (.iadd, 1, 0, 0, 0, []) := rfl
theorem cd_61_29 : cd 61 29 = some (.istore_n 1, 1, 0, 0, 0, []) := rfl
theorem cd_61_30 : cd 61 30 = some (.iinc 2 1, 3, 0, 0, 0, []) := rfl
theorem cd_61_33 : cd 61 33 = some (.goto (-29), 3, 0, 0, 0, []) := rfl
theorem cd_61_36 : cd 61 36 = some (.iload_n 1, 1, 0, 0, 0, []) := rfl
theorem cd_61_37 : cd 61 37 = some (.ireturn, 1, 0, 0, 0, []) := rfl
theorem cd_62_0 : cd 62 0 = some (.aload_n 0, 1, 0, 0, 0, []) := rfl
theorem cd_62_1 : cd 62 1 = some (.invokespecial 3, 3, 0, 1, 6, []) := rfl
theorem cd_62_4 : cd 62 4 = some (.aload_n 0, 1, 0, 0, 0, []) := rfl
theorem cd_62_5 : cd 62 5 = some (.bipush 60, 2, 0, 0, 0, []) := rfl
theorem cd_62_7 : cd 62 7 = some (.newarray .int, 2, 0, 0, 0, []) := rfl
theorem cd_62_9 : cd 62 9 = some (.putfield 9, 3, 6, 0, 0, []) := rfl
theorem cd_62_12 : cd 62 12 = some (.return_, 1, 0, 0, 0, []) := rfl
theorem cd_63_0 : cd 63 0 = some (.aload_n 0, 1, 0, 0, 0, []) := rfl
theorem cd_63_1 : cd 63 1 = some (.getfield 15, 3, 6, 1, 0, []) := rfl
theorem cd_63_4 : cd 63 4 = some (.bipush 60, 2, 0, 0, 0, []) := rfl
theorem cd_63_6 : cd 63 6 = some (.if_icmp .lt 7, 3, 0, 0, 0, []) := rfl
theorem cd_63_9 : cd 63 9 = some (.iconst 1, 1, 0, 0, 0, []) := rfl
theorem cd_63_10 : cd 63 10 = some (.goto 4, 3, 0, 0, 0, []) := rfl
theorem cd_63_13 : cd 63 13 = some (.iconst 0, 1, 0, 0, 0, []) := rfl
theorem cd_63_14 : cd 63 14 = some (.ireturn, 1, 0, 0, 0, []) := rfl
theorem cd_64_0 : cd 64 0 = some (.aload_n 0, 1, 0, 0, 0, []) := rfl
theorem cd_64_1 : cd 64 1 = some (.getfield 9, 3, 6, 0, 0, []) := rfl
theorem cd_64_4 : cd 64 4 = some (.aload_n 0, 1, 0, 0, 0, []) := rfl
theorem cd_64_5 : cd 64 5 = some (.getfield 15, 3, 6, 1, 0, []) := rfl
theorem cd_64_8 : cd 64 8 = some (.iload_n 1, 1, 0, 0, 0, []) := rfl
theorem cd_64_9 : cd 64 9 = some (.invokestatic 19, 3, 127, 3, 3, []) := rfl
theorem cd_64_12 : cd 64 12 = some (.aload_n 0, 1, 0, 0, 0, []) := rfl
theorem cd_64_13 : cd 64 13 = some (.dup, 1, 0, 0, 0, []) := rfl
theorem cd_64_14 : cd 64 14 = some (.getfield 15, 3, 6, 1, 0, []) := rfl
theorem cd_64_17 : cd 64 17 = some (.iconst 1, 1, 0, 0, 0, []) := rfl
theorem cd_64_18 : cd 64 18 = some (.iadd, 1, 0, 0, 0, []) := rfl
theorem cd_64_19 : cd 64 19 = some (.putfield 15, 3, 6, 1, 0, []) := rfl
theorem cd_64_22 : cd 64 22 = some (.return_, 1, 0, 0, 0, []) := rfl
theorem cd_65_0 : cd 65 0 = some (.aload_n 0, 1, 0, 0, 0, []) := rfl
theorem cd_65_1 : cd 65 1 = some (.getfield 15, 3, 6, 1, 0, []) := rfl
theorem cd_65_4 : cd 65 4 = some (.iconst 1, 1, 0, 0, 0, []) := rfl
theorem cd_65_5 : cd 65 5 = some (.bipush 8, 2, 0, 0, 0, []) := rfl
theorem cd_65_7 : cd 65 7 = some (.invokestatic 23, 3, 116, 3, 3, []) := rfl
theorem cd_65_10 : cd 65 10 = some (.ifCond .ne 5, 3, 0, 0, 0, []) := rfl
theorem cd_65_13 : cd 65 13 = some (.iconst 0, 1, 0, 0, 0, []) := rfl
theorem cd_65_14 : cd 65 14 = some (.ireturn, 1, 0, 0, 0, []) := rfl
theorem cd_65_15 : cd 65 15 = some (.iconst 0, 1, 0, 0, 0, []) := rfl
theorem cd_65_16 : cd 65 16 = some (.istore_n 1, 1, 0, 0, 0, []) := rfl
theorem cd_65_17 : cd 65 17 = some (.iload_n 1, 1, 0, 0, 0, []) := rfl
theorem cd_65_18 : cd 65 18 = some (.aload_n 0, 1, 0, 0, 0, []) := rfl
theorem cd_65_19 : cd 65 19 = some (.getfield 15, 3, 6, 1, 0, []) := rfl
theorem cd_65_22 : cd 65 22 = some (.if_icmp .ge 25, 3, 0, 0, 0, []) := rfl
theorem cd_65_25 : cd 65 25 = some (.aload_n 0, 1, 0, 0, 0, []) := rfl
theorem cd_65_26 : cd 65 26 = some (.getfield 9, 3, 6, 0, 0, []) := rfl
theorem cd_65_29 : cd 65 29 = some (.iload_n 1, 1, 0, 0, 0, []) := rfl
theorem cd_65_30 : cd 65 30 = some (.invokestatic 27, 3, 125, 2, 3, []) := rfl
theorem cd_65_33 : cd 65 33 = some (.invokestatic 31, 3, 118, 1, 3, []) := rfl
theorem cd_65_36 : cd 65 36 = some (.ifCond .ne 5, 3, 0, 0, 0, []) := rfl
theorem cd_65_39 : cd 65 39 = some (.iconst 0, 1, 0, 0, 0, []) := rfl
theorem cd_65_40 : cd 65 40 = some (.ireturn, 1, 0, 0, 0, []) := rfl
theorem cd_65_41 : cd 65 41 = some (.iinc 1 1, 3, 0, 0, 0, []) := rfl
theorem cd_65_44 : cd 65 44 = some (.goto (-27), 3, 0, 0, 0, []) := rfl
theorem cd_65_47 : cd 65 47 = some (.iconst 1, 1, 0, 0, 0, []) := rfl
theorem cd_65_48 : cd 65 48 = some (.ireturn, 1, 0, 0, 0, []) := rfl
theorem cd_69_0 : cd 69 0 = some (.aload_n 0, 1, 0, 0, 0, []) := rfl
theorem cd_69_1 : cd 69 1 = some (.invokespecial 3, 3, 0, 1, 6, []) := rfl
theorem cd_69_4 : cd 69 4 = some (.aload_n 0, 1, 0, 0, 0, []) := rfl
theorem cd_69_5 : cd 69 5 = some (.bipush 8, 2, 0, 0, 0, []) := rfl
theorem cd_69_7 : cd 69 7 = some (.newarray .int, 2, 0, 0, 0, []) := rfl
theorem cd_69_9 : cd 69 9 = some (.putfield 9, 3, 7, 1, 0, []) := rfl
theorem cd_69_12 : cd 69 12 = some (.aload_n 0, 1, 0, 0, 0, []) := rfl
theorem cd_69_13 : cd 69 13 = some (.bipush 64, 2, 0, 0, 0, []) := rfl
theorem cd_69_15 : cd 69 15 = some (.newarray .int, 2, 0, 0, 0, []) := rfl
theorem cd_69_17 : cd 69 17 = some (.putfield 15, 3, 7, 2, 0, []) := rfl
theorem cd_69_20 : cd 69 20 = some (.return_, 1, 0, 0, 0, []) := rfl
theorem cd_70_0 : cd 70 0 = some (.aload_n 0, 1, 0, 0, 0, []) := rfl
theorem cd_70_1 : cd 70 1 = some (.aload_n 1, 1, 0, 0, 0, []) := rfl
theorem cd_70_2 : cd 70 2 = some (.getfield 18, 3, 7, 0, 0, []) := rfl
theorem cd_70_5 : cd 70 5 = some (.putfield 18, 3, 7, 0, 0, []) := rfl
theorem cd_70_8 : cd 70 8 = some (.aload_n 1, 1, 0, 0, 0, []) := rfl
theorem cd_70_9 : cd 70 9 = some (.getfield 9, 3, 7, 1, 0, []) := rfl
theorem cd_70_12 : cd 70 12 = some (.aload_n 0, 1, 0, 0, 0, []) := rfl
theorem cd_70_13 : cd 70 13 = some (.getfield 9, 3, 7, 1, 0, []) := rfl
theorem cd_70_16 : cd 70 16 = some (.invokestatic 22, 3, 129, 2, 3, []) := rfl
theorem cd_70_19 : cd 70 19 = some (.aload_n 1, 1, 0, 0, 0, []) := rfl
theorem cd_70_20 : cd 70 20 = some (.getfield 15, 3, 7, 2, 0, []) := rfl
theorem cd_70_23 : cd 70 23 = some (.aload_n 0, 1, 0, 0, 0, []) := rfl
theorem cd_70_24 : cd 70 24 = some (.getfield 15, 3, 7, 2, 0, []) := rfl
theorem cd_70_27 : cd 70 27 = some (.invokestatic 22, 3, 129, 2, 3, []) := rfl
theorem cd_70_30 : cd 70 30 = some (.return_, 1, 0, 0, 0, []) := rfl
theorem cd_71_0 : cd 71 0 = some (.iload_n 1, 1, 0, 0, 0, []) := rfl
theorem cd_71_1 : cd 71 1 = some (.ifCond .lt 15, 3, 0, 0, 0, []) := rfl
theorem cd_71_4 : cd 71 4 = some (.iload_n 1, 1, 0, 0, 0, []) := rfl
theorem cd_71_5 : cd 71 5 = some (.aload_n 0, 1, 0, 0, 0, []) := rfl
theorem cd_71_6 : cd 71 6 = some (.getfield 18, 3, 7, 0, 0, []) := rfl
theorem cd_71_9 : cd 71 9 = some (.if_icmp .ge 7, 3, 0, 0, 0, []) := rfl
theorem cd_71_12 : cd 71 12 = some (.iconst 1, 1, 0, 0, 0, []) := rfl
theorem cd_71_13 : cd 71 13 = some (.goto 4, 3, 0, 0, 0, []) := rfl
theorem cd_71_16 : cd 71 16 = some (.iconst 0, 1, 0, 0, 0, []) := rfl
theorem cd_71_17 : cd 71 17 = some (.ireturn, 1, 0, 0, 0, []) := rfl
theorem cd_72_0 : cd 72 0 = some (.aload_n 0, 1, 0, 0, 0, []) := rfl
theorem cd_72_1 : cd 72 1 = some (.getfield 18, 3, 7, 0, 0, []) := rfl
theorem cd_72_4 : cd 72 4 = some (.bipush 8, 2, 0, 0, 0, []) := rfl
theorem cd_72_6 : cd 72 6 = some (.if_icmp .lt 7, 3, 0, 0, 0, []) := rfl
theorem cd_72_9 : cd 72 9 = some (.iconst 1, 1, 0, 0, 0, []) := rfl
theorem cd_72_10 : cd 72 10 = some (.goto 4, 3, 0, 0, 0, []) := rfl
theorem cd_72_13 : cd 72 13 = some (.iconst 0, 1, 0, 0, 0, []) := rfl
theorem cd_72_14 : cd 72 14 = some (.ireturn, 1, 0, 0, 0, []) := rfl
theorem cd_73_0 : cd 73 0 = some (.iload_n 2, 1, 0, 0, 0, []) := rfl
theorem cd_73_1 : cd 73 1 = some (.aload_n 0, 1, 0, 0, 0, []) := rfl
theorem cd_73_2 : cd 73 2 = some (.getfield 9, 3, 7, 1, 0, []) := rfl
theorem cd_73_5 : cd 73 5 = some (.iload_n 1, 1, 0, 0, 0, []) := rfl
theorem cd_73_6 : cd 73 6 = some (.invokestatic 26, 3, 125, 2, 3, []) := rfl
theorem cd_73_9 : cd 73 9 = some (.if_icmp .ge 15, 3, 0, 0, 0, []) := rfl
theorem cd_73_12 : cd 73 12 = some (.aload_n 0, 1, 0, 0, 0, []) := rfl
theorem cd_73_13 : cd 73 13 = some (.iload_n 1, 1, 0, 0, 0, []) := rfl
theorem cd_73_14 : cd 73 14 = some (.iload_n 2, 1, 0, 0, 0, []) := rfl
theorem cd_73_15 : cd 73 15 = some (.invokevirtual 30, 3, 74, 3, 0, []) := rfl
theorem cd_73_18 : cd 73 18 = some (.bipush 97, 2, 0, 0, 0, []) := rfl
theorem cd_73_20 : cd 73 20 = some (.isub, 1, 0, 0, 0, []) := rfl
theorem cd_73_21 : cd 73 21 = some (.goto 4, 3, 0, 0, 0, []) := rfl
theorem cd_73_24 : cd 73 24 = some (.iconst (-1), 1, 0, 0, 0, []) := rfl
theorem cd_73_25 : cd 73 25 = some (.ireturn, 1, 0, 0, 0, []) := rfl
theorem cd_74_0 : cd 74 0 = some (.aload_n 0, 1, 0, 0, 0, []) := rfl
theorem cd_74_1 : cd 74 1 = some (.getfield 15, 3, 7, 2, 0, []) := rfl
theorem cd_74_4 : cd 74 4 = some (.iload_n 1, 1, 0, 0, 0, []) := rfl
theorem cd_74_5 : cd 74 5 = some (.bipush 8, 2, 0, 0, 0, []) := rfl
theorem cd_74_7 : cd 74 7 = some (.imul, 1, 0, 0, 0, []) := rfl
theorem cd_74_8 : cd 74 8 = some (.iload_n 2, 1, 0, 0, 0, []) := rfl
theorem cd_74_9 : cd 74 9 = some (.iadd, 1, 0, 0, 0, []) := rfl
theorem cd_74_10 : cd 74 10 = some (.invokestatic 26, 3, 125, 2, 3, []) := rfl
theorem cd_74_13 : cd 74 13 = some (.ireturn, 1, 0, 0, 0, []) := rfl
theorem cd_75_0 : cd 75 0 = some (.aload_n 0, 1, 0, 0, 0, []) := rfl
theorem cd_75_1 : cd 75 1 = some (.getfield 18, 3, 7, 0, 0, []) := rfl
theorem cd_75_4 : cd 75 4 = some (.istore_n 3, 1, 0, 0, 0, []) := rfl
theorem cd_75_5 : cd 75 5 = some (.iconst 0, 1, 0, 0, 0, []) := rfl
theorem cd_75_6 : cd 75 6 = some (.istore 4, 2, 0, 0, 0, []) := rfl
theorem cd_75_8 : cd 75 8 = some (.iload 4, 2, 0, 0, 0, []) := rfl
theorem cd_75_10 : cd 75 10 = some (.iload_n 2, 1, 0, 0, 0, []) := rfl
theorem cd_75_11 : cd 75 11 = some (.if_icmp .ge 36, 3, 0, 0, 0, []) := rfl
theorem cd_75_14 : cd 75 14 = some (.iload 4, 2, 0, 0, 0, []) := rfl
theorem cd_75_16 : cd 75 16 = some (.bipush 8, 2, 0, 0, 0, []) := rfl
theorem cd_75_18 : cd 75 18 = some (.if_icmp .ge 29, 3, 0, 0, 0, []) := rfl
theorem cd_75_21 : cd 75 21 = some (.aload_n 0, 1, 0, 0, 0, []) := rfl
theorem cd_75_22 : cd 75 22 = some (.getfield 15, 3, 7, 2, 0, []) := rfl
theorem cd_75_25 : cd 75 25 = some (.iload_n 3, 1, 0, 0, 0, []) := rfl
theorem cd_75_26 : cd 75 26 = some (.bipush 8, 2, 0, 0, 0, []) := rfl
theorem cd_75_28 : cd 75 28 = some (.imul, 1, 0, 0, 0, []) := rfl
theorem cd_75_29 : cd 75 29 = some (.iload 4, 2, 0, 0, 0, []) := rfl
theorem cd_75_31 : cd 75 31 = some (.iadd, 1, 0, 0, 0, []) := rfl
theorem cd_75_32 : cd 75 32 = some (.aload_n 1, 1, 0, 0, 0, []) := rfl
theorem cd_75_33 : cd 75 33 = some (.iload 4, 2, 0, 0, 0, []) := rfl
theorem cd_75_35 : cd 75 35 = some (.invokestatic 26, 3, 125, 2, 3, []) := rfl
theorem cd_75_38 : cd 75 38 = some (.invokestatic 34, 3, 127, 3, 3, []) := rfl
theorem cd_75_41 : cd 75 41 = some (.iinc 4 1, 3, 0, 0, 0, []) := rfl
theorem cd_75_44 : cd 75 44 = some (.goto (-36), 3, 0, 0, 0, []) := rfl
theorem cd_75_47 : cd 75 47 = some (.aload_n 0, 1, 0, 0, 0, []) := rfl
theorem cd_75_48 : cd 75 48 = some (.getfield 9, 3, 7, 1, 0, []) := rfl
theorem cd_75_51 : cd 75 51 = some (.iload_n 3, 1, 0, 0, 0, []) := rfl
theorem cd_75_52 : cd 75 52 = some (.iload_n 2, 1, 0, 0, 0, []) := rfl
theorem cd_75_53 : cd 75 53 = some (.invokestatic 34, 3, 127, 3, 3, []) := rfl
theorem cd_75_56 : cd 75 56 = some (.aload_n 0, 1, 0, 0, 0, []) := rfl
theorem cd_75_57 : cd 75 57 = some (.dup, 1, 0, 0, 0, []) := rfl
theorem cd_75_58 : cd 75 58 = some (.getfield 18, 3, 7, 0, 0, []) := rfl
theorem cd_75_61 : cd 75 61 = some (.iconst 1, 1, 0, 0, 0, []) := rfl
theorem cd_75_62 : cd 75 62 = some (.iadd, 1, 0, 0, 0, []) := rfl
theorem cd_75_63 : cd 75 63 = some (.putfield 18, 3, 7, 0, 0, []) := rfl
theorem cd_75_66 : cd 75 66 = some (.iload_n 3, 1, 0, 0, 0, []) := rfl
theorem cd_75_67 : cd 75 67 = some (.ireturn, 1, 0, 0, 0, []) := rfl
theorem cd_76_0 : cd 76 0 = some (.iload_n 1, 1, 0, 0, 0, []) := rfl
theorem cd_76_1 : cd 76 1 = some (.iconst 1, 1, 0, 0, 0, []) := rfl
theorem cd_76_2 : cd 76 2 = some (.iadd, 1, 0, 0, 0, []) := rfl
theorem cd_76_3 : cd 76 3 = some (.istore_n 2, 1, 0, 0, 0, []) := rfl
theorem cd_76_4 : cd 76 4 = some (.iload_n 2, 1, 0, 0, 0, [1, 3]) := rfl
theorem cd_76_5 : cd 76 5 = some (.aload_n 0, 1, 0, 0, 0, []) := rfl
theorem cd_76_6 : cd 76 6 = some (.getfield 18, 3, 7, 0, 0, []) := rfl
theorem cd_76_9 : cd 76 9 = some (.if_icmp .ge 62, 3, 0, 0, 0, []) := rfl
theorem cd_76_12 : cd 76 12 = some (.iconst 0, 1, 0, 0, 0, []) := rfl
theorem cd_76_13 : cd 76 13 = some (.istore_n 3, 1, 0, 0, 0, []) := rfl
theorem cd_76_14 : cd 76 14 = some (.iload_n 3, 1, 0, 0, 0, [1]) := rfl
theorem cd_76_15 : cd 76 15 = some (.bipush 8, 2, 0, 0, 0, []) := rfl
theorem cd_76_17 : cd 76 17 = some (.if_icmp .ge 30, 3, 0, 0, 0, []) := rfl
theorem cd_76_20 : cd 76 20 = some (.aload_n 0, 1, 0, 0, 0, []) := rfl
theorem cd_76_21 : cd 76 21 = some (.getfield 15, 3, 7, 2, 0, []) := rfl
theorem cd_76_24 : cd 76 24 = some (.iload_n 2, 1, 0, 0, 0, []) := rfl
theorem cd_76_25 : cd 76 25 = some (.iconst 1, 1, 0, 0, 0, []) := rfl
theorem cd_76_26 : cd 76 26 = some (.isub, 1, 0, 0, 0, []) := rfl
theorem cd_76_27 : cd 76 27 = some (.bipush 8, 2, 0, 0, 0, []) := rfl
theorem cd_76_29 : cd 76 29 = some (.imul, 1, 0, 0, 0, []) := rfl
theorem cd_76_30 : cd 76 30 = some (.iload_n 3, 1, 0, 0, 0, []) := rfl
theorem cd_76_31 : cd 76 31 = some (.iadd, 1, 0, 0, 0, []) := rfl
theorem cd_76_32 : cd 76 32 = some (.aload_n 0, 1, 0, 0, 0, []) := rfl
theorem cd_76_33 : cd 76 33 = some (.iload_n 2, 1, 0, 0, 0, []) := rfl
theorem cd_76_34 : cd 76 34 = some (.iload_n 3, 1, 0, 0, 0, []) := rfl
theorem cd_76_35 : cd 76 35 = some (.invokevirtual 30, 3, 74, 3, 0, []) := rfl
theorem cd_76_38 : cd 76 38 = some (.invokestatic 34, 3, 127, 3, 3, []) := rfl
theorem cd_76_41 : cd 76 41 = some (.iinc 3 1, 3, 0, 0, 0, []) := rfl
theorem cd_76_44 : cd 76 44 = some (.goto (-30), 3, 0, 0, 0, []) := rfl
theorem cd_76_47 : cd 76 47 = some (.aload_n 0, 1, 0, 0, 0, []) := rfl
theorem cd_76_48 : cd 76 48 = some (.getfield 9, 3, 7, 1, 0, []) := rfl
theorem cd_76_51 : cd 76 51 = some (.iload_n 2, 1, 0, 0, 0, []) := rfl
theorem cd_76_52 : cd 76 52 = some (.iconst 1, 1, 0, 0, 0, []) := rfl
theorem cd_76_53 : cd 76 53 = some (.isub, 1, 0, 0, 0, []) := rfl
theorem cd_76_54 : cd 76 54 = some (.aload_n 0, 1, 0, 0, 0, []) := rfl
theorem cd_76_55 : cd 76 55 = some (.getfield 9, 3, 7, 1, 0, []) := rfl
theorem cd_76_58 : cd 76 58 = some (.iload_n 2, 1, 0, 0, 0, []) := rfl
theorem cd_76_59 : cd 76 59 = some (.invokestatic 26, 3, 125, 2, 3, []) := rfl
theorem cd_76_62 : cd 76 62 = some (.invokestatic 34, 3, 127, 3, 3, []) := rfl
theorem cd_76_65 : cd 76 65 = some (.iinc 2 1, 3, 0, 0, 0, []) := rfl
theorem cd_76_68 : cd 76 68 = some (.goto (-64), 3, 0, 0, 0, []) := rfl
theorem cd_76_71 : cd 76 71 = some (.aload_n 0, 1, 0, 0, 0, []) := rfl
theorem cd_76_72 : cd 76 72 = some (.dup, 1, 0, 0, 0, []) := rfl
theorem cd_76_73 : cd 76 73 = some (.getfield 18, 3, 7, 0, 0, []) := rfl
theorem cd_76_76 : cd 76 76 = some (.iconst 1, 1, 0, 0, 0, []) := rfl
theorem cd_76_77 : cd 76 77 = some (.isub, 1, 0, 0, 0, []) := rfl
theorem cd_76_78 : cd 76 78 = some (.putfield 18, 3, 7, 0, 0, []) := rfl
theorem cd_76_81 : cd 76 81 = some (.return_, 1, 0, 0, 0, []) := rfl
theorem cd_77_0 : cd 77 0 = some (.iconst 0, 1, 0, 0, 0, []) := rfl
theorem cd_77_1 : cd 77 1 = some (.istore 4, 2, 0, 0, 0, []) := rfl
theorem cd_77_3 : cd 77 3 = some (.iload 4, 2, 0, 0, 0, []) := rfl
theorem cd_77_5 : cd 77 5 = some (.aload_n 0, 1, 0, 0, 0, []) := rfl
theorem cd_77_6 : cd 77 6 = some (.getfield 18, 3, 7, 0, 0, []) := rfl
theorem cd_77_9 : cd 77 9 = some (.if_icmp .ge 36, 3, 0, 0, 0, []) := rfl
theorem cd_77_12 : cd 77 12 = some (.aload_n 0, 1, 0, 0, 0, []) := rfl
theorem cd_77_13 : cd 77 13 = some (.getfield 9, 3, 7, 1, 0, []) := rfl
theorem cd_77_16 : cd 77 16 = some (.iload 4, 2, 0, 0, 0, []) := rfl
theorem cd_77_18 : cd 77 18 = some (.invokestatic 26, 3, 125, 2, 3, []) := rfl
theorem cd_77_21 : cd 77 21 = some (.iload_n 3, 1, 0, 0, 0, []) := rfl
theorem cd_77_22 : cd 77 22 = some (.if_icmp .ne 17, 3, 0, 0, 0, []) := rfl
theorem cd_77_25 : cd 77 25 = some (.aload_n 0, 1, 0, 0, 0, []) := rfl
theorem cd_77_26 : cd 77 26 = some (.iload 4, 2, 0, 0, 0, []) := rfl
theorem cd_77_28 : cd 77 28 = some (.aload_n 1, 1, 0, 0, 0, []) := rfl
theorem cd_77_29 : cd 77 29 = some (.iload_n 2, 1, 0, 0, 0, []) := rfl
theorem cd_77_30 : cd 77 30 = some (.invokevirtual 38, 3, 78, 4, 0, []) := rfl
theorem cd_77_33 : cd 77 33 = some (.ifCond .eq 6, 3, 0, 0, 0, []) := rfl
theorem cd_77_36 : cd 77 36 = some (.iload 4, 2, 0, 0, 0, []) := rfl
theorem cd_77_38 : cd 77 38 = some (.ireturn, 1, 0, 0, 0, []) := rfl
theorem cd_77_39 : cd 77 39 = some (.iinc 4 1, 3, 0, 0, 0, []) := rfl
theorem cd_77_42 : cd 77 42 = some (.goto (-39), 3, 0, 0, 0, []) := rfl
theorem cd_77_45 : cd 77 45 = some (.iconst (-1), 1, 0, 0, 0, []) := rfl
theorem cd_77_46 : cd 77 46 = some (.ireturn, 1, 0, 0, 0, []) := rfl
theorem cd_78_0 : cd 78 0 = some (.aload_n 0, 1, 0, 0, 0, []) := rfl
theorem cd_78_1 : cd 78 1 = some (.getfield 9, 3, 7, 1, 0, []) := rfl
theorem cd_78_4 : cd 78 4 = some (.iload_n 1, 1, 0, 0, 0, []) := rfl
theorem cd_78_5 : cd 78 5 = some (.invokestatic 26, 3, 125, 2, 3, []) := rfl
theorem cd_78_8 : cd 78 8 = some (.istore 4, 2, 0, 0, 0, []) := rfl
theorem cd_78_10 : cd 78 10 = some (.iconst 0, 1, 0, 0, 0, []) := rfl
theorem cd_78_11 : cd 78 11 = some (.istore 5, 2, 0, 0, 0, []) := rfl
theorem cd_78_13 : cd 78 13 = some (.iload 5, 2, 0, 0, 0, []) := rfl
theorem cd_78_15 : cd 78 15 = some (.iload 4, 2, 0, 0, 0, []) := rfl
theorem cd_78_17 : cd 78 17 = some (.if_icmp .ge 29, 3, 0, 0, 0, []) := rfl
theorem cd_78_20 : cd 78 20 = some (.aload_n 0, 1, 0, 0, 0, []) := rfl
theorem cd_78_21 : cd 78 21 = some (.iload_n 1, 1, 0, 0, 0, []) := rfl
theorem cd_78_22 : cd 78 22 = some (.iload 5, 2, 0, 0, 0, []) := rfl
theorem cd_78_24 : cd 78 24 = some (.invokevirtual 30, 3, 74, 3, 0, []) := rfl
theorem cd_78_27 : cd 78 27 = some (.aload_n 2, 1, 0, 0, 0, []) := rfl
theorem cd_78_28 : cd 78 28 = some (.iload_n 3, 1, 0, 0, 0, []) := rfl
theorem cd_78_29 : cd 78 29 = some (.iload 5, 2, 0, 0, 0, []) := rfl
theorem cd_78_31 : cd 78 31 = some (.iadd, 1, 0, 0, 0, []) := rfl
theorem cd_78_32 : cd 78 32 = some (.invokestatic 26, 3, 125, 2, 3, []) := rfl
theorem cd_78_35 : cd 78 35 = some (.if_icmp .eq 5, 3, 0, 0, 0, []) := rfl
theorem cd_78_38 : cd 78 38 = some (.iconst 0, 1, 0, 0, 0, []) := rfl
theorem cd_78_39 : cd 78 39 = some (.ireturn, 1, 0, 0, 0, []) := rfl
theorem cd_78_40 : cd 78 40 = some (.iinc 5 1, 3, 0, 0, 0, []) := rfl
theorem cd_78_43 : cd 78 43 = some (.goto (-30), 3, 0, 0, 0, []) := rfl
theorem cd_78_46 : cd 78 46 = some (.iconst 1, 1, 0, 0, 0, []) := rfl
theorem cd_78_47 : cd 78 47 = some (.ireturn, 1, 0, 0, 0, []) := rfl
theorem cd_199_0 : cd 199 0 = some (.lload_n 0, 1, 0, 0, 0, []) := rfl
theorem cd_199_1 : cd 199 1 = some (.lload_n 0, 1, 0, 0, 0, []) := rfl
theorem cd_199_2 : cd 199 2 = some (.iconst 1, 1, 0, 0, 0, []) := rfl
theorem cd_199_3 : cd 199 3 = some (.lushr, 1, 0, 0, 0, []) := rfl
theorem cd_199_4 : cd 199 4 = some (.ldc2_w 314, 3, 3, 0, 0, []) := rfl
theorem cd_199_7 : cd 199 7 = some (.land, 1, 0, 0, 0, []) := rfl
theorem cd_199_8 : cd 199 8 = some (.lsub, 1, 0, 0, 0, []) := rfl
theorem cd_199_9 : cd 199 9 = some (.lstore_n 0, 1, 0, 0, 0, []) := rfl
theorem cd_199_10 : cd 199 10 = some (.lload_n 0, 1, 0, 0, 0, []) := rfl
theorem cd_199_11 : cd 199 11 = some (.ldc2_w 316, 3, 4, 0, 0, []) := rfl
theorem cd_199_14 : cd 199 14 = some (.land, 1, 0, 0, 0, []) := rfl
theorem cd_199_15 : cd 199 15 = some (.lload_n 0, 1, 0, 0, 0, []) := rfl
theorem cd_199_16 : cd 199 16 = some (.iconst 2, 1, 0, 0, 0, []) := rfl
theorem cd_199_17 : cd 199 17 = some (.lushr, 1, 0, 0, 0, []) := rfl
theorem cd_199_18 : cd 199 18 = some (.ldc2_w 316, 3, 4, 0, 0, []) := rfl
theorem cd_199_21 : cd 199 21 = some (.land, 1, 0, 0, 0, []) := rfl
theorem cd_199_22 : cd 199 22 = some (.ladd, 1, 0, 0, 0, []) := rfl
theorem cd_199_23 : cd 199 23 = some (.lstore_n 0, 1, 0, 0, 0, []) := rfl
theorem cd_199_24 : cd 199 24 = some (.lload_n 0, 1, 0, 0, 0, []) := rfl
theorem cd_199_25 : cd 199 25 = some (.lload_n 0, 1, 0, 0, 0, []) := rfl
theorem cd_199_26 : cd 199 26 = some (.iconst 4, 1, 0, 0, 0, []) := rfl
theorem cd_199_27 : cd 199 27 = some (.lushr, 1, 0, 0, 0, []) := rfl
theorem cd_199_28 : cd 199 28 = some (.ladd, 1, 0, 0, 0, []) := rfl
theorem cd_199_29 : cd 199 29 = some (.ldc2_w 318, 3, 5, 0, 0, []) := rfl
theorem cd_199_32 : cd 199 32 = some (.land, 1, 0, 0, 0, []) := rfl
theorem cd_199_33 : cd 199 33 = some (.lstore_n 0, 1, 0, 0, 0, []) := rfl
theorem cd_199_34 : cd 199 34 = some (.lload_n 0, 1, 0, 0, 0, []) := rfl
theorem cd_199_35 : cd 199 35 = some (.lload_n 0, 1, 0, 0, 0, []) := rfl
theorem cd_199_36 : cd 199 36 = some (.bipush 8, 2, 0, 0, 0, []) := rfl
theorem cd_199_38 : cd 199 38 = some (.lushr, 1, 0, 0, 0, []) := rfl
theorem cd_199_39 : cd 199 39 = some (.ladd, 1, 0, 0, 0, []) := rfl
theorem cd_199_40 : cd 199 40 = some (.lstore_n 0, 1, 0, 0, 0, []) := rfl
theorem cd_199_41 : cd 199 41 = some (.lload_n 0, 1, 0, 0, 0, []) := rfl
theorem cd_199_42 : cd 199 42 = some (.lload_n 0, 1, 0, 0, 0, []) := rfl
theorem cd_199_43 : cd 199 43 = some (.bipush 16, 2, 0, 0, 0, []) := rfl
theorem cd_199_45 : cd 199 45 = some (.lushr, 1, 0, 0, 0, []) := rfl
theorem cd_199_46 : cd 199 46 = some (.ladd, 1, 0, 0, 0, []) := rfl
theorem cd_199_47 : cd 199 47 = some (.lstore_n 0, 1, 0, 0, 0, []) := rfl
theorem cd_199_48 : cd 199 48 = some (.lload_n 0, 1, 0, 0, 0, []) := rfl
theorem cd_199_49 : cd 199 49 = some (.lload_n 0, 1, 0, 0, 0, []) := rfl
theorem cd_199_50 : cd 199 50 = some (.bipush 32, 2, 0, 0, 0, []) := rfl
theorem cd_199_52 : cd 199 52 = some (.lushr, 1, 0, 0, 0, []) := rfl
theorem cd_199_53 : cd 199 53 = some (.ladd, 1, 0, 0, 0, []) := rfl
theorem cd_199_54 : cd 199 54 = some (.lstore_n 0, 1, 0, 0, 0, []) := rfl
theorem cd_199_55 : cd 199 55 = some (.lload_n 0, 1, 0, 0, 0, []) := rfl
theorem cd_199_56 : cd 199 56 = some (.l2i, 1, 0, 0, 0, []) := rfl
theorem cd_199_57 : cd 199 57 = some (.bipush 127, 2, 0, 0, 0, []) := rfl
theorem cd_199_59 : cd 199 59 = some (.iand, 1, 0, 0, 0, []) := rfl
theorem cd_199_60 : cd 199 60 = some (.ireturn, 1, 0, 0, 0, []) := rfl
theorem cd_200_0 : cd 200 0 = some (.iconst 0, 1, 0, 0, 0, []) := rfl
theorem cd_200_1 : cd 200 1 = some (.istore_n 3, 1, 0, 0, 0, []) := rfl
theorem cd_200_2 : cd 200 2 = some (.aload_n 0, 1, 0, 0, 0, []) := rfl
theorem cd_200_3 : cd 200 3 = some (.arraylength, 1, 0, 0, 0, []) := rfl
theorem cd_200_4 : cd 200 4 = some (.istore 4, 2, 0, 0, 0, []) := rfl
theorem cd_200_6 : cd 200 6 = some (.iload_n 3, 1, 0, 0, 0, [2]) := rfl
theorem cd_200_7 : cd 200 7 = some (.iload 4, 2, 0, 0, 0, []) := rfl
theorem cd_200_9 : cd 200 9 = some (.if_icmp .ge 13, 3, 0, 0, 0, []) := rfl
theorem cd_200_12 : cd 200 12 = some (.aload_n 0, 1, 0, 0, 0, []) := rfl
theorem cd_200_13 : cd 200 13 = some (.iload_n 3, 1, 0, 0, 0, []) := rfl
theorem cd_200_14 : cd 200 14 = some (.lload_n 1, 1, 0, 0, 0, []) := rfl
theorem cd_200_15 : cd 200 15 = some (.lastore, 1, 0, 0, 0, []) := rfl
theorem cd_200_16 : cd 200 16 = some (.iinc 3 1, 3, 0, 0, 0, []) := rfl
theorem cd_200_19 : cd 200 19 = some (.goto (-13), 3, 0, 0, 0, []) := rfl
theorem cd_200_22 : cd 200 22 = some (.return_, 1, 0, 0, 0, []) := rfl
theorem cd_201_0 : cd 201 0 = some (.iconst 0, 1, 0, 0, 0, []) := rfl
theorem cd_201_1 : cd 201 1 = some (.istore_n 2, 1, 0, 0, 0, []) := rfl
theorem cd_201_2 : cd 201 2 = some (.aload_n 0, 1, 0, 0, 0, []) := rfl
theorem cd_201_3 : cd 201 3 = some (.arraylength, 1, 0, 0, 0, []) := rfl
theorem cd_201_4 : cd 201 4 = some (.istore_n 3, 1, 0, 0, 0, []) := rfl
theorem cd_201_5 : cd 201 5 = some (.iload_n 2, 1, 0, 0, 0, []) := rfl
theorem cd_201_6 : cd 201 6 = some (.iload_n 3, 1, 0, 0, 0, []) := rfl
theorem cd_201_7 : cd 201 7 = some (.if_icmp .ge 13, 3, 0, 0, 0, []) := rfl
theorem cd_201_10 : cd 201 10 = some (.aload_n 0, 1, 0, 0, 0, []) := rfl
theorem cd_201_11 : cd 201 11 = some (.iload_n 2, 1, 0, 0, 0, []) := rfl
theorem cd_201_12 : cd 201 12 = some (.iload_n 1, 1, 0, 0, 0, []) := rfl
theorem cd_201_13 : cd 201 13 = some (.iastore, 1, 0, 0, 0, []) := rfl
theorem cd_201_14 : cd 201 14 = some (.iinc 2 1, 3, 0, 0, 0, []) := rfl
theorem cd_201_17 : cd 201 17 = some (.goto (-12), 3, 0, 0, 0, []) := rfl
theorem cd_201_20 : cd 201 20 = some (.return_, 1, 0, 0, 0, []) := rfl
end
section
/-! ===== the code table, row by row: by program (wip/p28/gen4.py) ===== -/
theorem cd_80_0 : cd 80 0 = some (.aload_n 0, 1, 0, 0, 0, []) := rfl
theorem cd_80_1 : cd 80 1 = some (.invokespecial 3, 3, 0, 1, 6, []) := rfl
theorem cd_80_4 : cd 80 4 = some (.aload_n 0, 1, 0, 0, 0, []) := rfl
theorem cd_80_5 : cd 80 5 = some (.new 9, 3, 5, 0, 0, []) := rfl
theorem cd_80_8 : cd 80 8 = some (.dup, 1, 0, 0, 0, []) := rfl
theorem cd_80_9 : cd 80 9 = some (.invokespecial 11, 3, 46, 1, 4, []) := rfl
theorem cd_80_12 : cd 80 12 = some (.putfield 12, 3, 8, 0, 0, []) := rfl
theorem cd_80_15 : cd 80 15 = some (.aload_n 0, 1, 0, 0, 0, []) := rfl
theorem cd_80_16 : cd 80 16 = some (.new 16, 3, 7, 0, 0, []) := rfl
theorem cd_80_19 : cd 80 19 = some (.dup, 1, 0, 0, 0, []) := rfl
theorem cd_80_20 : cd 80 20 = some (.invokespecial 18, 3, 69, 1, 5, []) := rfl
theorem cd_80_23 : cd 80 23 = some (.putfield 19, 3, 8, 1, 0, []) := rfl
theorem cd_80_26 : cd 80 26 = some (.aload_n 0, 1, 0, 0, 0, []) := rfl
theorem cd_80_27 : cd 80 27 = some (.new 23, 3, 2, 0, 0, []) := rfl
theorem cd_80_30 : cd 80 30 = some (.dup, 1, 0, 0, 0, []) := rfl
theorem cd_80_31 : cd 80 31 = some (.invokespecial 25, 3, 25, 1, 4, []) := rfl
theorem cd_80_34 : cd 80 34 = some (.putfield 26, 3, 8, 2, 0, []) := rfl
theorem cd_80_37 : cd 80 37 = some (.aload_n 0, 1, 0, 0, 0, []) := rfl
theorem cd_80_38 : cd 80 38 = some (.new 30, 3, 0, 0, 0, []) := rfl
theorem cd_80_41 : cd 80 41 = some (.dup, 1, 0, 0, 0, []) := rfl
theorem cd_80_42 : cd 80 42 = some (.invokespecial 32, 3, 0, 1, 5, []) := rfl
theorem cd_80_45 : cd 80 45 = some (.putfield 33, 3, 8, 3, 0, []) := rfl
theorem cd_80_48 : cd 80 48 = some (.aload_n 0, 1, 0, 0, 0, []) := rfl
theorem cd_80_49 : cd 80 49 = some (.new 37, 3, 4, 0, 0, []) := rfl
theorem cd_80_52 : cd 80 52 = some (.dup, 1, 0, 0, 0, []) := rfl
theorem cd_80_53 : cd 80 53 = some (.invokespecial 39, 3, 38, 1, 5, []) := rfl
theorem cd_80_56 : cd 80 56 = some (.putfield 40, 3, 8, 4, 0, []) := rfl
theorem cd_80_59 : cd 80 59 = some (.aload_n 0, 1, 0, 0, 0, []) := rfl
theorem cd_80_60 : cd 80 60 = some (.new 44, 3, 3, 0, 0, []) := rfl
theorem cd_80_63 : cd 80 63 = some (.dup, 1, 0, 0, 0, []) := rfl
theorem cd_80_64 : cd 80 64 = some (.invokespecial 46, 3, 30, 1, 5, []) := rfl
theorem cd_80_67 : cd 80 67 = some (.putfield 47, 3, 8, 5, 0, []) := rfl
theorem cd_80_70 : cd 80 70 = some (.aload_n 0, 1, 0, 0, 0, []) := rfl
theorem cd_80_71 : cd 80 71 = some (.new 44, 3, 3, 0, 0, []) := rfl
theorem cd_80_74 : cd 80 74 = some (.dup, 1, 0, 0, 0, []) := rfl
theorem cd_80_75 : cd 80 75 = some (.invokespecial 46, 3, 30, 1, 5, []) := rfl
theorem cd_80_78 : cd 80 78 = some (.putfield 51, 3, 8, 6, 0, []) := rfl
theorem cd_80_81 : cd 80 81 = some (.aload_n 0, 1, 0, 0, 0, []) := rfl
theorem cd_80_82 : cd 80 82 = some (.new 54, 3, 6, 0, 0, []) := rfl
theorem cd_80_85 : cd 80 85 = some (.dup, 1, 0, 0, 0, []) := rfl
theorem cd_80_86 : cd 80 86 = some (.invokespecial 56, 3, 62, 1, 5, []) := rfl
theorem cd_80_89 : cd 80 89 = some (.putfield 57, 3, 8, 7, 0, []) := rfl
theorem cd_80_92 : cd 80 92 = some (.aload_n 0, 1, 0, 0, 0, []) := rfl
theorem cd_80_93 : cd 80 93 = some (.getfield 33, 3, 8, 3, 0, []) := rfl
theorem cd_80_96 : cd 80 96 = some (.aload_n 0, 1, 0, 0, 0, []) := rfl
theorem cd_80_97 : cd 80 97 = some (.getfield 12, 3, 8, 0, 0, []) := rfl
theorem cd_80_100 : cd 80 100 = some (.invokevirtual 61, 3, 1, 2, 0, []) := rfl
theorem cd_80_103 : cd 80 103 = some (.return_, 1, 0, 0, 0, []) := rfl
theorem cd_81_0 : cd 81 0 = some (.iload_n 1, 1, 0, 0, 0, []) := rfl
theorem cd_81_1 : cd 81 1 = some (.invokestatic 65, 3, 117, 1, 2, []) := rfl
theorem cd_81_4 : cd 81 4 = some (.ifCond .eq 10, 3, 0, 0, 0, []) := rfl
theorem cd_81_7 : cd 81 7 = some (.iload_n 2, 1, 0, 0, 0, []) := rfl
theorem cd_81_8 : cd 81 8 = some (.invokestatic 65, 3, 117, 1, 2, []) := rfl
theorem cd_81_11 : cd 81 11 = some (.ifCond .ne 13, 3, 0, 0, 0, []) := rfl
theorem cd_81_14 : cd 81 14 = some (.new 69, 3, 0, 0, 1, []) := rfl
theorem cd_81_24 : cd 81 24 = some (.aload_n 0, 1, 0, 0, 0, []) := rfl
theorem cd_81_25 : cd 81 25 = some (.invokevirtual 76, 3, 106, 1, 0, []) := rfl
theorem cd_81_28 : cd 81 28 = some (.aload_n 0, 1, 0, 0, 0, []) := rfl
theorem cd_81_29 : cd 81 29 = some (.getfield 12, 3, 8, 0, 0, []) := rfl
theorem cd_81_32 : cd 81 32 = some (.iload_n 1, 1, 0, 0, 0, []) := rfl
theorem cd_81_33 : cd 81 33 = some (.iload_n 2, 1, 0, 0, 0, []) := rfl
theorem cd_81_34 : cd 81 34 = some (.invokevirtual 79, 3, 47, 3, 0, []) := rfl
theorem cd_81_37 : cd 81 37 = some (.aload_n 0, 1, 0, 0, 0, []) := rfl
theorem cd_81_38 : cd 81 38 = some (.getfield 33, 3, 8, 3, 0, []) := rfl
theorem cd_81_41 : cd 81 41 = some (.aload_n 0, 1, 0, 0, 0, []) := rfl
theorem cd_81_42 : cd 81 42 = some (.getfield 12, 3, 8, 0, 0, []) := rfl
theorem cd_81_45 : cd 81 45 = some (.invokevirtual 61, 3, 1, 2, 0, []) := rfl
theorem cd_81_48 : cd 81 48 = some (.aload_n 0, 1, 0, 0, 0, []) := rfl
theorem cd_81_49 : cd 81 49 = some (.getfield 12, 3, 8, 0, 0, []) := rfl
theorem cd_81_52 : cd 81 52 = some (.invokevirtual 83, 3, 50, 1, 0, []) := rfl
theorem cd_81_55 : cd 81 55 = some (.ireturn, 1, 0, 0, 0, []) := rfl
theorem cd_82_0 : cd 82 0 = some (.aload_n 0, 1, 0, 0, 0, []) := rfl
theorem cd_82_1 : cd 82 1 = some (.getfield 12, 3, 8, 0, 0, []) := rfl
theorem cd_82_4 : cd 82 4 = some (.iload_n 1, 1, 0, 0, 0, []) := rfl
theorem cd_82_5 : cd 82 5 = some (.invokevirtual 87, 3, 51, 2, 0, []) := rfl
theorem cd_82_8 : cd 82 8 = some (.ifCond .ne 13, 3, 0, 0, 0, []) := rfl
theorem cd_82_11 : cd 82 11 = some (.new 90, 3, 1, 0, 1, []) := rfl
theorem cd_82_21 : cd 82 21 = some (.iload_n 2, 1, 0, 0, 0, []) := rfl
theorem cd_82_22 : cd 82 22 = some (.invokestatic 95, 3, 122, 1, 2, []) := rfl
theorem cd_82_25 : cd 82 25 = some (.ifCond .ne 13, 3, 0, 0, 0, []) := rfl
theorem cd_82_28 : cd 82 28 = some (.new 69, 3, 0, 0, 1, []) := rfl
theorem cd_82_38 : cd 82 38 = some (.aload_n 0, 1, 0, 0, 0, []) := rfl
theorem cd_82_39 : cd 82 39 = some (.invokevirtual 76, 3, 106, 1, 0, []) := rfl
theorem cd_82_42 : cd 82 42 = some (.aload_n 0, 1, 0, 0, 0, []) := rfl
theorem cd_82_43 : cd 82 43 = some (.getfield 12, 3, 8, 0, 0, []) := rfl
theorem cd_82_46 : cd 82 46 = some (.iload_n 1, 1, 0, 0, 0, []) := rfl
theorem cd_82_47 : cd 82 47 = some (.invokevirtual 100, 3, 53, 2, 0, []) := rfl
theorem cd_82_50 : cd 82 50 = some (.istore_n 3, 1, 0, 0, 0, []) := rfl
theorem cd_82_51 : cd 82 51 = some (.aload_n 0, 1, 0, 0, 0, []) := rfl
theorem cd_82_52 : cd 82 52 = some (.getfield 12, 3, 8, 0, 0, []) := rfl
theorem cd_82_55 : cd 82 55 = some (.iload_n 1, 1, 0, 0, 0, []) := rfl
theorem cd_82_56 : cd 82 56 = some (.iload_n 2, 1, 0, 0, 0, []) := rfl
theorem cd_82_57 : cd 82 57 = some (.invokevirtual 104, 3, 54, 3, 0, []) := rfl
theorem cd_82_60 : cd 82 60 = some (.aload_n 0, 1, 0, 0, 0, []) := rfl
theorem cd_82_61 : cd 82 61 = some (.getfield 33, 3, 8, 3, 0, []) := rfl
theorem cd_82_64 : cd 82 64 = some (.aload_n 0, 1, 0, 0, 0, []) := rfl
theorem cd_82_65 : cd 82 65 = some (.getfield 12, 3, 8, 0, 0, []) := rfl
theorem cd_82_68 : cd 82 68 = some (.invokevirtual 61, 3, 1, 2, 0, []) := rfl
theorem cd_82_71 : cd 82 71 = some (.iload_n 3, 1, 0, 0, 0, []) := rfl
theorem cd_82_72 : cd 82 72 = some (.ireturn, 1, 0, 0, 0, []) := rfl
theorem cd_83_0 : cd 83 0 = some (.aload_n 0, 1, 0, 0, 0, []) := rfl
theorem cd_83_1 : cd 83 1 = some (.invokevirtual 76, 3, 106, 1, 0, []) := rfl
theorem cd_83_4 : cd 83 4 = some (.aload_n 0, 1, 0, 0, 0, []) := rfl
theorem cd_83_5 : cd 83 5 = some (.getfield 12, 3, 8, 0, 0, []) := rfl
theorem cd_83_8 : cd 83 8 = some (.invokevirtual 107, 3, 55, 1, 0, []) := rfl
theorem cd_83_11 : cd 83 11 = some (.aload_n 0, 1, 0, 0, 0, []) := rfl
theorem cd_83_12 : cd 83 12 = some (.getfield 33, 3, 8, 3, 0, []) := rfl
theorem cd_83_15 : cd 83 15 = some (.aload_n 0, 1, 0, 0, 0, []) := rfl
theorem cd_83_16 : cd 83 16 = some (.getfield 12, 3, 8, 0, 0, []) := rfl
theorem cd_83_19 : cd 83 19 = some (.invokevirtual 61, 3, 1, 2, 0, []) := rfl
theorem cd_83_22 : cd 83 22 = some (.aload_n 0, 1, 0, 0, 0, []) := rfl
theorem cd_83_23 : cd 83 23 = some (.getfield 12, 3, 8, 0, 0, []) := rfl
theorem cd_83_26 : cd 83 26 = some (.invokevirtual 110, 3, 60, 1, 0, []) := rfl
theorem cd_83_29 : cd 83 29 = some (.ireturn, 1, 0, 0, 0, []) := rfl
theorem cd_84_0 : cd 84 0 = some (.aload_n 0, 1, 0, 0, 0, []) := rfl
theorem cd_84_1 : cd 84 1 = some (.invokevirtual 76, 3, 106, 1, 0, []) := rfl
theorem cd_84_4 : cd 84 4 = some (.aload_n 0, 1, 0, 0, 0, []) := rfl
theorem cd_84_5 : cd 84 5 = some (.getfield 12, 3, 8, 0, 0, []) := rfl
theorem cd_84_8 : cd 84 8 = some (.invokevirtual 113, 3, 56, 1, 0, []) := rfl
theorem cd_84_11 : cd 84 11 = some (.aload_n 0, 1, 0, 0, 0, []) := rfl
theorem cd_84_12 : cd 84 12 = some (.getfield 33, 3, 8, 3, 0, []) := rfl
theorem cd_84_15 : cd 84 15 = some (.aload_n 0, 1, 0, 0, 0, []) := rfl
theorem cd_84_16 : cd 84 16 = some (.getfield 12, 3, 8, 0, 0, []) := rfl
theorem cd_84_19 : cd 84 19 = some (.invokevirtual 61, 3, 1, 2, 0, []) := rfl
theorem cd_84_22 : cd 84 22 = some (.aload_n 0, 1, 0, 0, 0, []) := rfl
theorem cd_84_23 : cd 84 23 = some (.getfield 12, 3, 8, 0, 0, []) := rfl
theorem cd_84_26 : cd 84 26 = some (.invokevirtual 83, 3, 50, 1, 0, []) := rfl
theorem cd_84_29 : cd 84 29 = some (.ireturn, 1, 0, 0, 0, []) := rfl
theorem cd_85_0 : cd 85 0 = some (.aload_n 0, 1, 0, 0, 0, []) := rfl
theorem cd_85_1 : cd 85 1 = some (.getfield 57, 3, 8, 7, 0, []) := rfl
theorem cd_85_4 : cd 85 4 = some (.invokevirtual 116, 3, 65, 1, 0, []) := rfl
theorem cd_85_7 : cd 85 7 = some (.ifCond .eq 39, 3, 0, 0, 0, []) := rfl
theorem cd_85_10 : cd 85 10 = some (.aload_n 0, 1, 0, 0, 0, []) := rfl
theorem cd_85_11 : cd 85 11 = some (.getfield 19, 3, 8, 1, 0, []) := rfl
theorem cd_85_14 : cd 85 14 = some (.invokevirtual 120, 3, 72, 1, 0, []) := rfl
theorem cd_85_17 : cd 85 17 = some (.ifCond .ne 29, 3, 0, 0, 0, []) := rfl
theorem cd_85_20 : cd 85 20 = some (.aload_n 0, 1, 0, 0, 0, []) := rfl
theorem cd_85_21 : cd 85 21 = some (.getfield 19, 3, 8, 1, 0, []) := rfl
theorem cd_85_24 : cd 85 24 = some (.aload_n 0, 1, 0, 0, 0, []) := rfl
theorem cd_85_25 : cd 85 25 = some (.getfield 57, 3, 8, 7, 0, []) := rfl
theorem cd_85_28 : cd 85 28 = some (.getfield 123, 3, 6, 0, 1, []) := rfl
theorem cd_85_31 : cd 85 31 = some (.iconst 0, 1, 0, 0, 0, []) := rfl
theorem cd_85_32 : cd 85 32 = some (.aload_n 0, 1, 0, 0, 0, []) := rfl
theorem cd_85_33 : cd 85 33 = some (.getfield 57, 3, 8, 7, 0, []) := rfl
theorem cd_85_36 : cd 85 36 = some (.getfield 127, 3, 6, 1, 1, []) := rfl
theorem cd_85_39 : cd 85 39 = some (.invokevirtual 131, 3, 77, 4, 0, []) := rfl
theorem cd_85_42 : cd 85 42 = some (.iconst (-1), 1, 0, 0, 0, []) := rfl
theorem cd_85_43 : cd 85 43 = some (.if_icmp .eq 13, 3, 0, 0, 0, []) := rfl
theorem cd_85_46 : cd 85 46 = some (.new 135, 3, 2, 0, 1, []) := rfl
theorem cd_85_56 : cd 85 56 = some (.aload_n 0, 1, 0, 0, 0, []) := rfl
theorem cd_85_57 : cd 85 57 = some (.invokevirtual 76, 3, 106, 1, 0, []) := rfl
theorem cd_85_60 : cd 85 60 = some (.aload_n 0, 1, 0, 0, 0, []) := rfl
theorem cd_85_61 : cd 85 61 = some (.getfield 19, 3, 8, 1, 0, []) := rfl
theorem cd_85_64 : cd 85 64 = some (.aload_n 0, 1, 0, 0, 0, []) := rfl
theorem cd_85_65 : cd 85 65 = some (.getfield 57, 3, 8, 7, 0, []) := rfl
theorem cd_85_68 : cd 85 68 = some (.getfield 123, 3, 6, 0, 1, []) := rfl
theorem cd_85_71 : cd 85 71 = some (.aload_n 0, 1, 0, 0, 0, []) := rfl
theorem cd_85_72 : cd 85 72 = some (.getfield 57, 3, 8, 7, 0, []) := rfl
theorem cd_85_75 : cd 85 75 = some (.getfield 127, 3, 6, 1, 1, []) := rfl
theorem cd_85_78 : cd 85 78 = some (.invokevirtual 140, 3, 75, 3, 0, []) := rfl
theorem cd_85_81 : cd 85 81 = some (.ireturn, 1, 0, 0, 0, []) := rfl
theorem cd_86_0 : cd 86 0 = some (.aload_n 0, 1, 0, 0, 0, []) := rfl
theorem cd_86_1 : cd 86 1 = some (.getfield 19, 3, 8, 1, 0, []) := rfl
theorem cd_86_4 : cd 86 4 = some (.iload_n 1, 1, 0, 0, 0, []) := rfl
theorem cd_86_5 : cd 86 5 = some (.invokevirtual 144, 3, 71, 2, 0, []) := rfl
theorem cd_86_8 : cd 86 8 = some (.ifCond .ne 13, 3, 0, 0, 0, []) := rfl
theorem cd_86_11 : cd 86 11 = some (.new 90, 3, 1, 0, 1, []) := rfl
theorem cd_86_21 : cd 86 21 = some (.aload_n 0, 1, 0, 0, 0, []) := rfl
theorem cd_86_22 : cd 86 22 = some (.invokevirtual 76, 3, 106, 1, 0, []) := rfl
theorem cd_86_25 : cd 86 25 = some (.aload_n 0, 1, 0, 0, 0, []) := rfl
theorem cd_86_26 : cd 86 26 = some (.getfield 19, 3, 8, 1, 0, []) := rfl
theorem cd_86_29 : cd 86 29 = some (.iload_n 1, 1, 0, 0, 0, []) := rfl
theorem cd_86_30 : cd 86 30 = some (.invokevirtual 149, 3, 76, 2, 0, []) := rfl
theorem cd_86_33 : cd 86 33 = some (.aload_n 0, 1, 0, 0, 0, []) := rfl
theorem cd_86_34 : cd 86 34 = some (.getfield 19, 3, 8, 1, 0, []) := rfl
theorem cd_86_37 : cd 86 37 = some (.getfield 153, 3, 7, 0, 1, []) := rfl
theorem cd_86_40 : cd 86 40 = some (.ireturn, 1, 0, 0, 0, []) := rfl
theorem cd_87_0 : cd 87 0 = some (.aload_n 0, 1, 0, 0, 0, []) := rfl
theorem cd_87_1 : cd 87 1 = some (.getfield 12, 3, 8, 0, 0, []) := rfl
theorem cd_87_4 : cd 87 4 = some (.iload_n 1, 1, 0, 0, 0, []) := rfl
theorem cd_87_5 : cd 87 5 = some (.invokevirtual 87, 3, 51, 2, 0, []) := rfl
theorem cd_87_8 : cd 87 8 = some (.ifCond .ne 13, 3, 0, 0, 0, []) := rfl
theorem cd_87_11 : cd 87 11 = some (.new 90, 3, 1, 0, 1, []) := rfl
theorem cd_87_21 : cd 87 21 = some (.iload_n 2, 1, 0, 0, 0, []) := rfl
theorem cd_87_22 : cd 87 22 = some (.iconst 0, 1, 0, 0, 0, []) := rfl
theorem cd_87_23 : cd 87 23 = some (.iconst 4, 1, 0, 0, 0, []) := rfl
theorem cd_87_24 : cd 87 24 = some (.invokestatic 156, 3, 116, 3, 2, []) := rfl
theorem cd_87_27 : cd 87 27 = some (.ifCond .ne 13, 3, 0, 0, 0, []) := rfl
theorem cd_87_30 : cd 87 30 = some (.new 69, 3, 0, 0, 1, []) := rfl
theorem cd_87_40 : cd 87 40 = some (.aload_n 0, 1, 0, 0, 0, []) := rfl
theorem cd_87_41 : cd 87 41 = some (.iload_n 1, 1, 0, 0, 0, []) := rfl
theorem cd_87_42 : cd 87 42 = some (.iload_n 2, 1, 0, 0, 0, []) := rfl
theorem cd_87_43 : cd 87 43 = some (.invokevirtual 162, 3, 107, 3, 0, []) := rfl
theorem cd_87_46 : cd 87 46 = some (.ireturn, 1, 0, 0, 0, []) := rfl
theorem cd_88_0 : cd 88 0 = some (.iload_n 1, 1, 0, 0, 0, []) := rfl
theorem cd_88_1 : cd 88 1 = some (.iconst 0, 1, 0, 0, 0, []) := rfl
theorem cd_88_2 : cd 88 2 = some (.bipush 9, 2, 0, 0, 0, []) := rfl
theorem cd_88_4 : cd 88 4 = some (.invokestatic 156, 3, 116, 3, 2, []) := rfl
theorem cd_88_7 : cd 88 7 = some (.ifCond .ne 13, 3, 0, 0, 0, []) := rfl
theorem cd_88_10 : cd 88 10 = some (.new 69, 3, 0, 0, 1, []) := rfl
theorem cd_88_20 : cd 88 20 = some (.aload_n 0, 1, 0, 0, 0, []) := rfl
theorem cd_88_21 : cd 88 21 = some (.iload_n 1, 1, 0, 0, 0, []) := rfl
theorem cd_88_22 : cd 88 22 = some (.invokevirtual 166, 3, 108, 2, 0, []) := rfl
theorem cd_88_25 : cd 88 25 = some (.ireturn, 1, 0, 0, 0, []) := rfl
theorem cd_89_0 : cd 89 0 = some (.aload_n 0, 1, 0, 0, 0, []) := rfl
theorem cd_89_1 : cd 89 1 = some (.getfield 19, 3, 8, 1, 0, []) := rfl
theorem cd_89_4 : cd 89 4 = some (.iload_n 1, 1, 0, 0, 0, []) := rfl
theorem cd_89_5 : cd 89 5 = some (.invokevirtual 144, 3, 71, 2, 0, []) := rfl
theorem cd_89_8 : cd 89 8 = some (.ifCond .eq 7, 3, 0, 0, 0, []) := rfl
theorem cd_89_11 : cd 89 11 = some (.iload_n 2, 1, 0, 0, 0, []) := rfl
theorem cd_89_12 : cd 89 12 = some (.ifCond .ge 13, 3, 0, 0, 0, []) := rfl
theorem cd_89_15 : cd 89 15 = some (.new 90, 3, 1, 0, 1, []) := rfl
theorem cd_89_25 : cd 89 25 = some (.aload_n 0, 1, 0, 0, 0, []) := rfl
theorem cd_89_26 : cd 89 26 = some (.getfield 19, 3, 8, 1, 0, []) := rfl
theorem cd_89_29 : cd 89 29 = some (.iload_n 1, 1, 0, 0, 0, []) := rfl
theorem cd_89_30 : cd 89 30 = some (.iload_n 2, 1, 0, 0, 0, []) := rfl
theorem cd_89_31 : cd 89 31 = some (.invokevirtual 171, 3, 73, 3, 0, []) := rfl
theorem cd_89_34 : cd 89 34 = some (.ireturn, 1, 0, 0, 0, []) := rfl
theorem cd_90_0 : cd 90 0 = some (.aload_n 0, 1, 0, 0, 0, []) := rfl
theorem cd_90_1 : cd 90 1 = some (.getfield 12, 3, 8, 0, 0, []) := rfl
theorem cd_90_4 : cd 90 4 = some (.iload_n 1, 1, 0, 0, 0, []) := rfl
theorem cd_90_5 : cd 90 5 = some (.invokevirtual 174, 3, 52, 2, 0, []) := rfl
theorem cd_90_8 : cd 90 8 = some (.ifCond .ne 13, 3, 0, 0, 0, []) := rfl
theorem cd_90_11 : cd 90 11 = some (.new 90, 3, 1, 0, 1, []) := rfl
theorem cd_90_21 : cd 90 21 = some (.iload_n 2, 1, 0, 0, 0, []) := rfl
theorem cd_90_22 : cd 90 22 = some (.iconst 0, 1, 0, 0, 0, []) := rfl
theorem cd_90_23 : cd 90 23 = some (.bipush 6, 2, 0, 0, 0, []) := rfl
theorem cd_90_25 : cd 90 25 = some (.invokestatic 156, 3, 116, 3, 2, []) := rfl
theorem cd_90_28 : cd 90 28 = some (.ifCond .ne 13, 3, 0, 0, 0, []) := rfl
theorem cd_90_31 : cd 90 31 = some (.new 69, 3, 0, 0, 1, []) := rfl
theorem cd_90_41 : cd 90 41 = some (.aload_n 0, 1, 0, 0, 0, []) := rfl
theorem cd_90_42 : cd 90 42 = some (.iload_n 1, 1, 0, 0, 0, []) := rfl
theorem cd_90_43 : cd 90 43 = some (.iload_n 2, 1, 0, 0, 0, []) := rfl
theorem cd_90_44 : cd 90 44 = some (.invokevirtual 179, 3, 109, 3, 0, []) := rfl
theorem cd_90_47 : cd 90 47 = some (.ireturn, 1, 0, 0, 0, []) := rfl
theorem cd_91_0 : cd 91 0 = some (.aload_n 0, 1, 0, 0, 0, []) := rfl
theorem cd_91_1 : cd 91 1 = some (.getfield 12, 3, 8, 0, 0, []) := rfl
theorem cd_91_4 : cd 91 4 = some (.iload_n 1, 1, 0, 0, 0, []) := rfl
theorem cd_91_5 : cd 91 5 = some (.invokevirtual 174, 3, 52, 2, 0, []) := rfl
theorem cd_91_8 : cd 91 8 = some (.ifCond .eq 19, 3, 0, 0, 0, []) := rfl
theorem cd_91_11 : cd 91 11 = some (.iload_n 2, 1, 0, 0, 0, []) := rfl
theorem cd_91_12 : cd 91 12 = some (.ifCond .lt 15, 3, 0, 0, 0, []) := rfl
theorem cd_91_15 : cd 91 15 = some (.iload_n 2, 1, 0, 0, 0, []) := rfl
theorem cd_91_16 : cd 91 16 = some (.aload_n 0, 1, 0, 0, 0, []) := rfl
theorem cd_91_17 : cd 91 17 = some (.getfield 33, 3, 8, 3, 0, []) := rfl
theorem cd_91_20 : cd 91 20 = some (.iload_n 1, 1, 0, 0, 0, []) := rfl
theorem cd_91_21 : cd 91 21 = some (.invokevirtual 182, 3, 9, 2, 0, []) := rfl
theorem cd_91_24 : cd 91 24 = some (.if_icmp .lt 13, 3, 0, 0, 0, []) := rfl
theorem cd_91_27 : cd 91 27 = some (.new 90, 3, 1, 0, 1, []) := rfl
theorem cd_91_37 : cd 91 37 = some (.aload_n 0, 1, 0, 0, 0, []) := rfl
theorem cd_91_38 : cd 91 38 = some (.getfield 33, 3, 8, 3, 0, []) := rfl
theorem cd_91_41 : cd 91 41 = some (.iload_n 1, 1, 0, 0, 0, []) := rfl
theorem cd_91_42 : cd 91 42 = some (.iload_n 2, 1, 0, 0, 0, []) := rfl
theorem cd_91_43 : cd 91 43 = some (.invokevirtual 187, 3, 14, 3, 0, []) := rfl
theorem cd_91_46 : cd 91 46 = some (.ireturn, 1, 0, 0, 0, []) := rfl
theorem cd_92_0 : cd 92 0 = some (.aload_n 0, 1, 0, 0, 0, []) := rfl
theorem cd_92_1 : cd 92 1 = some (.getfield 12, 3, 8, 0, 0, []) := rfl
theorem cd_92_4 : cd 92 4 = some (.iload_n 1, 1, 0, 0, 0, []) := rfl
theorem cd_92_5 : cd 92 5 = some (.invokevirtual 174, 3, 52, 2, 0, []) := rfl
theorem cd_92_8 : cd 92 8 = some (.ifCond .eq 7, 3, 0, 0, 0, []) := rfl
theorem cd_92_11 : cd 92 11 = some (.iload_n 2, 1, 0, 0, 0, []) := rfl
theorem cd_92_12 : cd 92 12 = some (.ifCond .ge 13, 3, 0, 0, 0, []) := rfl
theorem cd_92_15 : cd 92 15 = some (.new 90, 3, 1, 0, 1, []) := rfl
theorem cd_92_25 : cd 92 25 = some (.aload_n 0, 1, 0, 0, 0, []) := rfl
theorem cd_92_26 : cd 92 26 = some (.getfield 47, 3, 8, 5, 0, []) := rfl
theorem cd_92_29 : cd 92 29 = some (.aload_n 0, 1, 0, 0, 0, []) := rfl
theorem cd_92_30 : cd 92 30 = some (.getfield 12, 3, 8, 0, 0, []) := rfl
theorem cd_92_33 : cd 92 33 = some (.aload_n 0, 1, 0, 0, 0, []) := rfl
theorem cd_92_34 : cd 92 34 = some (.getfield 33, 3, 8, 3, 0, []) := rfl
theorem cd_92_37 : cd 92 37 = some (.iload_n 1, 1, 0, 0, 0, []) := rfl
theorem cd_92_38 : cd 92 38 = some (.invokevirtual 192, 3, 31, 4, 0, []) := rfl
theorem cd_92_41 : cd 92 41 = some (.aload_n 0, 1, 0, 0, 0, []) := rfl
theorem cd_92_42 : cd 92 42 = some (.getfield 47, 3, 8, 5, 0, []) := rfl
theorem cd_92_45 : cd 92 45 = some (.iload_n 2, 1, 0, 0, 0, []) := rfl
theorem cd_92_46 : cd 92 46 = some (.invokevirtual 196, 3, 35, 2, 0, []) := rfl
theorem cd_92_49 : cd 92 49 = some (.ireturn, 1, 0, 0, 0, []) := rfl
theorem cd_93_0 : cd 93 0 = some (.aload_n 0, 1, 0, 0, 0, []) := rfl
theorem cd_93_1 : cd 93 1 = some (.getfield 12, 3, 8, 0, 0, []) := rfl
theorem cd_93_4 : cd 93 4 = some (.iload_n 1, 1, 0, 0, 0, []) := rfl
theorem cd_93_5 : cd 93 5 = some (.invokevirtual 174, 3, 52, 2, 0, []) := rfl
theorem cd_93_8 : cd 93 8 = some (.ifCond .ne 13, 3, 0, 0, 0, []) := rfl
theorem cd_93_11 : cd 93 11 = some (.new 90, 3, 1, 0, 1, []) := rfl
theorem cd_93_21 : cd 93 21 = some (.aload_n 0, 1, 0, 0, 0, []) := rfl
theorem cd_93_22 : cd 93 22 = some (.iload_n 1, 1, 0, 0, 0, []) := rfl
theorem cd_93_23 : cd 93 23 = some (.invokevirtual 197, 3, 110, 2, 0, []) := rfl
theorem cd_93_26 : cd 93 26 = some (.ireturn, 1, 0, 0, 0, []) := rfl
theorem cd_94_0 : cd 94 0 = some (.aload_n 0, 1, 0, 0, 0, []) := rfl
theorem cd_94_1 : cd 94 1 = some (.getfield 12, 3, 8, 0, 0, []) := rfl
theorem cd_94_4 : cd 94 4 = some (.iload_n 1, 1, 0, 0, 0, []) := rfl
theorem cd_94_5 : cd 94 5 = some (.invokevirtual 174, 3, 52, 2, 0, []) := rfl
theorem cd_94_8 : cd 94 8 = some (.ifCond .ne 13, 3, 0, 0, 0, []) := rfl
theorem cd_94_11 : cd 94 11 = some (.new 90, 3, 1, 0, 1, []) := rfl
theorem cd_94_21 : cd 94 21 = some (.aload_n 0, 1, 0, 0, 0, []) := rfl
theorem cd_94_22 : cd 94 22 = some (.getfield 33, 3, 8, 3, 0, []) := rfl
theorem cd_94_25 : cd 94 25 = some (.iload_n 1, 1, 0, 0, 0, []) := rfl
theorem cd_94_26 : cd 94 26 = some (.invokevirtual 200, 3, 8, 2, 0, []) := rfl
theorem cd_94_29 : cd 94 29 = some (.istore_n 2, 1, 0, 0, 0, []) := rfl
theorem cd_94_30 : cd 94 30 = some (.iload_n 2, 1, 0, 0, 0, []) := rfl
theorem cd_94_31 : cd 94 31 = some (.iconst (-1), 1, 0, 0, 0, []) := rfl
theorem cd_94_32 : cd 94 32 = some (.if_icmp .ne 5, 3, 0, 0, 0, []) := rfl
theorem cd_94_35 : cd 94 35 = some (.iconst 0, 1, 0, 0, 0, []) := rfl
theorem cd_94_36 : cd 94 36 = some (.ireturn, 1, 0, 0, 0, []) := rfl
theorem cd_94_37 : cd 94 37 = some (.aload_n 0, 1, 0, 0, 0, []) := rfl
theorem cd_94_38 : cd 94 38 = some (.getfield 47, 3, 8, 5, 0, []) := rfl
theorem cd_94_41 : cd 94 41 = some (.aload_n 0, 1, 0, 0, 0, []) := rfl
theorem cd_94_42 : cd 94 42 = some (.getfield 12, 3, 8, 0, 0, []) := rfl
theorem cd_94_45 : cd 94 45 = some (.aload_n 0, 1, 0, 0, 0, []) := rfl
theorem cd_94_46 : cd 94 46 = some (.getfield 33, 3, 8, 3, 0, []) := rfl
theorem cd_94_49 : cd 94 49 = some (.iload_n 1, 1, 0, 0, 0, []) := rfl
theorem cd_94_50 : cd 94 50 = some (.invokevirtual 192, 3, 31, 4, 0, []) := rfl
theorem cd_94_53 : cd 94 53 = some (.aload_n 0, 1, 0, 0, 0, []) := rfl
theorem cd_94_54 : cd 94 54 = some (.getfield 51, 3, 8, 6, 0, []) := rfl
theorem cd_94_57 : cd 94 57 = some (.aload_n 0, 1, 0, 0, 0, []) := rfl
theorem cd_94_58 : cd 94 58 = some (.getfield 12, 3, 8, 0, 0, []) := rfl
theorem cd_94_61 : cd 94 61 = some (.aload_n 0, 1, 0, 0, 0, []) := rfl
theorem cd_94_62 : cd 94 62 = some (.getfield 33, 3, 8, 3, 0, []) := rfl
theorem cd_94_65 : cd 94 65 = some (.iload_n 2, 1, 0, 0, 0, []) := rfl
theorem cd_94_66 : cd 94 66 = some (.invokevirtual 192, 3, 31, 4, 0, []) := rfl
theorem cd_94_69 : cd 94 69 = some (.aload_n 0, 1, 0, 0, 0, []) := rfl
theorem cd_94_70 : cd 94 70 = some (.getfield 47, 3, 8, 5, 0, []) := rfl
theorem cd_94_73 : cd 94 73 = some (.aload_n 0, 1, 0, 0, 0, []) := rfl
theorem cd_94_74 : cd 94 74 = some (.getfield 51, 3, 8, 6, 0, []) := rfl
theorem cd_94_77 : cd 94 77 = some (.invokevirtual 203, 3, 36, 2, 0, []) := rfl
theorem cd_94_80 : cd 94 80 = some (.ireturn, 1, 0, 0, 0, []) := rfl
theorem cd_95_0 : cd 95 0 = some (.iload_n 1, 1, 0, 0, 0, []) := rfl
theorem cd_95_1 : cd 95 1 = some (.iconst 1, 1, 0, 0, 0, []) := rfl
theorem cd_95_2 : cd 95 2 = some (.bipush 50, 2, 0, 0, 0, []) := rfl
theorem cd_95_4 : cd 95 4 = some (.invokestatic 156, 3, 116, 3, 2, []) := rfl
theorem cd_95_7 : cd 95 7 = some (.ifCond .ne 13, 3, 0, 0, 0, []) := rfl
theorem cd_95_10 : cd 95 10 = some (.new 69, 3, 0, 0, 1, []) := rfl
theorem cd_95_20 : cd 95 20 = some (.aload_n 0, 1, 0, 0, 0, []) := rfl
theorem cd_95_21 : cd 95 21 = some (.getfield 40, 3, 8, 4, 0, []) := rfl
theorem cd_95_24 : cd 95 24 = some (.aload_n 0, 1, 0, 0, 0, []) := rfl
theorem cd_95_25 : cd 95 25 = some (.getfield 12, 3, 8, 0, 0, []) := rfl
theorem cd_95_28 : cd 95 28 = some (.aload_n 0, 1, 0, 0, 0, []) := rfl
theorem cd_95_29 : cd 95 29 = some (.getfield 33, 3, 8, 3, 0, []) := rfl
theorem cd_95_32 : cd 95 32 = some (.iload_n 1, 1, 0, 0, 0, []) := rfl
theorem cd_95_33 : cd 95 33 = some (.invokevirtual 209, 3, 39, 4, 0, []) := rfl
theorem cd_95_36 : cd 95 36 = some (.aload_n 0, 1, 0, 0, 0, []) := rfl
theorem cd_95_37 : cd 95 37 = some (.getfield 40, 3, 8, 4, 0, []) := rfl
theorem cd_95_40 : cd 95 40 = some (.getfield 212, 3, 4, 8, 1, []) := rfl
theorem cd_95_43 : cd 95 43 = some (.ireturn, 1, 0, 0, 0, []) := rfl
theorem cd_96_0 : cd 96 0 = some (.iload_n 1, 1, 0, 0, 0, []) := rfl
theorem cd_96_1 : cd 96 1 = some (.iconst 1, 1, 0, 0, 0, []) := rfl
theorem cd_96_2 : cd 96 2 = some (.bipush 50, 2, 0, 0, 0, []) := rfl
theorem cd_96_4 : cd 96 4 = some (.invokestatic 156, 3, 116, 3, 2, []) := rfl
theorem cd_96_7 : cd 96 7 = some (.ifCond .ne 13, 3, 0, 0, 0, []) := rfl
theorem cd_96_10 : cd 96 10 = some (.new 69, 3, 0, 0, 1, []) := rfl
theorem cd_96_20 : cd 96 20 = some (.aload_n 0, 1, 0, 0, 0, []) := rfl
theorem cd_96_21 : cd 96 21 = some (.getfield 40, 3, 8, 4, 0, []) := rfl
theorem cd_96_24 : cd 96 24 = some (.aload_n 0, 1, 0, 0, 0, []) := rfl
theorem cd_96_25 : cd 96 25 = some (.getfield 12, 3, 8, 0, 0, []) := rfl
theorem cd_96_28 : cd 96 28 = some (.aload_n 0, 1, 0, 0, 0, []) := rfl
theorem cd_96_29 : cd 96 29 = some (.getfield 33, 3, 8, 3, 0, []) := rfl
theorem cd_96_32 : cd 96 32 = some (.iload_n 1, 1, 0, 0, 0, []) := rfl
theorem cd_96_33 : cd 96 33 = some (.invokevirtual 209, 3, 39, 4, 0, []) := rfl
theorem cd_96_36 : cd 96 36 = some (.aload_n 0, 1, 0, 0, 0, []) := rfl
theorem cd_96_37 : cd 96 37 = some (.getfield 40, 3, 8, 4, 0, []) := rfl
theorem cd_96_40 : cd 96 40 = some (.getfield 215, 3, 4, 11, 1, []) := rfl
theorem cd_96_43 : cd 96 43 = some (.ifCond .eq 9, 3, 0, 0, 0, []) := rfl
theorem cd_96_46 : cd 96 46 = some (.sipush (-2000), 3, 0, 0, 0, []) := rfl
theorem cd_96_49 : cd 96 49 = some (.goto 10, 3, 0, 0, 0, []) := rfl
theorem cd_96_52 : cd 96 52 = some (.aload_n 0, 1, 0, 0, 0, []) := rfl
theorem cd_96_53 : cd 96 53 = some (.getfield 40, 3, 8, 4, 0, []) := rfl
theorem cd_96_56 : cd 96 56 = some (.getfield 219, 3, 4, 7, 1, []) := rfl
theorem cd_96_59 : cd 96 59 = some (.ireturn, 1, 0, 0, 0, []) := rfl
theorem cd_97_0 : cd 97 0 = some (.iload_n 1, 1, 0, 0, 0, []) := rfl
theorem cd_97_1 : cd 97 1 = some (.ifCond .ge 13, 3, 0, 0, 0, []) := rfl
theorem cd_97_4 : cd 97 4 = some (.new 90, 3, 1, 0, 1, []) := rfl
theorem cd_97_14 : cd 97 14 = some (.aload_n 0, 1, 0, 0, 0, []) := rfl
theorem cd_97_15 : cd 97 15 = some (.getfield 40, 3, 8, 4, 0, []) := rfl
theorem cd_97_18 : cd 97 18 = some (.aload_n 0, 1, 0, 0, 0, []) := rfl
theorem cd_97_19 : cd 97 19 = some (.getfield 12, 3, 8, 0, 0, []) := rfl
theorem cd_97_22 : cd 97 22 = some (.aload_n 0, 1, 0, 0, 0, []) := rfl
theorem cd_97_23 : cd 97 23 = some (.getfield 33, 3, 8, 3, 0, []) := rfl
theorem cd_97_26 : cd 97 26 = some (.iconst 1, 1, 0, 0, 0, []) := rfl
theorem cd_97_27 : cd 97 27 = some (.invokevirtual 209, 3, 39, 4, 0, []) := rfl
theorem cd_97_30 : cd 97 30 = some (.aload_n 0, 1, 0, 0, 0, []) := rfl
theorem cd_97_31 : cd 97 31 = some (.getfield 40, 3, 8, 4, 0, []) := rfl
theorem cd_97_34 : cd 97 34 = some (.iload_n 1, 1, 0, 0, 0, []) := rfl
theorem cd_97_35 : cd 97 35 = some (.invokevirtual 224, 3, 45, 2, 0, []) := rfl
theorem cd_97_38 : cd 97 38 = some (.ireturn, 1, 0, 0, 0, []) := rfl
theorem cd_98_0 : cd 98 0 = some (.aload_n 0, 1, 0, 0, 0, []) := rfl
theorem cd_98_1 : cd 98 1 = some (.getfield 40, 3, 8, 4, 0, []) := rfl
theorem cd_98_4 : cd 98 4 = some (.aload_n 0, 1, 0, 0, 0, []) := rfl
theorem cd_98_5 : cd 98 5 = some (.getfield 12, 3, 8, 0, 0, []) := rfl
theorem cd_98_8 : cd 98 8 = some (.aload_n 0, 1, 0, 0, 0, []) := rfl
theorem cd_98_9 : cd 98 9 = some (.getfield 33, 3, 8, 3, 0, []) := rfl
theorem cd_98_12 : cd 98 12 = some (.bipush 50, 2, 0, 0, 0, []) := rfl
theorem cd_98_14 : cd 98 14 = some (.invokevirtual 209, 3, 39, 4, 0, []) := rfl
theorem cd_98_17 : cd 98 17 = some (.aload_n 0, 1, 0, 0, 0, []) := rfl
theorem cd_98_18 : cd 98 18 = some (.getfield 40, 3, 8, 4, 0, []) := rfl
theorem cd_98_21 : cd 98 21 = some (.getfield 227, 3, 4, 10, 1, []) := rfl
theorem cd_98_24 : cd 98 24 = some (.ireturn, 1, 0, 0, 0, []) := rfl
theorem cd_99_0 : cd 99 0 = some (.iconst (-1), 1, 0, 0, 0, []) := rfl
theorem cd_99_1 : cd 99 1 = some (.istore_n 1, 1, 0, 0, 0, []) := rfl
theorem cd_99_2 : cd 99 2 = some (.iconst 0, 1, 0, 0, 0, []) := rfl
theorem cd_99_3 : cd 99 3 = some (.istore_n 2, 1, 0, 0, 0, []) := rfl
theorem cd_99_4 : cd 99 4 = some (.iload_n 2, 1, 0, 0, 0, []) := rfl
theorem cd_99_5 : cd 99 5 = some (.aload_n 0, 1, 0, 0, 0, []) := rfl
theorem cd_99_6 : cd 99 6 = some (.getfield 12, 3, 8, 0, 0, []) := rfl
theorem cd_99_9 : cd 99 9 = some (.invokevirtual 230, 3, 49, 1, 0, []) := rfl
theorem cd_99_12 : cd 99 12 = some (.if_icmp .ge 33, 3, 0, 0, 0, []) := rfl
theorem cd_99_15 : cd 99 15 = some (.iload_n 1, 1, 0, 0, 0, []) := rfl
theorem cd_99_16 : cd 99 16 = some (.iconst (-1), 1, 0, 0, 0, []) := rfl
theorem cd_99_17 : cd 99 17 = some (.if_icmp .ne 28, 3, 0, 0, 0, []) := rfl
theorem cd_99_20 : cd 99 20 = some (.aload_n 0, 1, 0, 0, 0, []) := rfl
theorem cd_99_21 : cd 99 21 = some (.getfield 12, 3, 8, 0, 0, []) := rfl
theorem cd_99_24 : cd 99 24 = some (.iload_n 2, 1, 0, 0, 0, []) := rfl
theorem cd_99_25 : cd 99 25 = some (.invokevirtual 100, 3, 53, 2, 0, []) := rfl
theorem cd_99_28 : cd 99 28 = some (.bipush 35, 2, 0, 0, 0, []) := rfl
theorem cd_99_30 : cd 99 30 = some (.if_icmp .ne 9, 3, 0, 0, 0, []) := rfl
theorem cd_99_33 : cd 99 33 = some (.aload_n 0, 1, 0, 0, 0, []) := rfl
theorem cd_99_34 : cd 99 34 = some (.iload_n 2, 1, 0, 0, 0, []) := rfl
theorem cd_99_35 : cd 99 35 = some (.invokevirtual 233, 3, 111, 2, 0, []) := rfl
theorem cd_99_38 : cd 99 38 = some (.istore_n 1, 1, 0, 0, 0, []) := rfl
theorem cd_99_39 : cd 99 39 = some (.iinc 2 1, 3, 0, 0, 0, []) := rfl
theorem cd_99_42 : cd 99 42 = some (.goto (-38), 3, 0, 0, 0, []) := rfl
theorem cd_99_45 : cd 99 45 = some (.aload_n 0, 1, 0, 0, 0, []) := rfl
theorem cd_99_46 : cd 99 46 = some (.getfield 33, 3, 8, 3, 0, []) := rfl
theorem cd_99_49 : cd 99 49 = some (.aload_n 0, 1, 0, 0, 0, []) := rfl
theorem cd_99_50 : cd 99 50 = some (.getfield 12, 3, 8, 0, 0, []) := rfl
theorem cd_99_53 : cd 99 53 = some (.invokevirtual 61, 3, 1, 2, 0, []) := rfl
theorem cd_99_56 : cd 99 56 = some (.iload_n 1, 1, 0, 0, 0, []) := rfl
theorem cd_99_57 : cd 99 57 = some (.ireturn, 1, 0, 0, 0, []) := rfl
theorem cd_100_0 : cd 100 0 = some (.aload_n 0, 1, 0, 0, 0, []) := rfl
theorem cd_100_1 : cd 100 1 = some (.getfield 12, 3, 8, 0, 0, []) := rfl
theorem cd_100_4 : cd 100 4 = some (.invokevirtual 236, 3, 57, 1, 0, []) := rfl
theorem cd_100_7 : cd 100 7 = some (.lstore_n 1, 1, 0, 0, 0, []) := rfl
theorem cd_100_8 : cd 100 8 = some (.lload_n 1, 1, 0, 0, 0, []) := rfl
theorem cd_100_9 : cd 100 9 = some (.lconst 0, 1, 0, 0, 0, []) := rfl
theorem cd_100_10 : cd 100 10 = some (.lcmp, 1, 0, 0, 0, []) := rfl
theorem cd_100_11 : cd 100 11 = some (.ifCond .ne 5, 3, 0, 0, 0, []) := rfl
theorem cd_100_14 : cd 100 14 = some (.dconst 1, 1, 0, 0, 0, []) := rfl
theorem cd_100_15 : cd 100 15 = some (.dreturn, 1, 0, 0, 0, []) := rfl
theorem cd_100_16 : cd 100 16 = some (.lconst 0, 1, 0, 0, 0, []) := rfl
theorem cd_100_17 : cd 100 17 = some (.lstore_n 3, 1, 0, 0, 0, []) := rfl
theorem cd_100_18 : cd 100 18 = some (.iconst 0, 1, 0, 0, 0, []) := rfl
theorem cd_100_19 : cd 100 19 = some (.istore 5, 2, 0, 0, 0, []) := rfl
theorem cd_100_21 : cd 100 21 = some (.iload 5, 2, 0, 0, 0, [2, 4]) := rfl
theorem cd_100_23 : cd 100 23 = some (.aload_n 0, 1, 0, 0, 0, []) := rfl
theorem cd_100_24 : cd 100 24 = some (.getfield 12, 3, 8, 0, 0, []) := rfl
theorem cd_100_27 : cd 100 27 = some (.invokevirtual 83, 3, 50, 1, 0, []) := rfl
theorem cd_100_30 : cd 100 30 = some (.if_icmp .ge 30, 3, 0, 0, 0, []) := rfl
theorem cd_100_33 : cd 100 33 = some (.aload_n 0, 1, 0, 0, 0, []) := rfl
theorem cd_100_34 : cd 100 34 = some (.iload 5, 2, 0, 0, 0, []) := rfl
theorem cd_100_36 : cd 100 36 = some (.invokevirtual 197, 3, 110, 2, 0, []) := rfl
theorem cd_100_39 : cd 100 39 = some (.ifCond .lt 15, 3, 0, 0, 0, []) := rfl
theorem cd_100_42 : cd 100 42 = some (.lload_n 3, 1, 0, 0, 0, []) := rfl
theorem cd_100_43 : cd 100 43 = some (.aload_n 0, 1, 0, 0, 0, []) := rfl
theorem cd_100_44 : cd 100 44 = some (.getfield 33, 3, 8, 3, 0, []) := rfl
theorem cd_100_47 : cd 100 47 = some (.iload 5, 2, 0, 0, 0, []) := rfl
theorem cd_100_49 : cd 100 49 = some (.invokevirtual 240, 3, 13, 2, 0, []) := rfl
theorem cd_100_52 : cd 100 52 = some (.lor, 1, 0, 0, 0, []) := rfl
theorem cd_100_53 : cd 100 53 = some (.lstore_n 3, 1, 0, 0, 0, []) := rfl
theorem cd_100_54 : cd 100 54 = some (.iinc 5 1, 3, 0, 0, 0, []) := rfl
theorem cd_100_57 : cd 100 57 = some (.goto (-36), 3, 0, 0, 0, []) := rfl
theorem cd_100_60 : cd 100 60 = some (.lload_n 3, 1, 0, 0, 0, []) := rfl
theorem cd_100_61 : cd 100 61 = some (.lload_n 1, 1, 0, 0, 0, []) := rfl
theorem cd_100_62 : cd 100 62 = some (.land, 1, 0, 0, 0, []) := rfl
theorem cd_100_63 : cd 100 63 = some (.invokestatic 244, 3, 199, 1, 2, []) := rfl
theorem cd_100_66 : cd 100 66 = some (.i2d, 1, 0, 0, 0, []) := rfl
theorem cd_100_67 : cd 100 67 = some (.lload_n 1, 1, 0, 0, 0, []) := rfl
theorem cd_100_68 : cd 100 68 = some (.invokestatic 244, 3, 199, 1, 2, []) := rfl
theorem cd_100_71 : cd 100 71 = some (.i2d, 1, 0, 0, 0, []) := rfl
theorem cd_100_72 : cd 100 72 = some (.ddiv, 1, 0, 0, 0, []) := rfl
theorem cd_100_73 : cd 100 73 = some (.dreturn, 1, 0, 0, 0, []) := rfl
theorem cd_101_0 : cd 101 0 = some (.iload_n 1, 1, 0, 0, 0, []) := rfl
theorem cd_101_1 : cd 101 1 = some (.iconst 0, 1, 0, 0, 0, []) := rfl
theorem cd_101_2 : cd 101 2 = some (.bipush 127, 2, 0, 0, 0, []) := rfl
theorem cd_101_4 : cd 101 4 = some (.invokestatic 156, 3, 116, 3, 2, []) := rfl
theorem cd_101_7 : cd 101 7 = some (.ifCond .ne 13, 3, 0, 0, 0, []) := rfl
theorem cd_101_10 : cd 101 10 = some (.new 69, 3, 0, 0, 1, []) := rfl
theorem cd_101_20 : cd 101 20 = some (.aload_n 0, 1, 0, 0, 0, []) := rfl
theorem cd_101_21 : cd 101 21 = some (.getfield 57, 3, 8, 7, 0, []) := rfl
theorem cd_101_24 : cd 101 24 = some (.invokevirtual 252, 3, 63, 1, 0, []) := rfl
theorem cd_101_27 : cd 101 27 = some (.ifCond .eq 13, 3, 0, 0, 0, []) := rfl
theorem cd_101_30 : cd 101 30 = some (.new 135, 3, 2, 0, 1, []) := rfl
theorem cd_101_40 : cd 101 40 = some (.aload_n 0, 1, 0, 0, 0, []) := rfl
theorem cd_101_41 : cd 101 41 = some (.getfield 57, 3, 8, 7, 0, []) := rfl
theorem cd_101_44 : cd 101 44 = some (.iload_n 1, 1, 0, 0, 0, []) := rfl
theorem cd_101_45 : cd 101 45 = some (.invokevirtual 255, 3, 64, 2, 0, []) := rfl
theorem cd_101_48 : cd 101 48 = some (.aload_n 0, 1, 0, 0, 0, []) := rfl
theorem cd_101_49 : cd 101 49 = some (.getfield 57, 3, 8, 7, 0, []) := rfl
theorem cd_101_52 : cd 101 52 = some (.getfield 127, 3, 6, 1, 1, []) := rfl
theorem cd_101_55 : cd 101 55 = some (.ireturn, 1, 0, 0, 0, []) := rfl
theorem cd_102_0 : cd 102 0 = some (.aload_n 0, 1, 0, 0, 0, []) := rfl
theorem cd_102_1 : cd 102 1 = some (.getfield 57, 3, 8, 7, 0, []) := rfl
theorem cd_102_4 : cd 102 4 = some (.getfield 127, 3, 6, 1, 1, []) := rfl
theorem cd_102_7 : cd 102 7 = some (.istore_n 1, 1, 0, 0, 0, []) := rfl
theorem cd_102_8 : cd 102 8 = some (.aload_n 0, 1, 0, 0, 0, []) := rfl
theorem cd_102_9 : cd 102 9 = some (.getfield 57, 3, 8, 7, 0, []) := rfl
theorem cd_102_12 : cd 102 12 = some (.iconst 0, 1, 0, 0, 0, []) := rfl
theorem cd_102_13 : cd 102 13 = some (.putfield 127, 3, 6, 1, 1, []) := rfl
theorem cd_102_16 : cd 102 16 = some (.iload_n 1, 1, 0, 0, 0, []) := rfl
theorem cd_102_17 : cd 102 17 = some (.ireturn, 1, 0, 0, 0, []) := rfl
theorem cd_104_0 : cd 104 0 = some (.aload_n 0, 1, 0, 0, 0, []) := rfl
theorem cd_104_1 : cd 104 1 = some (.getfield 26, 3, 8, 2, 0, []) := rfl
theorem cd_104_4 : cd 104 4 = some (.getfield 266, 3, 2, 2, 1, []) := rfl
theorem cd_104_7 : cd 104 7 = some (.ifCond .ne 14, 3, 0, 0, 0, []) := rfl
theorem cd_104_10 : cd 104 10 = some (.new 135, 3, 2, 0, 1, []) := rfl
theorem cd_104_21 : cd 104 21 = some (.aload_n 0, 1, 0, 0, 0, []) := rfl
theorem cd_104_22 : cd 104 22 = some (.getfield 26, 3, 8, 2, 0, []) := rfl
theorem cd_104_25 : cd 104 25 = some (.aload_n 0, 1, 0, 0, 0, []) := rfl
theorem cd_104_26 : cd 104 26 = some (.getfield 12, 3, 8, 0, 0, []) := rfl
theorem cd_104_29 : cd 104 29 = some (.aload_n 0, 1, 0, 0, 0, []) := rfl
theorem cd_104_30 : cd 104 30 = some (.getfield 19, 3, 8, 1, 0, []) := rfl
theorem cd_104_33 : cd 104 33 = some (.invokevirtual 269, 3, 27, 3, 0, []) := rfl
theorem cd_104_36 : cd 104 36 = some (.aload_n 0, 1, 0, 0, 0, []) := rfl
theorem cd_104_37 : cd 104 37 = some (.getfield 33, 3, 8, 3, 0, []) := rfl
theorem cd_104_40 : cd 104 40 = some (.aload_n 0, 1, 0, 0, 0, []) := rfl
theorem cd_104_41 : cd 104 41 = some (.getfield 12, 3, 8, 0, 0, []) := rfl
theorem cd_104_44 : cd 104 44 = some (.invokevirtual 61, 3, 1, 2, 0, []) := rfl
theorem cd_104_47 : cd 104 47 = some (.aload_n 0, 1, 0, 0, 0, []) := rfl
theorem cd_104_48 : cd 104 48 = some (.getfield 26, 3, 8, 2, 0, []) := rfl
theorem cd_104_51 : cd 104 51 = some (.getfield 266, 3, 2, 2, 1, []) := rfl
theorem cd_104_54 : cd 104 54 = some (.ireturn, 1, 0, 0, 0, []) := rfl
theorem cd_106_0 : cd 106 0 = some (.aload_n 0, 1, 0, 0, 0, []) := rfl
theorem cd_106_1 : cd 106 1 = some (.getfield 26, 3, 8, 2, 0, []) := rfl
theorem cd_106_4 : cd 106 4 = some (.aload_n 0, 1, 0, 0, 0, []) := rfl
theorem cd_106_5 : cd 106 5 = some (.getfield 12, 3, 8, 0, 0, []) := rfl
theorem cd_106_8 : cd 106 8 = some (.aload_n 0, 1, 0, 0, 0, []) := rfl
theorem cd_106_9 : cd 106 9 = some (.getfield 19, 3, 8, 1, 0, []) := rfl
theorem cd_106_12 : cd 106 12 = some (.invokevirtual 289, 3, 26, 3, 0, []) := rfl
theorem cd_106_15 : cd 106 15 = some (.return_, 1, 0, 0, 0, []) := rfl
theorem cd_107_0 : cd 107 0 = some (.iload_n 2, 1, 0, 0, 0, []) := rfl
theorem cd_107_1 : cd 107 1 = some (.tableswitch 67 0 3 #[31, 40, 49, 58], 31, 0, 0, 0, []) := rfl
theorem cd_107_32 : cd 107 32 = some (.aload_n 0, 1, 0, 0, 0, []) := rfl
theorem cd_107_33 : cd 107 33 = some (.getfield 12, 3, 8, 0, 0, []) := rfl
theorem cd_107_36 : cd 107 36 = some (.iload_n 1, 1, 0, 0, 0, []) := rfl
theorem cd_107_37 : cd 107 37 = some (.invokevirtual 100, 3, 53, 2, 0, []) := rfl
theorem cd_107_40 : cd 107 40 = some (.ireturn, 1, 0, 0, 0, []) := rfl
theorem cd_107_41 : cd 107 41 = some (.aload_n 0, 1, 0, 0, 0, []) := rfl
theorem cd_107_42 : cd 107 42 = some (.getfield 33, 3, 8, 3, 0, []) := rfl
theorem cd_107_45 : cd 107 45 = some (.iload_n 1, 1, 0, 0, 0, []) := rfl
theorem cd_107_46 : cd 107 46 = some (.invokevirtual 292, 3, 15, 2, 0, []) := rfl
theorem cd_107_49 : cd 107 49 = some (.ireturn, 1, 0, 0, 0, []) := rfl
theorem cd_107_50 : cd 107 50 = some (.aload_n 0, 1, 0, 0, 0, []) := rfl
theorem cd_107_51 : cd 107 51 = some (.getfield 33, 3, 8, 3, 0, []) := rfl
theorem cd_107_54 : cd 107 54 = some (.iload_n 1, 1, 0, 0, 0, []) := rfl
theorem cd_107_55 : cd 107 55 = some (.invokevirtual 295, 3, 16, 2, 0, []) := rfl
theorem cd_107_58 : cd 107 58 = some (.ireturn, 1, 0, 0, 0, []) := rfl
theorem cd_107_59 : cd 107 59 = some (.aload_n 0, 1, 0, 0, 0, []) := rfl
theorem cd_107_60 : cd 107 60 = some (.getfield 33, 3, 8, 3, 0, []) := rfl
theorem cd_107_63 : cd 107 63 = some (.iload_n 1, 1, 0, 0, 0, []) := rfl
theorem cd_107_64 : cd 107 64 = some (.invokevirtual 298, 3, 17, 2, 0, []) := rfl
theorem cd_107_67 : cd 107 67 = some (.ireturn, 1, 0, 0, 0, []) := rfl
theorem cd_107_68 : cd 107 68 = some (.aload_n 0, 1, 0, 0, 0, []) := rfl
theorem cd_107_69 : cd 107 69 = some (.getfield 12, 3, 8, 0, 0, []) := rfl
theorem cd_107_72 : cd 107 72 = some (.iload_n 1, 1, 0, 0, 0, []) := rfl
theorem cd_107_73 : cd 107 73 = some (.invokevirtual 100, 3, 53, 2, 0, []) := rfl
theorem cd_107_76 : cd 107 76 = some (.invokestatic 301, 3, 123, 1, 2, []) := rfl
theorem cd_107_79 : cd 107 79 = some (.ireturn, 1, 0, 0, 0, []) := rfl
theorem cd_108_0 : cd 108 0 = some (.iload_n 1, 1, 0, 0, 0, []) := rfl
theorem cd_108_1 : cd 108 1 = some (.tableswitch 123 0 8 #[51, 59, 67, 75, 83, 91, 99, 107, 115], 51, 0, 0, 0, []) := rfl
theorem cd_108_52 : cd 108 52 = some (.aload_n 0, 1, 0, 0, 0, []) := rfl
theorem cd_108_53 : cd 108 53 = some (.getfield 12, 3, 8, 0, 0, []) := rfl
theorem cd_108_56 : cd 108 56 = some (.getfield 304, 3, 5, 0, 1, []) := rfl
theorem cd_108_59 : cd 108 59 = some (.ireturn, 1, 0, 0, 0, []) := rfl
theorem cd_108_60 : cd 108 60 = some (.aload_n 0, 1, 0, 0, 0, []) := rfl
theorem cd_108_61 : cd 108 61 = some (.getfield 12, 3, 8, 0, 0, []) := rfl
theorem cd_108_64 : cd 108 64 = some (.getfield 307, 3, 5, 1, 1, []) := rfl
theorem cd_108_67 : cd 108 67 = some (.ireturn, 1, 0, 0, 0, []) := rfl
theorem cd_108_68 : cd 108 68 = some (.aload_n 0, 1, 0, 0, 0, []) := rfl
theorem cd_108_69 : cd 108 69 = some (.getfield 12, 3, 8, 0, 0, []) := rfl
theorem cd_108_72 : cd 108 72 = some (.invokevirtual 263, 3, 58, 1, 0, []) := rfl
theorem cd_108_75 : cd 108 75 = some (.ireturn, 1, 0, 0, 0, []) := rfl
theorem cd_108_76 : cd 108 76 = some (.aload_n 0, 1, 0, 0, 0, []) := rfl
theorem cd_108_77 : cd 108 77 = some (.getfield 12, 3, 8, 0, 0, []) := rfl
theorem cd_108_80 : cd 108 80 = some (.invokevirtual 310, 3, 59, 1, 0, []) := rfl
theorem cd_108_83 : cd 108 83 = some (.ireturn, 1, 0, 0, 0, []) := rfl
theorem cd_108_84 : cd 108 84 = some (.aload_n 0, 1, 0, 0, 0, []) := rfl
theorem cd_108_85 : cd 108 85 = some (.getfield 12, 3, 8, 0, 0, []) := rfl
theorem cd_108_88 : cd 108 88 = some (.invokevirtual 110, 3, 60, 1, 0, []) := rfl
theorem cd_108_91 : cd 108 91 = some (.ireturn, 1, 0, 0, 0, []) := rfl
theorem cd_108_92 : cd 108 92 = some (.aload_n 0, 1, 0, 0, 0, []) := rfl
theorem cd_108_93 : cd 108 93 = some (.getfield 12, 3, 8, 0, 0, []) := rfl
theorem cd_108_96 : cd 108 96 = some (.invokevirtual 313, 3, 61, 1, 0, []) := rfl
theorem cd_108_99 : cd 108 99 = some (.ireturn, 1, 0, 0, 0, []) := rfl
theorem cd_108_100 : cd 108 100 = some (.aload_n 0, 1, 0, 0, 0, []) := rfl
theorem cd_108_101 : cd 108 101 = some (.getfield 12, 3, 8, 0, 0, []) := rfl
theorem cd_108_104 : cd 108 104 = some (.invokevirtual 83, 3, 50, 1, 0, []) := rfl
theorem cd_108_107 : cd 108 107 = some (.ireturn, 1, 0, 0, 0, []) := rfl
theorem cd_108_108 : cd 108 108 = some (.aload_n 0, 1, 0, 0, 0, []) := rfl
theorem cd_108_109 : cd 108 109 = some (.getfield 33, 3, 8, 3, 0, []) := rfl
theorem cd_108_112 : cd 108 112 = some (.getfield 316, 3, 0, 11, 1, []) := rfl
theorem cd_108_115 : cd 108 115 = some (.ireturn, 1, 0, 0, 0, []) := rfl
theorem cd_108_116 : cd 108 116 = some (.aload_n 0, 1, 0, 0, 0, []) := rfl
theorem cd_108_117 : cd 108 117 = some (.getfield 33, 3, 8, 3, 0, []) := rfl
theorem cd_108_120 : cd 108 120 = some (.getfield 317, 3, 0, 12, 1, []) := rfl
theorem cd_108_123 : cd 108 123 = some (.ireturn, 1, 0, 0, 0, []) := rfl
theorem cd_108_124 : cd 108 124 = some (.aload_n 0, 1, 0, 0, 0, []) := rfl
theorem cd_108_125 : cd 108 125 = some (.getfield 19, 3, 8, 1, 0, []) := rfl
theorem cd_108_128 : cd 108 128 = some (.getfield 153, 3, 7, 0, 1, []) := rfl
theorem cd_108_131 : cd 108 131 = some (.ireturn, 1, 0, 0, 0, []) := rfl
theorem cd_109_0 : cd 109 0 = some (.iload_n 2, 1, 0, 0, 0, []) := rfl
theorem cd_109_1 : cd 109 1 = some (.tableswitch 103 0 5 #[39, 48, 57, 76, 85, 94], 39, 0, 0, 0, []) := rfl
theorem cd_109_40 : cd 109 40 = some (.aload_n 0, 1, 0, 0, 0, []) := rfl
theorem cd_109_41 : cd 109 41 = some (.getfield 33, 3, 8, 3, 0, []) := rfl
theorem cd_109_44 : cd 109 44 = some (.iload_n 1, 1, 0, 0, 0, []) := rfl
theorem cd_109_45 : cd 109 45 = some (.invokevirtual 320, 3, 7, 2, 0, []) := rfl
theorem cd_109_48 : cd 109 48 = some (.ireturn, 1, 0, 0, 0, []) := rfl
theorem cd_109_49 : cd 109 49 = some (.aload_n 0, 1, 0, 0, 0, []) := rfl
theorem cd_109_50 : cd 109 50 = some (.getfield 33, 3, 8, 3, 0, []) := rfl
theorem cd_109_53 : cd 109 53 = some (.iload_n 1, 1, 0, 0, 0, []) := rfl
theorem cd_109_54 : cd 109 54 = some (.invokevirtual 200, 3, 8, 2, 0, []) := rfl
theorem cd_109_57 : cd 109 57 = some (.ireturn, 1, 0, 0, 0, []) := rfl
theorem cd_109_58 : cd 109 58 = some (.aload_n 0, 1, 0, 0, 0, []) := rfl
theorem cd_109_59 : cd 109 59 = some (.getfield 33, 3, 8, 3, 0, []) := rfl
theorem cd_109_62 : cd 109 62 = some (.iload_n 1, 1, 0, 0, 0, []) := rfl
theorem cd_109_63 : cd 109 63 = some (.aload_n 0, 1, 0, 0, 0, []) := rfl
theorem cd_109_64 : cd 109 64 = some (.getfield 33, 3, 8, 3, 0, []) := rfl
theorem cd_109_67 : cd 109 67 = some (.iload_n 1, 1, 0, 0, 0, []) := rfl
theorem cd_109_68 : cd 109 68 = some (.invokevirtual 182, 3, 9, 2, 0, []) := rfl
theorem cd_109_71 : cd 109 71 = some (.iconst 1, 1, 0, 0, 0, []) := rfl
theorem cd_109_72 : cd 109 72 = some (.isub, 1, 0, 0, 0, []) := rfl
theorem cd_109_73 : cd 109 73 = some (.invokevirtual 187, 3, 14, 3, 0, []) := rfl
theorem cd_109_76 : cd 109 76 = some (.ireturn, 1, 0, 0, 0, []) := rfl
theorem cd_109_77 : cd 109 77 = some (.aload_n 0, 1, 0, 0, 0, []) := rfl
theorem cd_109_78 : cd 109 78 = some (.getfield 33, 3, 8, 3, 0, []) := rfl
theorem cd_109_81 : cd 109 81 = some (.iload_n 1, 1, 0, 0, 0, []) := rfl
theorem cd_109_82 : cd 109 82 = some (.invokevirtual 182, 3, 9, 2, 0, []) := rfl
theorem cd_109_85 : cd 109 85 = some (.ireturn, 1, 0, 0, 0, []) := rfl
theorem cd_109_86 : cd 109 86 = some (.aload_n 0, 1, 0, 0, 0, []) := rfl
theorem cd_109_87 : cd 109 87 = some (.getfield 33, 3, 8, 3, 0, []) := rfl
theorem cd_109_90 : cd 109 90 = some (.iload_n 1, 1, 0, 0, 0, []) := rfl
theorem cd_109_91 : cd 109 91 = some (.invokevirtual 323, 3, 10, 2, 0, []) := rfl
theorem cd_109_94 : cd 109 94 = some (.ireturn, 1, 0, 0, 0, []) := rfl
theorem cd_109_95 : cd 109 95 = some (.aload_n 0, 1, 0, 0, 0, []) := rfl
theorem cd_109_96 : cd 109 96 = some (.getfield 33, 3, 8, 3, 0, []) := rfl
theorem cd_109_99 : cd 109 99 = some (.iload_n 1, 1, 0, 0, 0, []) := rfl
theorem cd_109_100 : cd 109 100 = some (.invokevirtual 326, 3, 11, 2, 0, []) := rfl
theorem cd_109_103 : cd 109 103 = some (.ireturn, 1, 0, 0, 0, []) := rfl
theorem cd_109_104 : cd 109 104 = some (.aload_n 0, 1, 0, 0, 0, []) := rfl
theorem cd_109_105 : cd 109 105 = some (.getfield 33, 3, 8, 3, 0, []) := rfl
theorem cd_109_108 : cd 109 108 = some (.iload_n 1, 1, 0, 0, 0, []) := rfl
theorem cd_109_109 : cd 109 109 = some (.invokevirtual 329, 3, 12, 2, 0, []) := rfl
theorem cd_109_112 : cd 109 112 = some (.ifCond .eq 7, 3, 0, 0, 0, []) := rfl
theorem cd_109_115 : cd 109 115 = some (.iconst 1, 1, 0, 0, 0, []) := rfl
theorem cd_109_116 : cd 109 116 = some (.goto 4, 3, 0, 0, 0, []) := rfl
theorem cd_109_119 : cd 109 119 = some (.iconst 0, 1, 0, 0, 0, []) := rfl
theorem cd_109_120 : cd 109 120 = some (.ireturn, 1, 0, 0, 0, []) := rfl
theorem cd_110_0 : cd 110 0 = some (.aload_n 0, 1, 0, 0, 0, []) := rfl
theorem cd_110_1 : cd 110 1 = some (.getfield 47, 3, 8, 5, 0, []) := rfl
theorem cd_110_4 : cd 110 4 = some (.aload_n 0, 1, 0, 0, 0, []) := rfl
theorem cd_110_5 : cd 110 5 = some (.getfield 12, 3, 8, 0, 0, []) := rfl
theorem cd_110_8 : cd 110 8 = some (.aload_n 0, 1, 0, 0, 0, []) := rfl
theorem cd_110_9 : cd 110 9 = some (.getfield 33, 3, 8, 3, 0, []) := rfl
theorem cd_110_12 : cd 110 12 = some (.iload_n 1, 1, 0, 0, 0, []) := rfl
theorem cd_110_13 : cd 110 13 = some (.invokevirtual 192, 3, 31, 4, 0, []) := rfl
theorem cd_110_16 : cd 110 16 = some (.aload_n 0, 1, 0, 0, 0, []) := rfl
theorem cd_110_17 : cd 110 17 = some (.getfield 47, 3, 8, 5, 0, []) := rfl
theorem cd_110_20 : cd 110 20 = some (.aload_n 0, 1, 0, 0, 0, []) := rfl
theorem cd_110_21 : cd 110 21 = some (.getfield 19, 3, 8, 1, 0, []) := rfl
theorem cd_110_24 : cd 110 24 = some (.invokevirtual 332, 3, 37, 2, 0, []) := rfl
theorem cd_110_27 : cd 110 27 = some (.ireturn, 1, 0, 0, 0, []) := rfl
theorem cd_111_0 : cd 111 0 = some (.iconst (-1), 1, 0, 0, 0, []) := rfl
theorem cd_111_1 : cd 111 1 = some (.istore_n 2, 1, 0, 0, 0, []) := rfl
theorem cd_111_2 : cd 111 2 = some (.aload_n 0, 1, 0, 0, 0, []) := rfl
theorem cd_111_3 : cd 111 3 = some (.iload_n 1, 1, 0, 0, 0, []) := rfl
theorem cd_111_4 : cd 111 4 = some (.bipush 47, 2, 0, 0, 0, []) := rfl
theorem cd_111_6 : cd 111 6 = some (.invokevirtual 336, 3, 112, 3, 0, []) := rfl
theorem cd_111_9 : cd 111 9 = some (.ifCond .eq 10, 3, 0, 0, 0, []) := rfl
theorem cd_111_12 : cd 111 12 = some (.iconst 2, 1, 0, 0, 0, []) := rfl
theorem cd_111_13 : cd 111 13 = some (.iload_n 1, 1, 0, 0, 0, []) := rfl
theorem cd_111_14 : cd 111 14 = some (.imul, 1, 0, 0, 0, []) := rfl
theorem cd_111_15 : cd 111 15 = some (.istore_n 2, 1, 0, 0, 0, []) := rfl
theorem cd_111_16 : cd 111 16 = some (.goto 19, 3, 0, 0, 0, []) := rfl
theorem cd_111_19 : cd 111 19 = some (.aload_n 0, 1, 0, 0, 0, []) := rfl
theorem cd_111_20 : cd 111 20 = some (.iload_n 1, 1, 0, 0, 0, []) := rfl
theorem cd_111_21 : cd 111 21 = some (.bipush 92, 2, 0, 0, 0, []) := rfl
theorem cd_111_23 : cd 111 23 = some (.invokevirtual 336, 3, 112, 3, 0, []) := rfl
theorem cd_111_26 : cd 111 26 = some (.ifCond .eq 9, 3, 0, 0, 0, []) := rfl
theorem cd_111_29 : cd 111 29 = some (.iconst 2, 1, 0, 0, 0, []) := rfl
theorem cd_111_30 : cd 111 30 = some (.iload_n 1, 1, 0, 0, 0, []) := rfl
theorem cd_111_31 : cd 111 31 = some (.imul, 1, 0, 0, 0, []) := rfl
theorem cd_111_32 : cd 111 32 = some (.iconst 1, 1, 0, 0, 0, []) := rfl
theorem cd_111_33 : cd 111 33 = some (.iadd, 1, 0, 0, 0, []) := rfl
theorem cd_111_34 : cd 111 34 = some (.istore_n 2, 1, 0, 0, 0, []) := rfl
theorem cd_111_35 : cd 111 35 = some (.aload_n 0, 1, 0, 0, 0, []) := rfl
theorem cd_111_36 : cd 111 36 = some (.getfield 12, 3, 8, 0, 0, []) := rfl
theorem cd_111_39 : cd 111 39 = some (.iload_n 1, 1, 0, 0, 0, []) := rfl
theorem cd_111_40 : cd 111 40 = some (.bipush 35, 2, 0, 0, 0, []) := rfl
theorem cd_111_42 : cd 111 42 = some (.invokevirtual 104, 3, 54, 3, 0, []) := rfl
theorem cd_111_45 : cd 111 45 = some (.iload_n 2, 1, 0, 0, 0, []) := rfl
theorem cd_111_46 : cd 111 46 = some (.ireturn, 1, 0, 0, 0, []) := rfl
theorem cd_112_0 : cd 112 0 = some (.aload_n 0, 1, 0, 0, 0, []) := rfl
theorem cd_112_1 : cd 112 1 = some (.getfield 12, 3, 8, 0, 0, []) := rfl
theorem cd_112_4 : cd 112 4 = some (.iload_n 1, 1, 0, 0, 0, []) := rfl
theorem cd_112_5 : cd 112 5 = some (.iload_n 2, 1, 0, 0, 0, []) := rfl
theorem cd_112_6 : cd 112 6 = some (.invokevirtual 104, 3, 54, 3, 0, []) := rfl
theorem cd_112_9 : cd 112 9 = some (.aload_n 0, 1, 0, 0, 0, []) := rfl
theorem cd_112_10 : cd 112 10 = some (.getfield 33, 3, 8, 3, 0, []) := rfl
theorem cd_112_13 : cd 112 13 = some (.aload_n 0, 1, 0, 0, 0, []) := rfl
theorem cd_112_14 : cd 112 14 = some (.getfield 12, 3, 8, 0, 0, []) := rfl
theorem cd_112_17 : cd 112 17 = some (.invokevirtual 61, 3, 1, 2, 0, []) := rfl
theorem cd_112_20 : cd 112 20 = some (.aload_n 0, 1, 0, 0, 0, []) := rfl
theorem cd_112_21 : cd 112 21 = some (.getfield 40, 3, 8, 4, 0, []) := rfl
theorem cd_112_24 : cd 112 24 = some (.aload_n 0, 1, 0, 0, 0, []) := rfl
theorem cd_112_25 : cd 112 25 = some (.getfield 12, 3, 8, 0, 0, []) := rfl
theorem cd_112_28 : cd 112 28 = some (.aload_n 0, 1, 0, 0, 0, []) := rfl
theorem cd_112_29 : cd 112 29 = some (.getfield 33, 3, 8, 3, 0, []) := rfl
theorem cd_112_32 : cd 112 32 = some (.iconst 1, 1, 0, 0, 0, []) := rfl
theorem cd_112_33 : cd 112 33 = some (.invokevirtual 209, 3, 39, 4, 0, []) := rfl
theorem cd_112_36 : cd 112 36 = some (.aload_n 0, 1, 0, 0, 0, []) := rfl
theorem cd_112_37 : cd 112 37 = some (.getfield 40, 3, 8, 4, 0, []) := rfl
theorem cd_112_40 : cd 112 40 = some (.getfield 212, 3, 4, 8, 1, []) := rfl
theorem cd_112_43 : cd 112 43 = some (.ifCond .le 7, 3, 0, 0, 0, []) := rfl
theorem cd_112_46 : cd 112 46 = some (.iconst 1, 1, 0, 0, 0, []) := rfl
theorem cd_112_47 : cd 112 47 = some (.goto 4, 3, 0, 0, 0, []) := rfl
theorem cd_112_50 : cd 112 50 = some (.iconst 0, 1, 0, 0, 0, []) := rfl
theorem cd_112_51 : cd 112 51 = some (.ireturn, 1, 0, 0, 0, []) := rfl
theorem cd_116_0 : cd 116 0 = some (.iload_n 0, 1, 0, 0, 0, []) := rfl
theorem cd_116_1 : cd 116 1 = some (.iload_n 1, 1, 0, 0, 0, []) := rfl
theorem cd_116_2 : cd 116 2 = some (.if_icmp .lt 12, 3, 0, 0, 0, []) := rfl
theorem cd_116_5 : cd 116 5 = some (.iload_n 0, 1, 0, 0, 0, []) := rfl
theorem cd_116_6 : cd 116 6 = some (.iload_n 2, 1, 0, 0, 0, []) := rfl
theorem cd_116_7 : cd 116 7 = some (.if_icmp .gt 7, 3, 0, 0, 0, []) := rfl
theorem cd_116_10 : cd 116 10 = some (.iconst 1, 1, 0, 0, 0, []) := rfl
theorem cd_116_11 : cd 116 11 = some (.goto 4, 3, 0, 0, 0, []) := rfl
theorem cd_116_14 : cd 116 14 = some (.iconst 0, 1, 0, 0, 0, []) := rfl
theorem cd_116_15 : cd 116 15 = some (.ireturn, 1, 0, 0, 0, []) := rfl
theorem cd_117_0 : cd 117 0 = some (.iload_n 0, 1, 0, 0, 0, []) := rfl
theorem cd_117_1 : cd 117 1 = some (.iconst 2, 1, 0, 0, 0, []) := rfl
theorem cd_117_2 : cd 117 2 = some (.bipush 7, 2, 0, 0, 0, []) := rfl
theorem cd_117_4 : cd 117 4 = some (.invokestatic 156, 3, 116, 3, 2, []) := rfl
theorem cd_117_7 : cd 117 7 = some (.ireturn, 1, 0, 0, 0, []) := rfl
theorem cd_118_0 : cd 118 0 = some (.iload_n 0, 1, 0, 0, 0, []) := rfl
theorem cd_118_1 : cd 118 1 = some (.bipush 97, 2, 0, 0, 0, []) := rfl
theorem cd_118_3 : cd 118 3 = some (.if_icmp .lt 13, 3, 0, 0, 0, []) := rfl
theorem cd_118_6 : cd 118 6 = some (.iload_n 0, 1, 0, 0, 0, []) := rfl
theorem cd_118_7 : cd 118 7 = some (.bipush 122, 2, 0, 0, 0, []) := rfl
theorem cd_118_9 : cd 118 9 = some (.if_icmp .gt 7, 3, 0, 0, 0, []) := rfl
theorem cd_118_12 : cd 118 12 = some (.iconst 1, 1, 0, 0, 0, []) := rfl
theorem cd_118_13 : cd 118 13 = some (.goto 4, 3, 0, 0, 0, []) := rfl
theorem cd_118_16 : cd 118 16 = some (.iconst 0, 1, 0, 0, 0, []) := rfl
theorem cd_118_17 : cd 118 17 = some (.ireturn, 1, 0, 0, 0, []) := rfl
theorem cd_119_0 : cd 119 0 = some (.iload_n 0, 1, 0, 0, 0, []) := rfl
theorem cd_119_1 : cd 119 1 = some (.bipush 65, 2, 0, 0, 0, []) := rfl
theorem cd_119_3 : cd 119 3 = some (.if_icmp .lt 13, 3, 0, 0, 0, []) := rfl
theorem cd_119_6 : cd 119 6 = some (.iload_n 0, 1, 0, 0, 0, []) := rfl
theorem cd_119_7 : cd 119 7 = some (.bipush 90, 2, 0, 0, 0, []) := rfl
theorem cd_119_9 : cd 119 9 = some (.if_icmp .gt 7, 3, 0, 0, 0, []) := rfl
theorem cd_119_12 : cd 119 12 = some (.iconst 1, 1, 0, 0, 0, []) := rfl
theorem cd_119_13 : cd 119 13 = some (.goto 4, 3, 0, 0, 0, []) := rfl
theorem cd_119_16 : cd 119 16 = some (.iconst 0, 1, 0, 0, 0, []) := rfl
theorem cd_119_17 : cd 119 17 = some (.ireturn, 1, 0, 0, 0, []) := rfl
theorem cd_120_0 : cd 120 0 = some (.iload_n 0, 1, 0, 0, 0, []) := rfl
theorem cd_120_1 : cd 120 1 = some (.invokestatic 343, 3, 118, 1, 2, []) := rfl
theorem cd_120_4 : cd 120 4 = some (.ifCond .ne 10, 3, 0, 0, 0, []) := rfl
theorem cd_120_7 : cd 120 7 = some (.iload_n 0, 1, 0, 0, 0, []) := rfl
theorem cd_120_8 : cd 120 8 = some (.invokestatic 346, 3, 119, 1, 2, []) := rfl
theorem cd_120_11 : cd 120 11 = some (.ifCond .eq 7, 3, 0, 0, 0, []) := rfl
theorem cd_120_14 : cd 120 14 = some (.iconst 1, 1, 0, 0, 0, []) := rfl
theorem cd_120_15 : cd 120 15 = some (.goto 4, 3, 0, 0, 0, []) := rfl
theorem cd_120_18 : cd 120 18 = some (.iconst 0, 1, 0, 0, 0, []) := rfl
theorem cd_120_19 : cd 120 19 = some (.ireturn, 1, 0, 0, 0, []) := rfl
theorem cd_121_0 : cd 121 0 = some (.iload_n 0, 1, 0, 0, 0, []) := rfl
theorem cd_121_1 : cd 121 1 = some (.bipush 47, 2, 0, 0, 0, []) := rfl
theorem cd_121_3 : cd 121 3 = some (.if_icmp .eq 9, 3, 0, 0, 0, []) := rfl
theorem cd_121_6 : cd 121 6 = some (.iload_n 0, 1, 0, 0, 0, []) := rfl
theorem cd_121_7 : cd 121 7 = some (.bipush 92, 2, 0, 0, 0, []) := rfl
theorem cd_121_9 : cd 121 9 = some (.if_icmp .ne 7, 3, 0, 0, 0, []) := rfl
theorem cd_121_12 : cd 121 12 = some (.iconst 1, 1, 0, 0, 0, []) := rfl
theorem cd_121_13 : cd 121 13 = some (.goto 4, 3, 0, 0, 0, []) := rfl
theorem cd_121_16 : cd 121 16 = some (.iconst 0, 1, 0, 0, 0, []) := rfl
theorem cd_121_17 : cd 121 17 = some (.ireturn, 1, 0, 0, 0, []) := rfl
theorem cd_122_0 : cd 122 0 = some (.iload_n 0, 1, 0, 0, 0, []) := rfl
theorem cd_122_1 : cd 122 1 = some (.invokestatic 349, 3, 120, 1, 2, []) := rfl
theorem cd_122_4 : cd 122 4 = some (.ifCond .ne 28, 3, 0, 0, 0, []) := rfl
theorem cd_122_7 : cd 122 7 = some (.iload_n 0, 1, 0, 0, 0, []) := rfl
theorem cd_122_8 : cd 122 8 = some (.invokestatic 352, 3, 121, 1, 2, []) := rfl
theorem cd_122_11 : cd 122 11 = some (.ifCond .ne 21, 3, 0, 0, 0, []) := rfl
theorem cd_122_14 : cd 122 14 = some (.iload_n 0, 1, 0, 0, 0, []) := rfl
theorem cd_122_15 : cd 122 15 = some (.bipush 46, 2, 0, 0, 0, []) := rfl
theorem cd_122_17 : cd 122 17 = some (.if_icmp .eq 15, 3, 0, 0, 0, []) := rfl
theorem cd_122_20 : cd 122 20 = some (.iload_n 0, 1, 0, 0, 0, []) := rfl
theorem cd_122_21 : cd 122 21 = some (.bipush 35, 2, 0, 0, 0, []) := rfl
theorem cd_122_23 : cd 122 23 = some (.if_icmp .eq 9, 3, 0, 0, 0, []) := rfl
theorem cd_122_26 : cd 122 26 = some (.iload_n 0, 1, 0, 0, 0, []) := rfl
theorem cd_122_27 : cd 122 27 = some (.bipush 58, 2, 0, 0, 0, []) := rfl
theorem cd_122_29 : cd 122 29 = some (.if_icmp .ne 7, 3, 0, 0, 0, []) := rfl
theorem cd_122_32 : cd 122 32 = some (.iconst 1, 1, 0, 0, 0, []) := rfl
theorem cd_122_33 : cd 122 33 = some (.goto 4, 3, 0, 0, 0, []) := rfl
theorem cd_122_36 : cd 122 36 = some (.iconst 0, 1, 0, 0, 0, []) := rfl
theorem cd_122_37 : cd 122 37 = some (.ireturn, 1, 0, 0, 0, []) := rfl
theorem cd_123_0 : cd 123 0 = some (.iload_n 0, 1, 0, 0, 0, []) := rfl
theorem cd_123_1 : cd 123 1 = some (.invokestatic 343, 3, 118, 1, 2, []) := rfl
theorem cd_123_4 : cd 123 4 = some (.ifCond .eq 8, 3, 0, 0, 0, []) := rfl
theorem cd_123_7 : cd 123 7 = some (.iload_n 0, 1, 0, 0, 0, []) := rfl
theorem cd_123_8 : cd 123 8 = some (.bipush 97, 2, 0, 0, 0, []) := rfl
theorem cd_123_10 : cd 123 10 = some (.isub, 1, 0, 0, 0, []) := rfl
theorem cd_123_11 : cd 123 11 = some (.ireturn, 1, 0, 0, 0, []) := rfl
theorem cd_123_12 : cd 123 12 = some (.iload_n 0, 1, 0, 0, 0, []) := rfl
theorem cd_123_13 : cd 123 13 = some (.invokestatic 346, 3, 119, 1, 2, []) := rfl
theorem cd_123_16 : cd 123 16 = some (.ifCond .eq 10, 3, 0, 0, 0, []) := rfl
theorem cd_123_19 : cd 123 19 = some (.iload_n 0, 1, 0, 0, 0, []) := rfl
theorem cd_123_20 : cd 123 20 = some (.bipush 65, 2, 0, 0, 0, []) := rfl
theorem cd_123_22 : cd 123 22 = some (.isub, 1, 0, 0, 0, []) := rfl
theorem cd_123_23 : cd 123 23 = some (.goto 4, 3, 0, 0, 0, []) := rfl
theorem cd_123_26 : cd 123 26 = some (.iconst (-1), 1, 0, 0, 0, []) := rfl
theorem cd_123_27 : cd 123 27 = some (.ireturn, 1, 0, 0, 0, []) := rfl
theorem cd_124_0 : cd 124 0 = some (.iload_n 0, 1, 0, 0, 0, []) := rfl
theorem cd_124_1 : cd 124 1 = some (.bipush 47, 2, 0, 0, 0, []) := rfl
theorem cd_124_3 : cd 124 3 = some (.if_icmp .ne 6, 3, 0, 0, 0, []) := rfl
theorem cd_124_6 : cd 124 6 = some (.bipush 92, 2, 0, 0, 0, []) := rfl
theorem cd_124_8 : cd 124 8 = some (.ireturn, 1, 0, 0, 0, []) := rfl
theorem cd_124_9 : cd 124 9 = some (.iload_n 0, 1, 0, 0, 0, []) := rfl
theorem cd_124_10 : cd 124 10 = some (.bipush 92, 2, 0, 0, 0, []) := rfl
theorem cd_124_12 : cd 124 12 = some (.if_icmp .ne 8, 3, 0, 0, 0, []) := rfl
theorem cd_124_15 : cd 124 15 = some (.bipush 47, 2, 0, 0, 0, []) := rfl
theorem cd_124_17 : cd 124 17 = some (.goto 4, 3, 0, 0, 0, []) := rfl
theorem cd_124_20 : cd 124 20 = some (.iload_n 0, 1, 0, 0, 0, []) := rfl
theorem cd_124_21 : cd 124 21 = some (.ireturn, 1, 0, 0, 0, []) := rfl
theorem cd_125_0 : cd 125 0 = some (.iload_n 1, 1, 0, 0, 0, []) := rfl
theorem cd_125_1 : cd 125 1 = some (.ifCond .lt 15, 3, 0, 0, 0, []) := rfl
theorem cd_125_4 : cd 125 4 = some (.iload_n 1, 1, 0, 0, 0, []) := rfl
theorem cd_125_5 : cd 125 5 = some (.aload_n 0, 1, 0, 0, 0, []) := rfl
theorem cd_125_6 : cd 125 6 = some (.arraylength, 1, 0, 0, 0, []) := rfl
theorem cd_125_7 : cd 125 7 = some (.if_icmp .ge 9, 3, 0, 0, 0, []) := rfl
theorem cd_125_10 : cd 125 10 = some (.aload_n 0, 1, 0, 0, 0, []) := rfl
theorem cd_125_11 : cd 125 11 = some (.iload_n 1, 1, 0, 0, 0, []) := rfl
theorem cd_125_12 : cd 125 12 = some (.iaload, 1, 0, 0, 0, []) := rfl
theorem cd_125_13 : cd 125 13 = some (.goto 4, 3, 0, 0, 0, []) := rfl
theorem cd_125_16 : cd 125 16 = some (.iconst 0, 1, 0, 0, 0, []) := rfl
theorem cd_125_17 : cd 125 17 = some (.ireturn, 1, 0, 0, 0, []) := rfl
theorem cd_126_0 : cd 126 0 = some (.iload_n 1, 1, 0, 0, 0, []) := rfl
theorem cd_126_1 : cd 126 1 = some (.ifCond .lt 15, 3, 0, 0, 0, []) := rfl
theorem cd_126_4 : cd 126 4 = some (.iload_n 1, 1, 0, 0, 0, []) := rfl
theorem cd_126_5 : cd 126 5 = some (.aload_n 0, 1, 0, 0, 0, []) := rfl
theorem cd_126_6 : cd 126 6 = some (.arraylength, 1, 0, 0, 0, []) := rfl
theorem cd_126_7 : cd 126 7 = some (.if_icmp .ge 9, 3, 0, 0, 0, []) := rfl
theorem cd_126_10 : cd 126 10 = some (.aload_n 0, 1, 0, 0, 0, []) := rfl
theorem cd_126_11 : cd 126 11 = some (.iload_n 1, 1, 0, 0, 0, []) := rfl
theorem cd_126_12 : cd 126 12 = some (.laload, 1, 0, 0, 0, []) := rfl
theorem cd_126_13 : cd 126 13 = some (.goto 4, 3, 0, 0, 0, []) := rfl
theorem cd_126_16 : cd 126 16 = some (.lconst 0, 1, 0, 0, 0, []) := rfl
theorem cd_126_17 : cd 126 17 = some (.lreturn, 1, 0, 0, 0, []) := rfl
theorem cd_127_0 : cd 127 0 = some (.iload_n 1, 1, 0, 0, 0, []) := rfl
theorem cd_127_1 : cd 127 1 = some (.ifCond .lt 13, 3, 0, 0, 0, []) := rfl
theorem cd_127_4 : cd 127 4 = some (.iload_n 1, 1, 0, 0, 0, []) := rfl
theorem cd_127_5 : cd 127 5 = some (.aload_n 0, 1, 0, 0, 0, []) := rfl
theorem cd_127_6 : cd 127 6 = some (.arraylength, 1, 0, 0, 0, []) := rfl
theorem cd_127_7 : cd 127 7 = some (.if_icmp .ge 7, 3, 0, 0, 0, []) := rfl
theorem cd_127_10 : cd 127 10 = some (.aload_n 0, 1, 0, 0, 0, []) := rfl
theorem cd_127_11 : cd 127 11 = some (.iload_n 1, 1, 0, 0, 0, []) := rfl
theorem cd_127_12 : cd 127 12 = some (.iload_n 2, 1, 0, 0, 0, []) := rfl
theorem cd_127_13 : cd 127 13 = some (.iastore, 1, 0, 0, 0, []) := rfl
theorem cd_127_14 : cd 127 14 = some (.return_, 1, 0, 0, 0, []) := rfl
theorem cd_128_0 : cd 128 0 = some (.iload_n 1, 1, 0, 0, 0, []) := rfl
theorem cd_128_1 : cd 128 1 = some (.ifCond .lt 13, 3, 0, 0, 0, []) := rfl
theorem cd_128_4 : cd 128 4 = some (.iload_n 1, 1, 0, 0, 0, []) := rfl
theorem cd_128_5 : cd 128 5 = some (.aload_n 0, 1, 0, 0, 0, []) := rfl
theorem cd_128_6 : cd 128 6 = some (.arraylength, 1, 0, 0, 0, []) := rfl
theorem cd_128_7 : cd 128 7 = some (.if_icmp .ge 7, 3, 0, 0, 0, []) := rfl
theorem cd_128_10 : cd 128 10 = some (.aload_n 0, 1, 0, 0, 0, []) := rfl
theorem cd_128_11 : cd 128 11 = some (.iload_n 1, 1, 0, 0, 0, []) := rfl
theorem cd_128_12 : cd 128 12 = some (.lload_n 2, 1, 0, 0, 0, []) := rfl
theorem cd_128_13 : cd 128 13 = some (.lastore, 1, 0, 0, 0, []) := rfl
theorem cd_128_14 : cd 128 14 = some (.return_, 1, 0, 0, 0, []) := rfl
theorem cd_129_0 : cd 129 0 = some (.iconst 0, 1, 0, 0, 0, []) := rfl
theorem cd_129_1 : cd 129 1 = some (.istore_n 2, 1, 0, 0, 0, []) := rfl
theorem cd_129_2 : cd 129 2 = some (.iload_n 2, 1, 0, 0, 0, []) := rfl
theorem cd_129_3 : cd 129 3 = some (.aload_n 0, 1, 0, 0, 0, []) := rfl
theorem cd_129_4 : cd 129 4 = some (.arraylength, 1, 0, 0, 0, []) := rfl
theorem cd_129_5 : cd 129 5 = some (.if_icmp .ge 21, 3, 0, 0, 0, []) := rfl
theorem cd_129_8 : cd 129 8 = some (.iload_n 2, 1, 0, 0, 0, []) := rfl
theorem cd_129_9 : cd 129 9 = some (.aload_n 1, 1, 0, 0, 0, []) := rfl
theorem cd_129_10 : cd 129 10 = some (.arraylength, 1, 0, 0, 0, []) := rfl
theorem cd_129_11 : cd 129 11 = some (.if_icmp .ge 15, 3, 0, 0, 0, []) := rfl
theorem cd_129_14 : cd 129 14 = some (.aload_n 1, 1, 0, 0, 0, []) := rfl
theorem cd_129_15 : cd 129 15 = some (.iload_n 2, 1, 0, 0, 0, []) := rfl
theorem cd_129_16 : cd 129 16 = some (.aload_n 0, 1, 0, 0, 0, []) := rfl
theorem cd_129_17 : cd 129 17 = some (.iload_n 2, 1, 0, 0, 0, []) := rfl
theorem cd_129_18 : cd 129 18 = some (.iaload, 1, 0, 0, 0, []) := rfl
theorem cd_129_19 : cd 129 19 = some (.iastore, 1, 0, 0, 0, []) := rfl
theorem cd_129_20 : cd 129 20 = some (.iinc 2 1, 3, 0, 0, 0, []) := rfl
theorem cd_129_23 : cd 129 23 = some (.goto (-21), 3, 0, 0, 0, []) := rfl
theorem cd_129_26 : cd 129 26 = some (.return_, 1, 0, 0, 0, []) := rfl
end
section
/-! ===== the code table, row by row: by program (wip/p28/gen4.py) ===== -/
theorem cd_130_0 : cd 130 0 = some (.iload_n 1, 1, 0, 0, 0, []) := rfl
theorem cd_130_1 : cd 130 1 = some (.aload_n 0, 1, 0, 0, 0, []) := rfl
theorem cd_130_2 : cd 130 2 = some (.arraylength, 1, 0, 0, 0, []) := rfl
theorem cd_130_3 : cd 130 3 = some (.if_icmp .ge 9, 3, 0, 0, 0, []) := rfl
theorem cd_130_6 : cd 130 6 = some (.aload_n 0, 1, 0, 0, 0, []) := rfl
theorem cd_130_7 : cd 130 7 = some (.iload_n 1, 1, 0, 0, 0, []) := rfl
theorem cd_130_8 : cd 130 8 = some (.iaload, 1, 0, 0, 0, []) := rfl
theorem cd_130_9 : cd 130 9 = some (.goto 9, 3, 0, 0, 0, []) := rfl
theorem cd_130_12 : cd 130 12 = some (.ldc 7, 2, 0, 0, 0, []) := rfl
theorem cd_130_14 : cd 130 14 = some (.iload_n 1, 1, 0, 0, 0, []) := rfl
theorem cd_130_15 : cd 130 15 = some (.iconst 3, 1, 0, 0, 0, []) := rfl
theorem cd_130_16 : cd 130 16 = some (.iadd, 1, 0, 0, 0, []) := rfl
theorem cd_130_17 : cd 130 17 = some (.imul, 1, 0, 0, 0, []) := rfl
theorem cd_130_18 : cd 130 18 = some (.istore_n 2, 1, 0, 0, 0, []) := rfl
theorem cd_130_19 : cd 130 19 = some (.iload_n 2, 1, 0, 0, 0, []) := rfl
theorem cd_130_20 : cd 130 20 = some (.iload_n 2, 1, 0, 0, 0, []) := rfl
theorem cd_130_21 : cd 130 21 = some (.bipush 15, 2, 0, 0, 0, []) := rfl
theorem cd_130_23 : cd 130 23 = some (.iushr, 1, 0, 0, 0, []) := rfl
theorem cd_130_24 : cd 130 24 = some (.ixor, 1, 0, 0, 0, []) := rfl
theorem cd_130_25 : cd 130 25 = some (.ireturn, 1, 0, 0, 0, []) := rfl
theorem cd_131_0 : cd 131 0 = some (.iload_n 0, 1, 0, 0, 0, []) := rfl
theorem cd_131_1 : cd 131 1 = some (.ldc 8, 2, 1, 0, 0, []) := rfl
theorem cd_131_3 : cd 131 3 = some (.iand, 1, 0, 0, 0, []) := rfl
theorem cd_131_4 : cd 131 4 = some (.iload_n 1, 1, 0, 0, 0, []) := rfl
theorem cd_131_5 : cd 131 5 = some (.irem, 1, 0, 0, 0, []) := rfl
theorem cd_131_6 : cd 131 6 = some (.ireturn, 1, 0, 0, 0, []) := rfl
theorem cd_132_0 : cd 132 0 = some (.aload_n 0, 1, 0, 0, 0, []) := rfl
theorem cd_132_1 : cd 132 1 = some (.iload_n 1, 1, 0, 0, 0, []) := rfl
theorem cd_132_2 : cd 132 2 = some (.iload_n 2, 1, 0, 0, 0, []) := rfl
theorem cd_132_3 : cd 132 3 = some (.invokevirtual 9, 3, 81, 3, 0, []) := rfl
theorem cd_132_6 : cd 132 6 = some (.istore_n 3, 1, 0, 0, 0, []) := rfl
theorem cd_132_7 : cd 132 7 = some (.goto 8, 3, 0, 0, 0, []) := rfl
theorem cd_132_15 : cd 132 15 = some (.iload_n 3, 1, 0, 0, 0, []) := rfl
theorem cd_132_16 : cd 132 16 = some (.ireturn, 1, 0, 0, 0, []) := rfl
theorem cd_133_0 : cd 133 0 = some (.aload_n 0, 1, 0, 0, 0, []) := rfl
theorem cd_133_1 : cd 133 1 = some (.iload_n 1, 1, 0, 0, 0, []) := rfl
theorem cd_133_2 : cd 133 2 = some (.iload_n 2, 1, 0, 0, 0, []) := rfl
theorem cd_133_3 : cd 133 3 = some (.invokevirtual 18, 3, 82, 3, 0, []) := rfl
theorem cd_133_6 : cd 133 6 = some (.istore_n 3, 1, 0, 0, 0, []) := rfl
theorem cd_133_7 : cd 133 7 = some (.goto 13, 3, 0, 0, 0, []) := rfl
theorem cd_133_20 : cd 133 20 = some (.iload_n 3, 1, 0, 0, 0, []) := rfl
theorem cd_133_21 : cd 133 21 = some (.ireturn, 1, 0, 0, 0, []) := rfl
theorem cd_134_0 : cd 134 0 = some (.aload_n 0, 1, 0, 0, 0, []) := rfl
theorem cd_134_1 : cd 134 1 = some (.invokevirtual 24, 3, 85, 1, 0, []) := rfl
theorem cd_134_4 : cd 134 4 = some (.istore_n 1, 1, 0, 0, 0, []) := rfl
theorem cd_134_5 : cd 134 5 = some (.goto 7, 3, 0, 0, 0, []) := rfl
theorem cd_134_12 : cd 134 12 = some (.iload_n 1, 1, 0, 0, 0, []) := rfl
theorem cd_134_13 : cd 134 13 = some (.ireturn, 1, 0, 0, 0, []) := rfl
theorem cd_135_0 : cd 135 0 = some (.aload_n 0, 1, 0, 0, 0, []) := rfl
theorem cd_135_1 : cd 135 1 = some (.iload_n 1, 1, 0, 0, 0, []) := rfl
theorem cd_135_2 : cd 135 2 = some (.invokevirtual 31, 3, 86, 2, 0, []) := rfl
theorem cd_135_5 : cd 135 5 = some (.istore_n 2, 1, 0, 0, 0, []) := rfl
theorem cd_135_6 : cd 135 6 = some (.goto 7, 3, 0, 0, 0, []) := rfl
theorem cd_135_13 : cd 135 13 = some (.iload_n 2, 1, 0, 0, 0, []) := rfl
theorem cd_135_14 : cd 135 14 = some (.ireturn, 1, 0, 0, 0, []) := rfl
theorem cd_136_0 : cd 136 0 = some (.aload_n 0, 1, 0, 0, 0, []) := rfl
theorem cd_136_1 : cd 136 1 = some (.iload_n 1, 1, 0, 0, 0, []) := rfl
theorem cd_136_2 : cd 136 2 = some (.iload_n 2, 1, 0, 0, 0, []) := rfl
theorem cd_136_3 : cd 136 3 = some (.invokevirtual 35, 3, 87, 3, 0, []) := rfl
theorem cd_136_6 : cd 136 6 = some (.istore_n 3, 1, 0, 0, 0, []) := rfl
theorem cd_136_7 : cd 136 7 = some (.goto 13, 3, 0, 0, 0, []) := rfl
theorem cd_136_20 : cd 136 20 = some (.iload_n 3, 1, 0, 0, 0, []) := rfl
theorem cd_136_21 : cd 136 21 = some (.ireturn, 1, 0, 0, 0, []) := rfl
theorem cd_137_0 : cd 137 0 = some (.aload_n 0, 1, 0, 0, 0, []) := rfl
theorem cd_137_1 : cd 137 1 = some (.iload_n 1, 1, 0, 0, 0, []) := rfl
theorem cd_137_2 : cd 137 2 = some (.invokevirtual 38, 3, 88, 2, 0, []) := rfl
theorem cd_137_5 : cd 137 5 = some (.istore_n 2, 1, 0, 0, 0, []) := rfl
theorem cd_137_6 : cd 137 6 = some (.goto 7, 3, 0, 0, 0, []) := rfl
theorem cd_137_13 : cd 137 13 = some (.iload_n 2, 1, 0, 0, 0, []) := rfl
theorem cd_137_14 : cd 137 14 = some (.ireturn, 1, 0, 0, 0, []) := rfl
theorem cd_138_0 : cd 138 0 = some (.aload_n 0, 1, 0, 0, 0, []) := rfl
theorem cd_138_1 : cd 138 1 = some (.iload_n 1, 1, 0, 0, 0, []) := rfl
theorem cd_138_2 : cd 138 2 = some (.iload_n 2, 1, 0, 0, 0, []) := rfl
theorem cd_138_3 : cd 138 3 = some (.invokevirtual 41, 3, 89, 3, 0, []) := rfl
theorem cd_138_6 : cd 138 6 = some (.istore_n 3, 1, 0, 0, 0, []) := rfl
theorem cd_138_7 : cd 138 7 = some (.goto 8, 3, 0, 0, 0, []) := rfl
theorem cd_138_15 : cd 138 15 = some (.iload_n 3, 1, 0, 0, 0, []) := rfl
theorem cd_138_16 : cd 138 16 = some (.ireturn, 1, 0, 0, 0, []) := rfl
theorem cd_139_0 : cd 139 0 = some (.aload_n 0, 1, 0, 0, 0, []) := rfl
theorem cd_139_1 : cd 139 1 = some (.iload_n 1, 1, 0, 0, 0, []) := rfl
theorem cd_139_2 : cd 139 2 = some (.iload_n 2, 1, 0, 0, 0, []) := rfl
theorem cd_139_3 : cd 139 3 = some (.invokevirtual 44, 3, 90, 3, 0, []) := rfl
theorem cd_139_6 : cd 139 6 = some (.istore_n 3, 1, 0, 0, 0, []) := rfl
theorem cd_139_7 : cd 139 7 = some (.goto 13, 3, 0, 0, 0, []) := rfl
theorem cd_139_20 : cd 139 20 = some (.iload_n 3, 1, 0, 0, 0, []) := rfl
theorem cd_139_21 : cd 139 21 = some (.ireturn, 1, 0, 0, 0, []) := rfl
theorem cd_140_0 : cd 140 0 = some (.aload_n 0, 1, 0, 0, 0, []) := rfl
theorem cd_140_1 : cd 140 1 = some (.iload_n 1, 1, 0, 0, 0, []) := rfl
theorem cd_140_2 : cd 140 2 = some (.iload_n 2, 1, 0, 0, 0, []) := rfl
theorem cd_140_3 : cd 140 3 = some (.invokevirtual 47, 3, 91, 3, 0, []) := rfl
theorem cd_140_6 : cd 140 6 = some (.istore_n 3, 1, 0, 0, 0, []) := rfl
theorem cd_140_7 : cd 140 7 = some (.goto 8, 3, 0, 0, 0, []) := rfl
theorem cd_140_15 : cd 140 15 = some (.iload_n 3, 1, 0, 0, 0, []) := rfl
theorem cd_140_16 : cd 140 16 = some (.ireturn, 1, 0, 0, 0, []) := rfl
theorem cd_141_0 : cd 141 0 = some (.aload_n 0, 1, 0, 0, 0, []) := rfl
theorem cd_141_1 : cd 141 1 = some (.iload_n 1, 1, 0, 0, 0, []) := rfl
theorem cd_141_2 : cd 141 2 = some (.iload_n 2, 1, 0, 0, 0, []) := rfl
theorem cd_141_3 : cd 141 3 = some (.invokevirtual 50, 3, 92, 3, 0, []) := rfl
theorem cd_141_6 : cd 141 6 = some (.istore_n 3, 1, 0, 0, 0, []) := rfl
theorem cd_141_7 : cd 141 7 = some (.goto 8, 3, 0, 0, 0, []) := rfl
theorem cd_141_15 : cd 141 15 = some (.iload_n 3, 1, 0, 0, 0, []) := rfl
theorem cd_141_16 : cd 141 16 = some (.ireturn, 1, 0, 0, 0, []) := rfl
theorem cd_142_0 : cd 142 0 = some (.aload_n 0, 1, 0, 0, 0, []) := rfl
theorem cd_142_1 : cd 142 1 = some (.iload_n 1, 1, 0, 0, 0, []) := rfl
theorem cd_142_2 : cd 142 2 = some (.invokevirtual 53, 3, 93, 2, 0, []) := rfl
theorem cd_142_5 : cd 142 5 = some (.istore_n 2, 1, 0, 0, 0, []) := rfl
theorem cd_142_6 : cd 142 6 = some (.goto 7, 3, 0, 0, 0, []) := rfl
theorem cd_142_13 : cd 142 13 = some (.iload_n 2, 1, 0, 0, 0, []) := rfl
theorem cd_142_14 : cd 142 14 = some (.ireturn, 1, 0, 0, 0, []) := rfl
theorem cd_143_0 : cd 143 0 = some (.aload_n 0, 1, 0, 0, 0, []) := rfl
theorem cd_143_1 : cd 143 1 = some (.iload_n 1, 1, 0, 0, 0, []) := rfl
theorem cd_143_2 : cd 143 2 = some (.invokevirtual 56, 3, 94, 2, 0, []) := rfl
theorem cd_143_5 : cd 143 5 = some (.istore_n 2, 1, 0, 0, 0, []) := rfl
theorem cd_143_6 : cd 143 6 = some (.goto 7, 3, 0, 0, 0, []) := rfl
theorem cd_143_13 : cd 143 13 = some (.iload_n 2, 1, 0, 0, 0, []) := rfl
theorem cd_143_14 : cd 143 14 = some (.ifCond .eq 7, 3, 0, 0, 0, []) := rfl
theorem cd_143_17 : cd 143 17 = some (.iconst 1, 1, 0, 0, 0, []) := rfl
theorem cd_143_18 : cd 143 18 = some (.goto 4, 3, 0, 0, 0, []) := rfl
theorem cd_143_21 : cd 143 21 = some (.iconst 0, 1, 0, 0, 0, []) := rfl
theorem cd_143_22 : cd 143 22 = some (.ireturn, 1, 0, 0, 0, []) := rfl
theorem cd_144_0 : cd 144 0 = some (.aload_n 0, 1, 0, 0, 0, []) := rfl
theorem cd_144_1 : cd 144 1 = some (.iload_n 1, 1, 0, 0, 0, []) := rfl
theorem cd_144_2 : cd 144 2 = some (.invokevirtual 60, 3, 95, 2, 0, []) := rfl
theorem cd_144_5 : cd 144 5 = some (.istore_n 2, 1, 0, 0, 0, []) := rfl
theorem cd_144_6 : cd 144 6 = some (.goto 7, 3, 0, 0, 0, []) := rfl
theorem cd_144_13 : cd 144 13 = some (.iload_n 2, 1, 0, 0, 0, []) := rfl
theorem cd_144_14 : cd 144 14 = some (.ireturn, 1, 0, 0, 0, []) := rfl
theorem cd_145_0 : cd 145 0 = some (.aload_n 0, 1, 0, 0, 0, []) := rfl
theorem cd_145_1 : cd 145 1 = some (.iload_n 1, 1, 0, 0, 0, []) := rfl
theorem cd_145_2 : cd 145 2 = some (.invokevirtual 63, 3, 96, 2, 0, []) := rfl
theorem cd_145_5 : cd 145 5 = some (.istore_n 2, 1, 0, 0, 0, []) := rfl
theorem cd_145_6 : cd 145 6 = some (.goto 7, 3, 0, 0, 0, []) := rfl
theorem cd_145_13 : cd 145 13 = some (.iload_n 2, 1, 0, 0, 0, []) := rfl
theorem cd_145_14 : cd 145 14 = some (.ireturn, 1, 0, 0, 0, []) := rfl
theorem cd_146_0 : cd 146 0 = some (.aload_n 0, 1, 0, 0, 0, []) := rfl
theorem cd_146_1 : cd 146 1 = some (.iload_n 1, 1, 0, 0, 0, []) := rfl
theorem cd_146_2 : cd 146 2 = some (.invokevirtual 66, 3, 97, 2, 0, []) := rfl
theorem cd_146_5 : cd 146 5 = some (.istore_n 2, 1, 0, 0, 0, []) := rfl
theorem cd_146_6 : cd 146 6 = some (.goto 7, 3, 0, 0, 0, []) := rfl
theorem cd_146_13 : cd 146 13 = some (.iload_n 2, 1, 0, 0, 0, []) := rfl
theorem cd_146_14 : cd 146 14 = some (.ireturn, 1, 0, 0, 0, []) := rfl
theorem cd_147_0 : cd 147 0 = some (.aload_n 0, 1, 0, 0, 0, []) := rfl
theorem cd_147_1 : cd 147 1 = some (.iload_n 1, 1, 0, 0, 0, []) := rfl
theorem cd_147_2 : cd 147 2 = some (.invokevirtual 69, 3, 101, 2, 0, []) := rfl
theorem cd_147_5 : cd 147 5 = some (.istore_n 2, 1, 0, 0, 0, []) := rfl
theorem cd_147_6 : cd 147 6 = some (.goto 11, 3, 0, 0, 0, []) := rfl
theorem cd_147_17 : cd 147 17 = some (.iload_n 2, 1, 0, 0, 0, []) := rfl
theorem cd_147_18 : cd 147 18 = some (.ireturn, 1, 0, 0, 0, []) := rfl
theorem cd_148_0 : cd 148 0 = some (.aload_n 0, 1, 0, 0, 0, []) := rfl
theorem cd_148_1 : cd 148 1 = some (.invokevirtual 72, 3, 104, 1, 0, []) := rfl
theorem cd_148_4 : cd 148 4 = some (.istore_n 1, 1, 0, 0, 0, []) := rfl
theorem cd_148_5 : cd 148 5 = some (.goto 7, 3, 0, 0, 0, []) := rfl
theorem cd_148_12 : cd 148 12 = some (.iload_n 1, 1, 0, 0, 0, []) := rfl
theorem cd_148_13 : cd 148 13 = some (.ireturn, 1, 0, 0, 0, []) := rfl
theorem cd_149_0 : cd 149 0 = some (.ldc2_w 75, 3, 1, 0, 0, []) := rfl
theorem cd_149_3 : cd 149 3 = some (.lstore_n 1, 1, 0, 0, 0, []) := rfl
theorem cd_149_4 : cd 149 4 = some (.iconst 0, 1, 0, 0, 0, []) := rfl
theorem cd_149_5 : cd 149 5 = some (.istore_n 3, 1, 0, 0, 0, []) := rfl
theorem cd_149_6 : cd 149 6 = some (.iload_n 3, 1, 0, 0, 0, [2]) := rfl
theorem cd_149_7 : cd 149 7 = some (.bipush 10, 2, 0, 0, 0, []) := rfl
theorem cd_149_9 : cd 149 9 = some (.if_icmp .ge 22, 3, 0, 0, 0, []) := rfl
theorem cd_149_12 : cd 149 12 = some (.ldc2_w 77, 3, 2, 0, 0, []) := rfl
theorem cd_149_15 : cd 149 15 = some (.lload_n 1, 1, 0, 0, 0, []) := rfl
theorem cd_149_16 : cd 149 16 = some (.lmul, 1, 0, 0, 0, []) := rfl
theorem cd_149_17 : cd 149 17 = some (.aload_n 0, 1, 0, 0, 0, []) := rfl
theorem cd_149_18 : cd 149 18 = some (.iload_n 3, 1, 0, 0, 0, []) := rfl
theorem cd_149_19 : cd 149 19 = some (.invokestatic 79, 3, 137, 2, 7, []) := rfl
theorem cd_149_22 : cd 149 22 = some (.i2l, 1, 0, 0, 0, []) := rfl
theorem cd_149_23 : cd 149 23 = some (.ladd, 1, 0, 0, 0, []) := rfl
theorem cd_149_24 : cd 149 24 = some (.lstore_n 1, 1, 0, 0, 0, []) := rfl
theorem cd_149_25 : cd 149 25 = some (.iinc 3 1, 3, 0, 0, 0, []) := rfl
theorem cd_149_28 : cd 149 28 = some (.goto (-22), 3, 0, 0, 0, []) := rfl
theorem cd_149_31 : cd 149 31 = some (.iconst 0, 1, 0, 0, 0, []) := rfl
theorem cd_149_32 : cd 149 32 = some (.istore_n 3, 1, 0, 0, 0, []) := rfl
theorem cd_149_33 : cd 149 33 = some (.iload_n 3, 1, 0, 0, 0, [2]) := rfl
theorem cd_149_34 : cd 149 34 = some (.bipush 49, 2, 0, 0, 0, []) := rfl
theorem cd_149_36 : cd 149 36 = some (.if_icmp .ge 23, 3, 0, 0, 0, []) := rfl
theorem cd_149_39 : cd 149 39 = some (.ldc2_w 77, 3, 2, 0, 0, []) := rfl
theorem cd_149_42 : cd 149 42 = some (.lload_n 1, 1, 0, 0, 0, []) := rfl
theorem cd_149_43 : cd 149 43 = some (.lmul, 1, 0, 0, 0, []) := rfl
theorem cd_149_44 : cd 149 44 = some (.aload_n 0, 1, 0, 0, 0, []) := rfl
theorem cd_149_45 : cd 149 45 = some (.iload_n 3, 1, 0, 0, 0, []) := rfl
theorem cd_149_46 : cd 149 46 = some (.iconst 0, 1, 0, 0, 0, []) := rfl
theorem cd_149_47 : cd 149 47 = some (.invokestatic 84, 3, 136, 3, 7, []) := rfl
theorem cd_149_50 : cd 149 50 = some (.i2l, 1, 0, 0, 0, []) := rfl
theorem cd_149_51 : cd 149 51 = some (.ladd, 1, 0, 0, 0, []) := rfl
theorem cd_149_52 : cd 149 52 = some (.lstore_n 1, 1, 0, 0, 0, []) := rfl
theorem cd_149_53 : cd 149 53 = some (.iinc 3 1, 3, 0, 0, 0, []) := rfl
theorem cd_149_56 : cd 149 56 = some (.goto (-23), 3, 0, 0, 0, []) := rfl
theorem cd_149_59 : cd 149 59 = some (.iconst 0, 1, 0, 0, 0, []) := rfl
theorem cd_149_60 : cd 149 60 = some (.istore_n 3, 1, 0, 0, 0, []) := rfl
theorem cd_149_61 : cd 149 61 = some (.iload_n 3, 1, 0, 0, 0, [2]) := rfl
theorem cd_149_62 : cd 149 62 = some (.bipush 28, 2, 0, 0, 0, []) := rfl
theorem cd_149_64 : cd 149 64 = some (.if_icmp .ge 34, 3, 0, 0, 0, []) := rfl
theorem cd_149_67 : cd 149 67 = some (.ldc2_w 77, 3, 2, 0, 0, []) := rfl
theorem cd_149_70 : cd 149 70 = some (.ldc2_w 77, 3, 2, 0, 0, []) := rfl
theorem cd_149_73 : cd 149 73 = some (.lload_n 1, 1, 0, 0, 0, []) := rfl
theorem cd_149_74 : cd 149 74 = some (.lmul, 1, 0, 0, 0, []) := rfl
theorem cd_149_75 : cd 149 75 = some (.aload_n 0, 1, 0, 0, 0, []) := rfl
theorem cd_149_76 : cd 149 76 = some (.iload_n 3, 1, 0, 0, 0, []) := rfl
theorem cd_149_77 : cd 149 77 = some (.iconst 1, 1, 0, 0, 0, []) := rfl
theorem cd_149_78 : cd 149 78 = some (.invokestatic 88, 3, 139, 3, 7, []) := rfl
theorem cd_149_81 : cd 149 81 = some (.i2l, 1, 0, 0, 0, []) := rfl
theorem cd_149_82 : cd 149 82 = some (.ladd, 1, 0, 0, 0, []) := rfl
theorem cd_149_83 : cd 149 83 = some (.lmul, 1, 0, 0, 0, []) := rfl
theorem cd_149_84 : cd 149 84 = some (.aload_n 0, 1, 0, 0, 0, []) := rfl
theorem cd_149_85 : cd 149 85 = some (.iload_n 3, 1, 0, 0, 0, []) := rfl
theorem cd_149_86 : cd 149 86 = some (.invokestatic 90, 3, 142, 2, 7, []) := rfl
theorem cd_149_89 : cd 149 89 = some (.i2l, 1, 0, 0, 0, []) := rfl
theorem cd_149_90 : cd 149 90 = some (.ladd, 1, 0, 0, 0, []) := rfl
theorem cd_149_91 : cd 149 91 = some (.lstore_n 1, 1, 0, 0, 0, []) := rfl
theorem cd_149_92 : cd 149 92 = some (.iinc 3 1, 3, 0, 0, 0, []) := rfl
theorem cd_149_95 : cd 149 95 = some (.goto (-34), 3, 0, 0, 0, []) := rfl
theorem cd_149_98 : cd 149 98 = some (.iconst 0, 1, 0, 0, 0, []) := rfl
theorem cd_149_99 : cd 149 99 = some (.istore_n 3, 1, 0, 0, 0, []) := rfl
theorem cd_149_100 : cd 149 100 = some (.iload_n 3, 1, 0, 0, 0, [2]) := rfl
theorem cd_149_101 : cd 149 101 = some (.bipush 64, 2, 0, 0, 0, []) := rfl
theorem cd_149_103 : cd 149 103 = some (.if_icmp .ge 29, 3, 0, 0, 0, []) := rfl
theorem cd_149_106 : cd 149 106 = some (.ldc2_w 77, 3, 2, 0, 0, []) := rfl
theorem cd_149_109 : cd 149 109 = some (.lload_n 1, 1, 0, 0, 0, []) := rfl
theorem cd_149_110 : cd 149 110 = some (.lmul, 1, 0, 0, 0, []) := rfl
theorem cd_149_111 : cd 149 111 = some (.aload_n 0, 1, 0, 0, 0, []) := rfl
theorem cd_149_112 : cd 149 112 = some (.iload_n 3, 1, 0, 0, 0, []) := rfl
theorem cd_149_113 : cd 149 113 = some (.bipush 8, 2, 0, 0, 0, []) := rfl
theorem cd_149_115 : cd 149 115 = some (.idiv, 1, 0, 0, 0, []) := rfl
theorem cd_149_116 : cd 149 116 = some (.iload_n 3, 1, 0, 0, 0, []) := rfl
theorem cd_149_117 : cd 149 117 = some (.bipush 8, 2, 0, 0, 0, []) := rfl
theorem cd_149_119 : cd 149 119 = some (.irem, 1, 0, 0, 0, []) := rfl
theorem cd_149_120 : cd 149 120 = some (.invokestatic 92, 3, 138, 3, 7, []) := rfl
theorem cd_149_123 : cd 149 123 = some (.i2l, 1, 0, 0, 0, []) := rfl
theorem cd_149_124 : cd 149 124 = some (.ladd, 1, 0, 0, 0, []) := rfl
theorem cd_149_125 : cd 149 125 = some (.lstore_n 1, 1, 0, 0, 0, []) := rfl
theorem cd_149_126 : cd 149 126 = some (.iinc 3 1, 3, 0, 0, 0, []) := rfl
theorem cd_149_129 : cd 149 129 = some (.goto (-29), 3, 0, 0, 0, []) := rfl
theorem cd_149_132 : cd 149 132 = some (.lload_n 1, 1, 0, 0, 0, []) := rfl
theorem cd_149_133 : cd 149 133 = some (.lreturn, 1, 0, 0, 0, []) := rfl
theorem cd_150_0 : cd 150 0 = some (.aload_n 0, 1, 0, 0, 0, []) := rfl
theorem cd_150_1 : cd 150 1 = some (.invokestatic 94, 3, 149, 1, 2, []) := rfl
theorem cd_150_4 : cd 150 4 = some (.lstore_n 1, 1, 0, 0, 0, []) := rfl
theorem cd_150_5 : cd 150 5 = some (.aload_n 0, 1, 0, 0, 0, []) := rfl
theorem cd_150_6 : cd 150 6 = some (.iconst 0, 1, 0, 0, 0, []) := rfl
theorem cd_150_7 : cd 150 7 = some (.invokestatic 79, 3, 137, 2, 7, []) := rfl
theorem cd_150_10 : cd 150 10 = some (.aload_n 0, 1, 0, 0, 0, []) := rfl
theorem cd_150_11 : cd 150 11 = some (.iconst 1, 1, 0, 0, 0, []) := rfl
theorem cd_150_12 : cd 150 12 = some (.invokestatic 79, 3, 137, 2, 7, []) := rfl
theorem cd_150_15 : cd 150 15 = some (.imul, 1, 0, 0, 0, []) := rfl
theorem cd_150_16 : cd 150 16 = some (.istore_n 3, 1, 0, 0, 0, []) := rfl
theorem cd_150_17 : cd 150 17 = some (.aload_n 0, 1, 0, 0, 0, []) := rfl
theorem cd_150_18 : cd 150 18 = some (.bipush 6, 2, 0, 0, 0, []) := rfl
theorem cd_150_20 : cd 150 20 = some (.invokestatic 79, 3, 137, 2, 7, []) := rfl
theorem cd_150_23 : cd 150 23 = some (.istore 4, 2, 0, 0, 0, []) := rfl
theorem cd_150_25 : cd 150 25 = some (.aload_n 0, 1, 0, 0, 0, []) := rfl
theorem cd_150_26 : cd 150 26 = some (.iconst 1, 1, 0, 0, 0, []) := rfl
theorem cd_150_27 : cd 150 27 = some (.bipush 7, 2, 0, 0, 0, []) := rfl
theorem cd_150_29 : cd 150 29 = some (.invokestatic 98, 3, 132, 3, 7, []) := rfl
theorem cd_150_32 : cd 150 32 = some (.ldc 17, 2, 2, 0, 0, []) := rfl
theorem cd_150_34 : cd 150 34 = some (.if_icmp .ne 189, 3, 0, 0, 0, []) := rfl
theorem cd_150_37 : cd 150 37 = some (.aload_n 0, 1, 0, 0, 0, []) := rfl
theorem cd_150_38 : cd 150 38 = some (.bipush 7, 2, 0, 0, 0, []) := rfl
theorem cd_150_40 : cd 150 40 = some (.bipush 8, 2, 0, 0, 0, []) := rfl
theorem cd_150_42 : cd 150 42 = some (.invokestatic 98, 3, 132, 3, 7, []) := rfl
theorem cd_150_45 : cd 150 45 = some (.ldc 17, 2, 2, 0, 0, []) := rfl
theorem cd_150_47 : cd 150 47 = some (.if_icmp .ne 176, 3, 0, 0, 0, []) := rfl
theorem cd_150_50 : cd 150 50 = some (.aload_n 0, 1, 0, 0, 0, []) := rfl
theorem cd_150_51 : cd 150 51 = some (.iload_n 3, 1, 0, 0, 0, []) := rfl
theorem cd_150_52 : cd 150 52 = some (.bipush 97, 2, 0, 0, 0, []) := rfl
theorem cd_150_54 : cd 150 54 = some (.invokestatic 100, 3, 133, 3, 7, []) := rfl
theorem cd_150_57 : cd 150 57 = some (.ldc 23, 2, 3, 0, 0, []) := rfl
theorem cd_150_59 : cd 150 59 = some (.if_icmp .ne 164, 3, 0, 0, 0, []) := rfl
theorem cd_150_62 : cd 150 62 = some (.aload_n 0, 1, 0, 0, 0, []) := rfl
theorem cd_150_63 : cd 150 63 = some (.iconst (-1), 1, 0, 0, 0, []) := rfl
theorem cd_150_64 : cd 150 64 = some (.bipush 46, 2, 0, 0, 0, []) := rfl
theorem cd_150_66 : cd 150 66 = some (.invokestatic 100, 3, 133, 3, 7, []) := rfl
theorem cd_150_69 : cd 150 69 = some (.ldc 23, 2, 3, 0, 0, []) := rfl
theorem cd_150_71 : cd 150 71 = some (.if_icmp .ne 152, 3, 0, 0, 0, []) := rfl
theorem cd_150_74 : cd 150 74 = some (.aload_n 0, 1, 0, 0, 0, []) := rfl
theorem cd_150_75 : cd 150 75 = some (.iconst 0, 1, 0, 0, 0, []) := rfl
theorem cd_150_76 : cd 150 76 = some (.bipush 124, 2, 0, 0, 0, []) := rfl
theorem cd_150_78 : cd 150 78 = some (.invokestatic 100, 3, 133, 3, 7, []) := rfl
theorem cd_150_81 : cd 150 81 = some (.ldc 17, 2, 2, 0, 0, []) := rfl
theorem cd_150_83 : cd 150 83 = some (.if_icmp .ne 140, 3, 0, 0, 0, []) := rfl
theorem cd_150_86 : cd 150 86 = some (.aload_n 0, 1, 0, 0, 0, []) := rfl
theorem cd_150_87 : cd 150 87 = some (.iconst 0, 1, 0, 0, 0, []) := rfl
theorem cd_150_88 : cd 150 88 = some (.bipush 32, 2, 0, 0, 0, []) := rfl
theorem cd_150_90 : cd 150 90 = some (.invokestatic 100, 3, 133, 3, 7, []) := rfl
theorem cd_150_93 : cd 150 93 = some (.ldc 17, 2, 2, 0, 0, []) := rfl
theorem cd_150_95 : cd 150 95 = some (.if_icmp .ne 128, 3, 0, 0, 0, []) := rfl
theorem cd_150_98 : cd 150 98 = some (.aload_n 0, 1, 0, 0, 0, []) := rfl
theorem cd_150_99 : cd 150 99 = some (.aload_n 0, 1, 0, 0, 0, []) := rfl
theorem cd_150_100 : cd 150 100 = some (.bipush 9, 2, 0, 0, 0, []) := rfl
theorem cd_150_102 : cd 150 102 = some (.invokestatic 79, 3, 137, 2, 7, []) := rfl
theorem cd_150_105 : cd 150 105 = some (.invokestatic 102, 3, 135, 2, 7, []) := rfl
theorem cd_150_108 : cd 150 108 = some (.ldc 23, 2, 3, 0, 0, []) := rfl
theorem cd_150_110 : cd 150 110 = some (.if_icmp .ne 113, 3, 0, 0, 0, []) := rfl
theorem cd_150_113 : cd 150 113 = some (.aload_n 0, 1, 0, 0, 0, []) := rfl
theorem cd_150_114 : cd 150 114 = some (.iload_n 3, 1, 0, 0, 0, []) := rfl
theorem cd_150_115 : cd 150 115 = some (.iconst 0, 1, 0, 0, 0, []) := rfl
theorem cd_150_116 : cd 150 116 = some (.invokestatic 84, 3, 136, 3, 7, []) := rfl
theorem cd_150_119 : cd 150 119 = some (.ldc 23, 2, 3, 0, 0, []) := rfl
theorem cd_150_121 : cd 150 121 = some (.if_icmp .ne 102, 3, 0, 0, 0, []) := rfl
theorem cd_150_124 : cd 150 124 = some (.aload_n 0, 1, 0, 0, 0, []) := rfl
theorem cd_150_125 : cd 150 125 = some (.iconst 0, 1, 0, 0, 0, []) := rfl
theorem cd_150_126 : cd 150 126 = some (.iconst (-1), 1, 0, 0, 0, []) := rfl
theorem cd_150_127 : cd 150 127 = some (.invokestatic 84, 3, 136, 3, 7, []) := rfl
theorem cd_150_130 : cd 150 130 = some (.ldc 17, 2, 2, 0, 0, []) := rfl
theorem cd_150_132 : cd 150 132 = some (.if_icmp .ne 91, 3, 0, 0, 0, []) := rfl
theorem cd_150_135 : cd 150 135 = some (.aload_n 0, 1, 0, 0, 0, []) := rfl
theorem cd_150_136 : cd 150 136 = some (.iconst (-1), 1, 0, 0, 0, []) := rfl
theorem cd_150_137 : cd 150 137 = some (.invokestatic 79, 3, 137, 2, 7, []) := rfl
theorem cd_150_140 : cd 150 140 = some (.ldc 17, 2, 2, 0, 0, []) := rfl
theorem cd_150_142 : cd 150 142 = some (.if_icmp .ne 81, 3, 0, 0, 0, []) := rfl
theorem cd_150_145 : cd 150 145 = some (.aload_n 0, 1, 0, 0, 0, []) := rfl
theorem cd_150_146 : cd 150 146 = some (.aload_n 0, 1, 0, 0, 0, []) := rfl
theorem cd_150_147 : cd 150 147 = some (.bipush 9, 2, 0, 0, 0, []) := rfl
theorem cd_150_149 : cd 150 149 = some (.invokestatic 79, 3, 137, 2, 7, []) := rfl
theorem cd_150_152 : cd 150 152 = some (.iconst 0, 1, 0, 0, 0, []) := rfl
theorem cd_150_153 : cd 150 153 = some (.invokestatic 92, 3, 138, 3, 7, []) := rfl
theorem cd_150_156 : cd 150 156 = some (.ldc 23, 2, 3, 0, 0, []) := rfl
theorem cd_150_158 : cd 150 158 = some (.if_icmp .ne 65, 3, 0, 0, 0, []) := rfl
theorem cd_150_161 : cd 150 161 = some (.aload_n 0, 1, 0, 0, 0, []) := rfl
theorem cd_150_162 : cd 150 162 = some (.iload 4, 2, 0, 0, 0, []) := rfl
theorem cd_150_164 : cd 150 164 = some (.iconst 0, 1, 0, 0, 0, []) := rfl
theorem cd_150_165 : cd 150 165 = some (.invokestatic 88, 3, 139, 3, 7, []) := rfl
theorem cd_150_168 : cd 150 168 = some (.ldc 23, 2, 3, 0, 0, []) := rfl
theorem cd_150_170 : cd 150 170 = some (.if_icmp .ne 53, 3, 0, 0, 0, []) := rfl
theorem cd_150_173 : cd 150 173 = some (.aload_n 0, 1, 0, 0, 0, []) := rfl
theorem cd_150_174 : cd 150 174 = some (.iconst 0, 1, 0, 0, 0, []) := rfl
theorem cd_150_175 : cd 150 175 = some (.bipush 7, 2, 0, 0, 0, []) := rfl
theorem cd_150_177 : cd 150 177 = some (.invokestatic 88, 3, 139, 3, 7, []) := rfl
theorem cd_150_180 : cd 150 180 = some (.ldc 17, 2, 2, 0, 0, []) := rfl
theorem cd_150_182 : cd 150 182 = some (.if_icmp .ne 41, 3, 0, 0, 0, []) := rfl
theorem cd_150_185 : cd 150 185 = some (.aload_n 0, 1, 0, 0, 0, []) := rfl
theorem cd_150_186 : cd 150 186 = some (.iconst 0, 1, 0, 0, 0, []) := rfl
theorem cd_150_187 : cd 150 187 = some (.iconst (-1), 1, 0, 0, 0, []) := rfl
theorem cd_150_188 : cd 150 188 = some (.invokestatic 104, 3, 140, 3, 7, []) := rfl
theorem cd_150_191 : cd 150 191 = some (.ldc 23, 2, 3, 0, 0, []) := rfl
theorem cd_150_193 : cd 150 193 = some (.if_icmp .ne 30, 3, 0, 0, 0, []) := rfl
theorem cd_150_196 : cd 150 196 = some (.aload_n 0, 1, 0, 0, 0, []) := rfl
theorem cd_150_197 : cd 150 197 = some (.iload 4, 2, 0, 0, 0, []) := rfl
theorem cd_150_199 : cd 150 199 = some (.iconst 0, 1, 0, 0, 0, []) := rfl
theorem cd_150_200 : cd 150 200 = some (.invokestatic 104, 3, 140, 3, 7, []) := rfl
theorem cd_150_203 : cd 150 203 = some (.ldc 23, 2, 3, 0, 0, []) := rfl
theorem cd_150_205 : cd 150 205 = some (.if_icmp .ne 18, 3, 0, 0, 0, []) := rfl
theorem cd_150_208 : cd 150 208 = some (.aload_n 0, 1, 0, 0, 0, []) := rfl
theorem cd_150_209 : cd 150 209 = some (.iconst 0, 1, 0, 0, 0, []) := rfl
theorem cd_150_210 : cd 150 210 = some (.iconst (-1), 1, 0, 0, 0, []) := rfl
theorem cd_150_211 : cd 150 211 = some (.invokestatic 106, 3, 141, 3, 7, []) := rfl
theorem cd_150_214 : cd 150 214 = some (.ldc 23, 2, 3, 0, 0, []) := rfl
theorem cd_150_216 : cd 150 216 = some (.if_icmp .ne 7, 3, 0, 0, 0, []) := rfl
theorem cd_150_219 : cd 150 219 = some (.iconst 1, 1, 0, 0, 0, []) := rfl
theorem cd_150_220 : cd 150 220 = some (.goto 4, 3, 0, 0, 0, []) := rfl
theorem cd_150_223 : cd 150 223 = some (.iconst 0, 1, 0, 0, 0, []) := rfl
theorem cd_150_224 : cd 150 224 = some (.istore 5, 2, 0, 0, 0, []) := rfl
theorem cd_150_226 : cd 150 226 = some (.iload 5, 2, 0, 0, 0, []) := rfl
theorem cd_150_228 : cd 150 228 = some (.ifCond .eq 114, 3, 0, 0, 0, []) := rfl
theorem cd_150_231 : cd 150 231 = some (.aload_n 0, 1, 0, 0, 0, []) := rfl
theorem cd_150_232 : cd 150 232 = some (.iload 4, 2, 0, 0, 0, []) := rfl
theorem cd_150_234 : cd 150 234 = some (.invokestatic 90, 3, 142, 2, 7, []) := rfl
theorem cd_150_237 : cd 150 237 = some (.ldc 23, 2, 3, 0, 0, []) := rfl
theorem cd_150_239 : cd 150 239 = some (.if_icmp .ne 103, 3, 0, 0, 0, []) := rfl
theorem cd_150_242 : cd 150 242 = some (.aload_n 0, 1, 0, 0, 0, []) := rfl
theorem cd_150_243 : cd 150 243 = some (.iconst (-1), 1, 0, 0, 0, []) := rfl
theorem cd_150_244 : cd 150 244 = some (.invokestatic 108, 3, 143, 2, 7, []) := rfl
theorem cd_150_247 : cd 150 247 = some (.ldc 23, 2, 3, 0, 0, []) := rfl
theorem cd_150_249 : cd 150 249 = some (.if_icmp .ne 93, 3, 0, 0, 0, []) := rfl
theorem cd_150_252 : cd 150 252 = some (.aload_n 0, 1, 0, 0, 0, []) := rfl
theorem cd_150_253 : cd 150 253 = some (.iconst 0, 1, 0, 0, 0, []) := rfl
theorem cd_150_254 : cd 150 254 = some (.invokestatic 110, 3, 144, 2, 7, []) := rfl
theorem cd_150_257 : cd 150 257 = some (.ldc 17, 2, 2, 0, 0, []) := rfl
theorem cd_150_259 : cd 150 259 = some (.if_icmp .ne 83, 3, 0, 0, 0, []) := rfl
theorem cd_150_262 : cd 150 262 = some (.aload_n 0, 1, 0, 0, 0, []) := rfl
theorem cd_150_263 : cd 150 263 = some (.bipush 51, 2, 0, 0, 0, []) := rfl
theorem cd_150_265 : cd 150 265 = some (.invokestatic 112, 3, 145, 2, 7, []) := rfl
theorem cd_150_268 : cd 150 268 = some (.ldc 17, 2, 2, 0, 0, []) := rfl
theorem cd_150_270 : cd 150 270 = some (.if_icmp .ne 72, 3, 0, 0, 0, []) := rfl
theorem cd_150_273 : cd 150 273 = some (.aload_n 0, 1, 0, 0, 0, []) := rfl
theorem cd_150_274 : cd 150 274 = some (.iconst (-1), 1, 0, 0, 0, []) := rfl
theorem cd_150_275 : cd 150 275 = some (.invokestatic 114, 3, 146, 2, 7, []) := rfl
theorem cd_150_278 : cd 150 278 = some (.ldc 23, 2, 3, 0, 0, []) := rfl
theorem cd_150_280 : cd 150 280 = some (.if_icmp .ne 62, 3, 0, 0, 0, []) := rfl
theorem cd_150_283 : cd 150 283 = some (.aload_n 0, 1, 0, 0, 0, []) := rfl
theorem cd_150_284 : cd 150 284 = some (.sipush 128, 3, 0, 0, 0, []) := rfl
theorem cd_150_287 : cd 150 287 = some (.invokestatic 116, 3, 147, 2, 7, []) := rfl
theorem cd_150_290 : cd 150 290 = some (.ldc 17, 2, 2, 0, 0, []) := rfl
theorem cd_150_292 : cd 150 292 = some (.if_icmp .ne 50, 3, 0, 0, 0, []) := rfl
theorem cd_150_295 : cd 150 295 = some (.aload_n 0, 1, 0, 0, 0, []) := rfl
theorem cd_150_296 : cd 150 296 = some (.invokevirtual 118, 3, 102, 1, 0, []) := rfl
theorem cd_150_299 : cd 150 299 = some (.ifCond .lt 43, 3, 0, 0, 0, []) := rfl
theorem cd_150_302 : cd 150 302 = some (.aload_n 0, 1, 0, 0, 0, []) := rfl
theorem cd_150_303 : cd 150 303 = some (.invokestatic 121, 3, 134, 1, 7, []) := rfl
theorem cd_150_306 : cd 150 306 = some (.ldc 30, 2, 4, 0, 0, []) := rfl
theorem cd_150_308 : cd 150 308 = some (.if_icmp .ne 34, 3, 0, 0, 0, []) := rfl
theorem cd_150_311 : cd 150 311 = some (.aload_n 0, 1, 0, 0, 0, []) := rfl
theorem cd_150_312 : cd 150 312 = some (.bipush 65, 2, 0, 0, 0, []) := rfl
theorem cd_150_314 : cd 150 314 = some (.invokestatic 116, 3, 147, 2, 7, []) := rfl
theorem cd_150_317 : cd 150 317 = some (.iconst 1, 1, 0, 0, 0, []) := rfl
theorem cd_150_318 : cd 150 318 = some (.if_icmp .ne 24, 3, 0, 0, 0, []) := rfl
theorem cd_150_321 : cd 150 321 = some (.aload_n 0, 1, 0, 0, 0, []) := rfl
theorem cd_150_322 : cd 150 322 = some (.invokestatic 121, 3, 134, 1, 7, []) := rfl
theorem cd_150_325 : cd 150 325 = some (.ldc 30, 2, 4, 0, 0, []) := rfl
theorem cd_150_327 : cd 150 327 = some (.if_icmp .ne 15, 3, 0, 0, 0, []) := rfl
theorem cd_150_330 : cd 150 330 = some (.aload_n 0, 1, 0, 0, 0, []) := rfl
theorem cd_150_331 : cd 150 331 = some (.invokevirtual 118, 3, 102, 1, 0, []) := rfl
theorem cd_150_334 : cd 150 334 = some (.iconst 1, 1, 0, 0, 0, []) := rfl
theorem cd_150_335 : cd 150 335 = some (.if_icmp .ne 7, 3, 0, 0, 0, []) := rfl
theorem cd_150_338 : cd 150 338 = some (.iconst 1, 1, 0, 0, 0, []) := rfl
theorem cd_150_339 : cd 150 339 = some (.goto 4, 3, 0, 0, 0, []) := rfl
theorem cd_150_342 : cd 150 342 = some (.iconst 0, 1, 0, 0, 0, []) := rfl
theorem cd_150_343 : cd 150 343 = some (.istore 5, 2, 0, 0, 0, []) := rfl
theorem cd_150_345 : cd 150 345 = some (.iload 5, 2, 0, 0, 0, []) := rfl
theorem cd_150_347 : cd 150 347 = some (.ifCond .eq 16, 3, 0, 0, 0, []) := rfl
theorem cd_150_350 : cd 150 350 = some (.aload_n 0, 1, 0, 0, 0, []) := rfl
theorem cd_150_351 : cd 150 351 = some (.invokestatic 94, 3, 149, 1, 2, []) := rfl
theorem cd_150_354 : cd 150 354 = some (.lload_n 1, 1, 0, 0, 0, []) := rfl
theorem cd_150_355 : cd 150 355 = some (.lcmp, 1, 0, 0, 0, []) := rfl
theorem cd_150_356 : cd 150 356 = some (.ifCond .ne 7, 3, 0, 0, 0, []) := rfl
theorem cd_150_359 : cd 150 359 = some (.iconst 1, 1, 0, 0, 0, []) := rfl
theorem cd_150_360 : cd 150 360 = some (.goto 4, 3, 0, 0, 0, []) := rfl
theorem cd_150_363 : cd 150 363 = some (.iconst 0, 1, 0, 0, 0, []) := rfl
theorem cd_150_364 : cd 150 364 = some (.ireturn, 1, 0, 0, 0, []) := rfl
end
section
/-! ===== the code table, row by row: by program (wip/p28/gen4.py) ===== -/
theorem cd_151_0 : cd 151 0 = some (.aload_n 0, 1, 0, 0, 0, []) := rfl
theorem cd_151_1 : cd 151 1 = some (.bipush 6, 2, 0, 0, 0, []) := rfl
theorem cd_151_3 : cd 151 3 = some (.invokestatic 79, 3, 137, 2, 7, []) := rfl
theorem cd_151_6 : cd 151 6 = some (.istore_n 1, 1, 0, 0, 0, []) := rfl
theorem cd_151_7 : cd 151 7 = some (.aload_n 0, 1, 0, 0, 0, []) := rfl
theorem cd_151_8 : cd 151 8 = some (.iconst 0, 1, 0, 0, 0, []) := rfl
theorem cd_151_9 : cd 151 9 = some (.invokestatic 79, 3, 137, 2, 7, []) := rfl
theorem cd_151_12 : cd 151 12 = some (.istore_n 2, 1, 0, 0, 0, []) := rfl
theorem cd_151_13 : cd 151 13 = some (.iconst 0, 1, 0, 0, 0, []) := rfl
theorem cd_151_14 : cd 151 14 = some (.istore_n 3, 1, 0, 0, 0, []) := rfl
theorem cd_151_15 : cd 151 15 = some (.iconst 0, 1, 0, 0, 0, []) := rfl
theorem cd_151_16 : cd 151 16 = some (.istore 4, 2, 0, 0, 0, []) := rfl
theorem cd_151_18 : cd 151 18 = some (.bipush 49, 2, 0, 0, 0, []) := rfl
theorem cd_151_20 : cd 151 20 = some (.newarray .int, 2, 0, 0, 0, []) := rfl
theorem cd_151_22 : cd 151 22 = some (.astore 5, 2, 0, 0, 0, []) := rfl
theorem cd_151_24 : cd 151 24 = some (.iload_n 1, 1, 0, 0, 0, []) := rfl
theorem cd_151_25 : cd 151 25 = some (.iconst 2, 1, 0, 0, 0, []) := rfl
theorem cd_151_26 : cd 151 26 = some (.iload_n 2, 1, 0, 0, 0, []) := rfl
theorem cd_151_27 : cd 151 27 = some (.aload_n 0, 1, 0, 0, 0, []) := rfl
theorem cd_151_28 : cd 151 28 = some (.iconst 1, 1, 0, 0, 0, []) := rfl
theorem cd_151_29 : cd 151 29 = some (.invokestatic 79, 3, 137, 2, 7, []) := rfl
theorem cd_151_32 : cd 151 32 = some (.iadd, 1, 0, 0, 0, []) := rfl
theorem cd_151_33 : cd 151 33 = some (.imul, 1, 0, 0, 0, []) := rfl
theorem cd_151_34 : cd 151 34 = some (.if_icmp .ne 7, 3, 0, 0, 0, []) := rfl
theorem cd_151_37 : cd 151 37 = some (.iconst 1, 1, 0, 0, 0, []) := rfl
theorem cd_151_38 : cd 151 38 = some (.goto 4, 3, 0, 0, 0, []) := rfl
theorem cd_151_41 : cd 151 41 = some (.iconst 0, 1, 0, 0, 0, []) := rfl
theorem cd_151_42 : cd 151 42 = some (.istore 6, 2, 0, 0, 0, []) := rfl
theorem cd_151_44 : cd 151 44 = some (.iconst 0, 1, 0, 0, 0, []) := rfl
theorem cd_151_45 : cd 151 45 = some (.istore 7, 2, 0, 0, 0, []) := rfl
theorem cd_151_47 : cd 151 47 = some (.iload 7, 2, 0, 0, 0, [8, 9, 10, 11, 12, 13, 14, 15, 16, 17, 18, 19]) := rfl
theorem cd_151_49 : cd 151 49 = some (.iload_n 1, 1, 0, 0, 0, []) := rfl
theorem cd_151_50 : cd 151 50 = some (.if_icmp .ge 554, 3, 0, 0, 0, []) := rfl
theorem cd_151_53 : cd 151 53 = some (.iload 6, 2, 0, 0, 0, []) := rfl
theorem cd_151_55 : cd 151 55 = some (.ifCond .eq 549, 3, 0, 0, 0, []) := rfl
theorem cd_151_58 : cd 151 58 = some (.aload_n 0, 1, 0, 0, 0, []) := rfl
theorem cd_151_59 : cd 151 59 = some (.iload 7, 2, 0, 0, 0, []) := rfl
theorem cd_151_61 : cd 151 61 = some (.iconst 1, 1, 0, 0, 0, []) := rfl
theorem cd_151_62 : cd 151 62 = some (.invokestatic 88, 3, 139, 3, 7, []) := rfl
theorem cd_151_65 : cd 151 65 = some (.istore 8, 2, 0, 0, 0, []) := rfl
theorem cd_151_67 : cd 151 67 = some (.aload_n 0, 1, 0, 0, 0, []) := rfl
theorem cd_151_68 : cd 151 68 = some (.iload 7, 2, 0, 0, 0, []) := rfl
theorem cd_151_70 : cd 151 70 = some (.iconst 3, 1, 0, 0, 0, []) := rfl
theorem cd_151_71 : cd 151 71 = some (.invokestatic 88, 3, 139, 3, 7, []) := rfl
theorem cd_151_74 : cd 151 74 = some (.istore 9, 2, 0, 0, 0, []) := rfl
theorem cd_151_76 : cd 151 76 = some (.iconst 0, 1, 0, 0, 0, []) := rfl
theorem cd_151_77 : cd 151 77 = some (.istore 10, 2, 0, 0, 0, []) := rfl
theorem cd_151_79 : cd 151 79 = some (.iconst 0, 1, 0, 0, 0, []) := rfl
theorem cd_151_80 : cd 151 80 = some (.istore 11, 2, 0, 0, 0, []) := rfl
theorem cd_151_82 : cd 151 82 = some (.lconst 0, 1, 0, 0, 0, []) := rfl
theorem cd_151_83 : cd 151 83 = some (.lstore 12, 2, 0, 0, 0, []) := rfl
theorem cd_151_85 : cd 151 85 = some (.iconst 0, 1, 0, 0, 0, []) := rfl
theorem cd_151_86 : cd 151 86 = some (.istore 14, 2, 0, 0, 0, []) := rfl
theorem cd_151_88 : cd 151 88 = some (.aload_n 0, 1, 0, 0, 0, []) := rfl
theorem cd_151_89 : cd 151 89 = some (.iload 7, 2, 0, 0, 0, []) := rfl
theorem cd_151_91 : cd 151 91 = some (.iconst 0, 1, 0, 0, 0, []) := rfl
theorem cd_151_92 : cd 151 92 = some (.invokestatic 88, 3, 139, 3, 7, []) := rfl
theorem cd_151_95 : cd 151 95 = some (.iload 7, 2, 0, 0, 0, []) := rfl
theorem cd_151_97 : cd 151 97 = some (.if_icmp .ne 7, 3, 0, 0, 0, []) := rfl
theorem cd_151_100 : cd 151 100 = some (.iconst 1, 1, 0, 0, 0, []) := rfl
theorem cd_151_101 : cd 151 101 = some (.goto 4, 3, 0, 0, 0, []) := rfl
theorem cd_151_104 : cd 151 104 = some (.iconst 0, 1, 0, 0, 0, []) := rfl
theorem cd_151_105 : cd 151 105 = some (.istore 15, 2, 0, 0, 0, []) := rfl
theorem cd_151_107 : cd 151 107 = some (.iload_n 3, 1, 0, 0, 0, []) := rfl
theorem cd_151_108 : cd 151 108 = some (.iload 15, 2, 0, 0, 0, []) := rfl
theorem cd_151_110 : cd 151 110 = some (.ifCond .eq 7, 3, 0, 0, 0, []) := rfl
theorem cd_151_113 : cd 151 113 = some (.iconst 1, 1, 0, 0, 0, []) := rfl
theorem cd_151_114 : cd 151 114 = some (.goto 4, 3, 0, 0, 0, []) := rfl
theorem cd_151_117 : cd 151 117 = some (.iconst 0, 1, 0, 0, 0, []) := rfl
theorem cd_151_118 : cd 151 118 = some (.iadd, 1, 0, 0, 0, []) := rfl
theorem cd_151_119 : cd 151 119 = some (.istore_n 3, 1, 0, 0, 0, []) := rfl
theorem cd_151_120 : cd 151 120 = some (.iload 4, 2, 0, 0, 0, []) := rfl
theorem cd_151_122 : cd 151 122 = some (.iload 15, 2, 0, 0, 0, []) := rfl
theorem cd_151_124 : cd 151 124 = some (.ifCond .eq 14, 3, 0, 0, 0, []) := rfl
theorem cd_151_127 : cd 151 127 = some (.aload_n 0, 1, 0, 0, 0, []) := rfl
theorem cd_151_128 : cd 151 128 = some (.iload 7, 2, 0, 0, 0, []) := rfl
theorem cd_151_130 : cd 151 130 = some (.bipush 6, 2, 0, 0, 0, []) := rfl
theorem cd_151_132 : cd 151 132 = some (.invokestatic 88, 3, 139, 3, 7, []) := rfl
theorem cd_151_135 : cd 151 135 = some (.goto 4, 3, 0, 0, 0, []) := rfl
theorem cd_151_138 : cd 151 138 = some (.iconst 0, 1, 0, 0, 0, []) := rfl
theorem cd_151_139 : cd 151 139 = some (.iadd, 1, 0, 0, 0, []) := rfl
theorem cd_151_140 : cd 151 140 = some (.istore 4, 2, 0, 0, 0, []) := rfl
theorem cd_151_142 : cd 151 142 = some (.iload 9, 2, 0, 0, 0, []) := rfl
theorem cd_151_144 : cd 151 144 = some (.ifCond .le 147, 3, 0, 0, 0, []) := rfl
theorem cd_151_147 : cd 151 147 = some (.iload 15, 2, 0, 0, 0, []) := rfl
theorem cd_151_149 : cd 151 149 = some (.iload 8, 2, 0, 0, 0, []) := rfl
theorem cd_151_151 : cd 151 151 = some (.iconst (-1), 1, 0, 0, 0, []) := rfl
theorem cd_151_152 : cd 151 152 = some (.if_icmp .eq 10, 3, 0, 0, 0, []) := rfl
theorem cd_151_155 : cd 151 155 = some (.iload 7, 2, 0, 0, 0, []) := rfl
theorem cd_151_157 : cd 151 157 = some (.iload 8, 2, 0, 0, 0, []) := rfl
theorem cd_151_159 : cd 151 159 = some (.if_icmp .gt 7, 3, 0, 0, 0, []) := rfl
theorem cd_151_162 : cd 151 162 = some (.iconst 1, 1, 0, 0, 0, []) := rfl
theorem cd_151_163 : cd 151 163 = some (.goto 4, 3, 0, 0, 0, []) := rfl
theorem cd_151_166 : cd 151 166 = some (.iconst 0, 1, 0, 0, 0, []) := rfl
theorem cd_151_167 : cd 151 167 = some (.if_icmp .ne 124, 3, 0, 0, 0, []) := rfl
theorem cd_151_170 : cd 151 170 = some (.iload 15, 2, 0, 0, 0, []) := rfl
theorem cd_151_172 : cd 151 172 = some (.ifCond .ne 15, 3, 0, 0, 0, []) := rfl
theorem cd_151_175 : cd 151 175 = some (.aload_n 0, 1, 0, 0, 0, []) := rfl
theorem cd_151_176 : cd 151 176 = some (.iload 7, 2, 0, 0, 0, []) := rfl
theorem cd_151_178 : cd 151 178 = some (.iconst 0, 1, 0, 0, 0, []) := rfl
theorem cd_151_179 : cd 151 179 = some (.invokestatic 88, 3, 139, 3, 7, []) := rfl
theorem cd_151_182 : cd 151 182 = some (.iload 8, 2, 0, 0, 0, []) := rfl
theorem cd_151_184 : cd 151 184 = some (.if_icmp .ne 107, 3, 0, 0, 0, []) := rfl
theorem cd_151_187 : cd 151 187 = some (.iload 8, 2, 0, 0, 0, []) := rfl
theorem cd_151_189 : cd 151 189 = some (.iconst (-1), 1, 0, 0, 0, []) := rfl
theorem cd_151_190 : cd 151 190 = some (.if_icmp .ne 23, 3, 0, 0, 0, []) := rfl
theorem cd_151_193 : cd 151 193 = some (.aload_n 0, 1, 0, 0, 0, []) := rfl
theorem cd_151_194 : cd 151 194 = some (.aload_n 0, 1, 0, 0, 0, []) := rfl
theorem cd_151_195 : cd 151 195 = some (.iload 7, 2, 0, 0, 0, []) := rfl
theorem cd_151_197 : cd 151 197 = some (.iconst 2, 1, 0, 0, 0, []) := rfl
theorem cd_151_198 : cd 151 198 = some (.invokestatic 88, 3, 139, 3, 7, []) := rfl
theorem cd_151_201 : cd 151 201 = some (.iconst 0, 1, 0, 0, 0, []) := rfl
theorem cd_151_202 : cd 151 202 = some (.invokestatic 84, 3, 136, 3, 7, []) := rfl
theorem cd_151_205 : cd 151 205 = some (.bipush 35, 2, 0, 0, 0, []) := rfl
theorem cd_151_207 : cd 151 207 = some (.if_icmp .ne 84, 3, 0, 0, 0, []) := rfl
theorem cd_151_210 : cd 151 210 = some (.goto 44, 3, 0, 0, 0, []) := rfl
theorem cd_151_213 : cd 151 213 = some (.aload_n 0, 1, 0, 0, 0, []) := rfl
theorem cd_151_214 : cd 151 214 = some (.iload 8, 2, 0, 0, 0, []) := rfl
theorem cd_151_216 : cd 151 216 = some (.iconst 1, 1, 0, 0, 0, []) := rfl
theorem cd_151_217 : cd 151 217 = some (.invokestatic 88, 3, 139, 3, 7, []) := rfl
theorem cd_151_220 : cd 151 220 = some (.iload 7, 2, 0, 0, 0, []) := rfl
theorem cd_151_222 : cd 151 222 = some (.if_icmp .ne 69, 3, 0, 0, 0, []) := rfl
theorem cd_151_225 : cd 151 225 = some (.aload_n 0, 1, 0, 0, 0, []) := rfl
theorem cd_151_226 : cd 151 226 = some (.iload 8, 2, 0, 0, 0, []) := rfl
theorem cd_151_228 : cd 151 228 = some (.iconst 3, 1, 0, 0, 0, []) := rfl
theorem cd_151_229 : cd 151 229 = some (.invokestatic 88, 3, 139, 3, 7, []) := rfl
theorem cd_151_232 : cd 151 232 = some (.iload 9, 2, 0, 0, 0, []) := rfl
theorem cd_151_234 : cd 151 234 = some (.if_icmp .ne 57, 3, 0, 0, 0, []) := rfl
theorem cd_151_237 : cd 151 237 = some (.aload_n 0, 1, 0, 0, 0, []) := rfl
theorem cd_151_238 : cd 151 238 = some (.iload 8, 2, 0, 0, 0, []) := rfl
theorem cd_151_240 : cd 151 240 = some (.iconst 4, 1, 0, 0, 0, []) := rfl
theorem cd_151_241 : cd 151 241 = some (.invokestatic 88, 3, 139, 3, 7, []) := rfl
theorem cd_151_244 : cd 151 244 = some (.aload_n 0, 1, 0, 0, 0, []) := rfl
theorem cd_151_245 : cd 151 245 = some (.iload 7, 2, 0, 0, 0, []) := rfl
theorem cd_151_247 : cd 151 247 = some (.iconst 4, 1, 0, 0, 0, []) := rfl
theorem cd_151_248 : cd 151 248 = some (.invokestatic 88, 3, 139, 3, 7, []) := rfl
theorem cd_151_251 : cd 151 251 = some (.if_icmp .ne 40, 3, 0, 0, 0, []) := rfl
theorem cd_151_254 : cd 151 254 = some (.aload_n 0, 1, 0, 0, 0, []) := rfl
theorem cd_151_255 : cd 151 255 = some (.iload 7, 2, 0, 0, 0, []) := rfl
theorem cd_151_257 : cd 151 257 = some (.iload 9, 2, 0, 0, 0, []) := rfl
theorem cd_151_259 : cd 151 259 = some (.invokestatic 104, 3, 140, 3, 7, []) := rfl
theorem cd_151_262 : cd 151 262 = some (.ldc 23, 2, 3, 0, 0, []) := rfl
theorem cd_151_264 : cd 151 264 = some (.if_icmp .ne 27, 3, 0, 0, 0, []) := rfl
theorem cd_151_267 : cd 151 267 = some (.aload_n 0, 1, 0, 0, 0, []) := rfl
theorem cd_151_268 : cd 151 268 = some (.iload 7, 2, 0, 0, 0, []) := rfl
theorem cd_151_270 : cd 151 270 = some (.iconst 2, 1, 0, 0, 0, []) := rfl
theorem cd_151_271 : cd 151 271 = some (.invokestatic 88, 3, 139, 3, 7, []) := rfl
theorem cd_151_274 : cd 151 274 = some (.aload_n 0, 1, 0, 0, 0, []) := rfl
theorem cd_151_275 : cd 151 275 = some (.iload 7, 2, 0, 0, 0, []) := rfl
theorem cd_151_277 : cd 151 277 = some (.iload 9, 2, 0, 0, 0, []) := rfl
theorem cd_151_279 : cd 151 279 = some (.iconst 1, 1, 0, 0, 0, []) := rfl
theorem cd_151_280 : cd 151 280 = some (.isub, 1, 0, 0, 0, []) := rfl
theorem cd_151_281 : cd 151 281 = some (.invokestatic 104, 3, 140, 3, 7, []) := rfl
theorem cd_151_284 : cd 151 284 = some (.if_icmp .ne 7, 3, 0, 0, 0, []) := rfl
theorem cd_151_287 : cd 151 287 = some (.iconst 1, 1, 0, 0, 0, []) := rfl
theorem cd_151_288 : cd 151 288 = some (.goto 4, 3, 0, 0, 0, []) := rfl
theorem cd_151_291 : cd 151 291 = some (.iconst 0, 1, 0, 0, 0, []) := rfl
theorem cd_151_292 : cd 151 292 = some (.istore 6, 2, 0, 0, 0, []) := rfl
theorem cd_151_294 : cd 151 294 = some (.iconst 0, 1, 0, 0, 0, []) := rfl
theorem cd_151_295 : cd 151 295 = some (.istore 16, 2, 0, 0, 0, []) := rfl
theorem cd_151_297 : cd 151 297 = some (.iload 16, 2, 0, 0, 0, [13, 17, 18, 19]) := rfl
theorem cd_151_299 : cd 151 299 = some (.iload 9, 2, 0, 0, 0, []) := rfl
theorem cd_151_301 : cd 151 301 = some (.if_icmp .ge 231, 3, 0, 0, 0, []) := rfl
theorem cd_151_304 : cd 151 304 = some (.iload 6, 2, 0, 0, 0, []) := rfl
theorem cd_151_306 : cd 151 306 = some (.ifCond .eq 226, 3, 0, 0, 0, []) := rfl
theorem cd_151_309 : cd 151 309 = some (.aload_n 0, 1, 0, 0, 0, []) := rfl
theorem cd_151_310 : cd 151 310 = some (.iload 7, 2, 0, 0, 0, []) := rfl
theorem cd_151_312 : cd 151 312 = some (.iload 16, 2, 0, 0, 0, []) := rfl
theorem cd_151_314 : cd 151 314 = some (.invokestatic 104, 3, 140, 3, 7, []) := rfl
theorem cd_151_317 : cd 151 317 = some (.istore 17, 2, 0, 0, 0, []) := rfl
theorem cd_151_319 : cd 151 319 = some (.aload_n 0, 1, 0, 0, 0, []) := rfl
theorem cd_151_320 : cd 151 320 = some (.iload 17, 2, 0, 0, 0, []) := rfl
theorem cd_151_322 : cd 151 322 = some (.iconst 0, 1, 0, 0, 0, []) := rfl
theorem cd_151_323 : cd 151 323 = some (.invokestatic 84, 3, 136, 3, 7, []) := rfl
theorem cd_151_326 : cd 151 326 = some (.istore 18, 2, 0, 0, 0, []) := rfl
theorem cd_151_328 : cd 151 328 = some (.iload 16, 2, 0, 0, 0, []) := rfl
theorem cd_151_330 : cd 151 330 = some (.ifCond .ne 7, 3, 0, 0, 0, []) := rfl
theorem cd_151_333 : cd 151 333 = some (.iconst 1, 1, 0, 0, 0, []) := rfl
theorem cd_151_334 : cd 151 334 = some (.goto 16, 3, 0, 0, 0, []) := rfl
theorem cd_151_337 : cd 151 337 = some (.iload 17, 2, 0, 0, 0, []) := rfl
theorem cd_151_339 : cd 151 339 = some (.aload_n 0, 1, 0, 0, 0, []) := rfl
theorem cd_151_340 : cd 151 340 = some (.iload 7, 2, 0, 0, 0, []) := rfl
theorem cd_151_342 : cd 151 342 = some (.iload 16, 2, 0, 0, 0, []) := rfl
theorem cd_151_344 : cd 151 344 = some (.iconst 1, 1, 0, 0, 0, []) := rfl
theorem cd_151_345 : cd 151 345 = some (.isub, 1, 0, 0, 0, []) := rfl
theorem cd_151_346 : cd 151 346 = some (.invokestatic 104, 3, 140, 3, 7, []) := rfl
theorem cd_151_349 : cd 151 349 = some (.isub, 1, 0, 0, 0, []) := rfl
theorem cd_151_350 : cd 151 350 = some (.istore 19, 2, 0, 0, 0, []) := rfl
theorem cd_151_352 : cd 151 352 = some (.iload 14, 2, 0, 0, 0, []) := rfl
theorem cd_151_354 : cd 151 354 = some (.ifCond .ne 15, 3, 0, 0, 0, []) := rfl
theorem cd_151_357 : cd 151 357 = some (.lload 12, 2, 0, 0, 0, []) := rfl
theorem cd_151_359 : cd 151 359 = some (.iload 17, 2, 0, 0, 0, []) := rfl
theorem cd_151_361 : cd 151 361 = some (.lshr, 1, 0, 0, 0, []) := rfl
theorem cd_151_362 : cd 151 362 = some (.lconst 1, 1, 0, 0, 0, []) := rfl
theorem cd_151_363 : cd 151 363 = some (.land, 1, 0, 0, 0, []) := rfl
theorem cd_151_364 : cd 151 364 = some (.lconst 1, 1, 0, 0, 0, []) := rfl
theorem cd_151_365 : cd 151 365 = some (.lcmp, 1, 0, 0, 0, []) := rfl
theorem cd_151_366 : cd 151 366 = some (.ifCond .ne 7, 3, 0, 0, 0, []) := rfl
theorem cd_151_369 : cd 151 369 = some (.iconst 1, 1, 0, 0, 0, []) := rfl
theorem cd_151_370 : cd 151 370 = some (.goto 4, 3, 0, 0, 0, []) := rfl
theorem cd_151_373 : cd 151 373 = some (.iconst 0, 1, 0, 0, 0, []) := rfl
theorem cd_151_374 : cd 151 374 = some (.istore 14, 2, 0, 0, 0, []) := rfl
theorem cd_151_376 : cd 151 376 = some (.lload 12, 2, 0, 0, 0, []) := rfl
theorem cd_151_378 : cd 151 378 = some (.lconst 1, 1, 0, 0, 0, []) := rfl
theorem cd_151_379 : cd 151 379 = some (.iload 17, 2, 0, 0, 0, []) := rfl
theorem cd_151_381 : cd 151 381 = some (.lshl, 1, 0, 0, 0, []) := rfl
theorem cd_151_382 : cd 151 382 = some (.lor, 1, 0, 0, 0, []) := rfl
theorem cd_151_383 : cd 151 383 = some (.lstore 12, 2, 0, 0, 0, []) := rfl
theorem cd_151_385 : cd 151 385 = some (.iload 10, 2, 0, 0, 0, []) := rfl
theorem cd_151_387 : cd 151 387 = some (.iload 18, 2, 0, 0, 0, []) := rfl
theorem cd_151_389 : cd 151 389 = some (.bipush 47, 2, 0, 0, 0, []) := rfl
theorem cd_151_391 : cd 151 391 = some (.if_icmp .eq 10, 3, 0, 0, 0, []) := rfl
theorem cd_151_394 : cd 151 394 = some (.iload 18, 2, 0, 0, 0, []) := rfl
theorem cd_151_396 : cd 151 396 = some (.bipush 92, 2, 0, 0, 0, []) := rfl
theorem cd_151_398 : cd 151 398 = some (.if_icmp .ne 7, 3, 0, 0, 0, []) := rfl
theorem cd_151_401 : cd 151 401 = some (.iconst 1, 1, 0, 0, 0, []) := rfl
theorem cd_151_402 : cd 151 402 = some (.goto 4, 3, 0, 0, 0, []) := rfl
theorem cd_151_405 : cd 151 405 = some (.iconst 0, 1, 0, 0, 0, []) := rfl
theorem cd_151_406 : cd 151 406 = some (.iadd, 1, 0, 0, 0, []) := rfl
theorem cd_151_407 : cd 151 407 = some (.istore 10, 2, 0, 0, 0, []) := rfl
theorem cd_151_409 : cd 151 409 = some (.iload 11, 2, 0, 0, 0, []) := rfl
theorem cd_151_411 : cd 151 411 = some (.aload_n 0, 1, 0, 0, 0, []) := rfl
theorem cd_151_412 : cd 151 412 = some (.iload 17, 2, 0, 0, 0, []) := rfl
theorem cd_151_414 : cd 151 414 = some (.iconst 4, 1, 0, 0, 0, []) := rfl
theorem cd_151_415 : cd 151 415 = some (.invokestatic 84, 3, 136, 3, 7, []) := rfl
theorem cd_151_418 : cd 151 418 = some (.iconst (-1), 1, 0, 0, 0, []) := rfl
theorem cd_151_419 : cd 151 419 = some (.if_icmp .ne 7, 3, 0, 0, 0, []) := rfl
theorem cd_151_422 : cd 151 422 = some (.iconst 0, 1, 0, 0, 0, []) := rfl
theorem cd_151_423 : cd 151 423 = some (.goto 4, 3, 0, 0, 0, []) := rfl
theorem cd_151_426 : cd 151 426 = some (.iconst 1, 1, 0, 0, 0, []) := rfl
theorem cd_151_427 : cd 151 427 = some (.iadd, 1, 0, 0, 0, []) := rfl
theorem cd_151_428 : cd 151 428 = some (.istore 11, 2, 0, 0, 0, []) := rfl
theorem cd_151_430 : cd 151 430 = some (.aload 5, 2, 0, 0, 0, []) := rfl
theorem cd_151_432 : cd 151 432 = some (.iload 17, 2, 0, 0, 0, []) := rfl
theorem cd_151_434 : cd 151 434 = some (.dup2, 1, 0, 0, 0, []) := rfl
theorem cd_151_435 : cd 151 435 = some (.iaload, 1, 0, 0, 0, []) := rfl
theorem cd_151_436 : cd 151 436 = some (.iload 15, 2, 0, 0, 0, []) := rfl
theorem cd_151_438 : cd 151 438 = some (.ifCond .eq 7, 3, 0, 0, 0, []) := rfl
theorem cd_151_441 : cd 151 441 = some (.iconst 1, 1, 0, 0, 0, []) := rfl
theorem cd_151_442 : cd 151 442 = some (.goto 4, 3, 0, 0, 0, []) := rfl
theorem cd_151_445 : cd 151 445 = some (.iconst 0, 1, 0, 0, 0, []) := rfl
theorem cd_151_446 : cd 151 446 = some (.iadd, 1, 0, 0, 0, []) := rfl
theorem cd_151_447 : cd 151 447 = some (.iastore, 1, 0, 0, 0, []) := rfl
theorem cd_151_448 : cd 151 448 = some (.iload 19, 2, 0, 0, 0, []) := rfl
theorem cd_151_450 : cd 151 450 = some (.iconst 1, 1, 0, 0, 0, []) := rfl
theorem cd_151_451 : cd 151 451 = some (.if_icmp .eq 22, 3, 0, 0, 0, []) := rfl
theorem cd_151_454 : cd 151 454 = some (.iload 19, 2, 0, 0, 0, []) := rfl
theorem cd_151_456 : cd 151 456 = some (.iconst (-1), 1, 0, 0, 0, []) := rfl
theorem cd_151_457 : cd 151 457 = some (.if_icmp .eq 16, 3, 0, 0, 0, []) := rfl
theorem cd_151_460 : cd 151 460 = some (.iload 19, 2, 0, 0, 0, []) := rfl
theorem cd_151_462 : cd 151 462 = some (.iload_n 2, 1, 0, 0, 0, []) := rfl
theorem cd_151_463 : cd 151 463 = some (.if_icmp .eq 10, 3, 0, 0, 0, []) := rfl
theorem cd_151_466 : cd 151 466 = some (.iload 19, 2, 0, 0, 0, []) := rfl
theorem cd_151_468 : cd 151 468 = some (.iload_n 2, 1, 0, 0, 0, []) := rfl
theorem cd_151_469 : cd 151 469 = some (.ineg, 1, 0, 0, 0, []) := rfl
theorem cd_151_470 : cd 151 470 = some (.if_icmp .ne 53, 3, 0, 0, 0, []) := rfl
theorem cd_151_473 : cd 151 473 = some (.iload 18, 2, 0, 0, 0, []) := rfl
theorem cd_151_475 : cd 151 475 = some (.bipush 35, 2, 0, 0, 0, []) := rfl
theorem cd_151_477 : cd 151 477 = some (.if_icmp .ne 18, 3, 0, 0, 0, []) := rfl
theorem cd_151_480 : cd 151 480 = some (.iload 16, 2, 0, 0, 0, []) := rfl
theorem cd_151_482 : cd 151 482 = some (.iload 9, 2, 0, 0, 0, []) := rfl
theorem cd_151_484 : cd 151 484 = some (.iconst 1, 1, 0, 0, 0, []) := rfl
theorem cd_151_485 : cd 151 485 = some (.isub, 1, 0, 0, 0, []) := rfl
theorem cd_151_486 : cd 151 486 = some (.if_icmp .ne 37, 3, 0, 0, 0, []) := rfl
theorem cd_151_489 : cd 151 489 = some (.iload 8, 2, 0, 0, 0, []) := rfl
theorem cd_151_491 : cd 151 491 = some (.iconst (-1), 1, 0, 0, 0, []) := rfl
theorem cd_151_492 : cd 151 492 = some (.if_icmp .ne 31, 3, 0, 0, 0, []) := rfl
theorem cd_151_495 : cd 151 495 = some (.iload 8, 2, 0, 0, 0, []) := rfl
theorem cd_151_497 : cd 151 497 = some (.iconst (-1), 1, 0, 0, 0, []) := rfl
theorem cd_151_498 : cd 151 498 = some (.if_icmp .eq 21, 3, 0, 0, 0, []) := rfl
theorem cd_151_501 : cd 151 501 = some (.aload_n 0, 1, 0, 0, 0, []) := rfl
theorem cd_151_502 : cd 151 502 = some (.iload 8, 2, 0, 0, 0, []) := rfl
theorem cd_151_504 : cd 151 504 = some (.iload 9, 2, 0, 0, 0, []) := rfl
theorem cd_151_506 : cd 151 506 = some (.iconst 1, 1, 0, 0, 0, []) := rfl
theorem cd_151_507 : cd 151 507 = some (.isub, 1, 0, 0, 0, []) := rfl
theorem cd_151_508 : cd 151 508 = some (.iload 16, 2, 0, 0, 0, []) := rfl
theorem cd_151_510 : cd 151 510 = some (.isub, 1, 0, 0, 0, []) := rfl
theorem cd_151_511 : cd 151 511 = some (.invokestatic 104, 3, 140, 3, 7, []) := rfl
theorem cd_151_514 : cd 151 514 = some (.iload 17, 2, 0, 0, 0, []) := rfl
theorem cd_151_516 : cd 151 516 = some (.if_icmp .ne 7, 3, 0, 0, 0, []) := rfl
theorem cd_151_519 : cd 151 519 = some (.iconst 1, 1, 0, 0, 0, []) := rfl
theorem cd_151_520 : cd 151 520 = some (.goto 4, 3, 0, 0, 0, []) := rfl
theorem cd_151_523 : cd 151 523 = some (.iconst 0, 1, 0, 0, 0, []) := rfl
theorem cd_151_524 : cd 151 524 = some (.istore 6, 2, 0, 0, 0, []) := rfl
theorem cd_151_526 : cd 151 526 = some (.iinc 16 1, 3, 0, 0, 0, []) := rfl
theorem cd_151_529 : cd 151 529 = some (.goto (-232), 3, 0, 0, 0, []) := rfl
theorem cd_151_532 : cd 151 532 = some (.iload 6, 2, 0, 0, 0, []) := rfl
theorem cd_151_534 : cd 151 534 = some (.ifCond .eq 61, 3, 0, 0, 0, []) := rfl
theorem cd_151_537 : cd 151 537 = some (.iload 10, 2, 0, 0, 0, []) := rfl
theorem cd_151_539 : cd 151 539 = some (.aload_n 0, 1, 0, 0, 0, []) := rfl
theorem cd_151_540 : cd 151 540 = some (.iload 7, 2, 0, 0, 0, []) := rfl
theorem cd_151_542 : cd 151 542 = some (.iconst 4, 1, 0, 0, 0, []) := rfl
theorem cd_151_543 : cd 151 543 = some (.invokestatic 88, 3, 139, 3, 7, []) := rfl
theorem cd_151_546 : cd 151 546 = some (.if_icmp .ne 49, 3, 0, 0, 0, []) := rfl
theorem cd_151_549 : cd 151 549 = some (.iload 11, 2, 0, 0, 0, []) := rfl
theorem cd_151_551 : cd 151 551 = some (.aload_n 0, 1, 0, 0, 0, []) := rfl
theorem cd_151_552 : cd 151 552 = some (.iload 7, 2, 0, 0, 0, []) := rfl
theorem cd_151_554 : cd 151 554 = some (.iconst 5, 1, 0, 0, 0, []) := rfl
theorem cd_151_555 : cd 151 555 = some (.invokestatic 88, 3, 139, 3, 7, []) := rfl
theorem cd_151_558 : cd 151 558 = some (.if_icmp .ne 37, 3, 0, 0, 0, []) := rfl
theorem cd_151_561 : cd 151 561 = some (.aload_n 0, 1, 0, 0, 0, []) := rfl
set_option maxRecDepth 20000 in
theorem cd_151_562 : cd 151 562 = some (.iload 7, 2, 0, 0, 0, []) := rfl
set_option maxRecDepth 20000 in
theorem cd_151_564 : cd 151 564 = some (.bipush 6, 2, 0, 0, 0, []) := rfl
set_option maxRecDepth 20000 in
theorem cd_151_566 : cd 151 566 = some (.invokestatic 88, 3, 139, 3, 7, []) := rfl
set_option maxRecDepth 20000 in
theorem cd_151_569 : cd 151 569 = some (.iload 14, 2, 0, 0, 0, []) := rfl
set_option maxRecDepth 20000 in
theorem cd_151_571 : cd 151 571 = some (.ifCond .eq 7, 3, 0, 0, 0, []) := rfl
set_option maxRecDepth 20000 in
theorem cd_151_574 : cd 151 574 = some (.iconst 1, 1, 0, 0, 0, []) := rfl
set_option maxRecDepth 20000 in
theorem cd_151_575 : cd 151 575 = some (.goto 4, 3, 0, 0, 0, []) := rfl
set_option maxRecDepth 20000 in
theorem cd_151_578 : cd 151 578 = some (.iconst 0, 1, 0, 0, 0, []) := rfl
set_option maxRecDepth 20000 in
theorem cd_151_579 : cd 151 579 = some (.if_icmp .ne 16, 3, 0, 0, 0, []) := rfl
set_option maxRecDepth 20000 in
theorem cd_151_582 : cd 151 582 = some (.aload_n 0, 1, 0, 0, 0, []) := rfl
set_option maxRecDepth 20000 in
theorem cd_151_583 : cd 151 583 = some (.iload 7, 2, 0, 0, 0, []) := rfl
set_option maxRecDepth 20000 in
theorem cd_151_585 : cd 151 585 = some (.invokestatic 124, 3, 152, 2, 2, []) := rfl
set_option maxRecDepth 20000 in
theorem cd_151_588 : cd 151 588 = some (.ifCond .eq 7, 3, 0, 0, 0, []) := rfl
set_option maxRecDepth 20000 in
theorem cd_151_591 : cd 151 591 = some (.iconst 1, 1, 0, 0, 0, []) := rfl
set_option maxRecDepth 20000 in
theorem cd_151_592 : cd 151 592 = some (.goto 4, 3, 0, 0, 0, []) := rfl
set_option maxRecDepth 20000 in
theorem cd_151_595 : cd 151 595 = some (.iconst 0, 1, 0, 0, 0, []) := rfl
set_option maxRecDepth 20000 in
theorem cd_151_596 : cd 151 596 = some (.istore 6, 2, 0, 0, 0, []) := rfl
set_option maxRecDepth 20000 in
theorem cd_151_598 : cd 151 598 = some (.iinc 7 1, 3, 0, 0, 0, []) := rfl
set_option maxRecDepth 20000 in
theorem cd_151_601 : cd 151 601 = some (.goto (-554), 3, 0, 0, 0, []) := rfl
set_option maxRecDepth 20000 in
theorem cd_151_604 : cd 151 604 = some (.iconst 0, 1, 0, 0, 0, []) := rfl
set_option maxRecDepth 20000 in
theorem cd_151_605 : cd 151 605 = some (.istore 7, 2, 0, 0, 0, []) := rfl
set_option maxRecDepth 20000 in
theorem cd_151_607 : cd 151 607 = some (.iload 7, 2, 0, 0, 0, [1, 8, 9, 10, 11, 12, 13, 14, 15, 16, 17, 18, 19]) := rfl
set_option maxRecDepth 20000 in
theorem cd_151_609 : cd 151 609 = some (.iload_n 2, 1, 0, 0, 0, []) := rfl
set_option maxRecDepth 20000 in
theorem cd_151_610 : cd 151 610 = some (.aload_n 0, 1, 0, 0, 0, []) := rfl
set_option maxRecDepth 20000 in
theorem cd_151_611 : cd 151 611 = some (.iconst 1, 1, 0, 0, 0, []) := rfl
set_option maxRecDepth 20000 in
theorem cd_151_612 : cd 151 612 = some (.invokestatic 79, 3, 137, 2, 7, []) := rfl
set_option maxRecDepth 20000 in
theorem cd_151_615 : cd 151 615 = some (.imul, 1, 0, 0, 0, []) := rfl
set_option maxRecDepth 20000 in
theorem cd_151_616 : cd 151 616 = some (.if_icmp .ge 132, 3, 0, 0, 0, []) := rfl
set_option maxRecDepth 20000 in
theorem cd_151_619 : cd 151 619 = some (.iload 6, 2, 0, 0, 0, []) := rfl
set_option maxRecDepth 20000 in
theorem cd_151_621 : cd 151 621 = some (.ifCond .eq 127, 3, 0, 0, 0, []) := rfl
set_option maxRecDepth 20000 in
theorem cd_151_624 : cd 151 624 = some (.aload_n 0, 1, 0, 0, 0, []) := rfl
set_option maxRecDepth 20000 in
theorem cd_151_625 : cd 151 625 = some (.iload 7, 2, 0, 0, 0, []) := rfl
set_option maxRecDepth 20000 in
theorem cd_151_627 : cd 151 627 = some (.iconst 1, 1, 0, 0, 0, []) := rfl
set_option maxRecDepth 20000 in
theorem cd_151_628 : cd 151 628 = some (.invokestatic 84, 3, 136, 3, 7, []) := rfl
set_option maxRecDepth 20000 in
theorem cd_151_631 : cd 151 631 = some (.istore 8, 2, 0, 0, 0, []) := rfl
set_option maxRecDepth 20000 in
theorem cd_151_633 : cd 151 633 = some (.aload_n 0, 1, 0, 0, 0, []) := rfl
set_option maxRecDepth 20000 in
theorem cd_151_634 : cd 151 634 = some (.iload 7, 2, 0, 0, 0, []) := rfl
set_option maxRecDepth 20000 in
theorem cd_151_636 : cd 151 636 = some (.iconst 2, 1, 0, 0, 0, []) := rfl
set_option maxRecDepth 20000 in
theorem cd_151_637 : cd 151 637 = some (.invokestatic 84, 3, 136, 3, 7, []) := rfl
set_option maxRecDepth 20000 in
theorem cd_151_640 : cd 151 640 = some (.istore 9, 2, 0, 0, 0, []) := rfl
set_option maxRecDepth 20000 in
theorem cd_151_642 : cd 151 642 = some (.aload_n 0, 1, 0, 0, 0, []) := rfl
set_option maxRecDepth 20000 in
theorem cd_151_643 : cd 151 643 = some (.iload 7, 2, 0, 0, 0, []) := rfl
set_option maxRecDepth 20000 in
theorem cd_151_645 : cd 151 645 = some (.iconst 3, 1, 0, 0, 0, []) := rfl
set_option maxRecDepth 20000 in
theorem cd_151_646 : cd 151 646 = some (.invokestatic 84, 3, 136, 3, 7, []) := rfl
set_option maxRecDepth 20000 in
theorem cd_151_649 : cd 151 649 = some (.aload 5, 2, 0, 0, 0, []) := rfl
set_option maxRecDepth 20000 in
theorem cd_151_651 : cd 151 651 = some (.iload 7, 2, 0, 0, 0, []) := rfl
set_option maxRecDepth 20000 in
theorem cd_151_653 : cd 151 653 = some (.iaload, 1, 0, 0, 0, []) := rfl
set_option maxRecDepth 20000 in
theorem cd_151_654 : cd 151 654 = some (.if_icmp .ne 85, 3, 0, 0, 0, []) := rfl
set_option maxRecDepth 20000 in
theorem cd_151_657 : cd 151 657 = some (.aload 5, 2, 0, 0, 0, []) := rfl
set_option maxRecDepth 20000 in
theorem cd_151_659 : cd 151 659 = some (.iload 7, 2, 0, 0, 0, []) := rfl
set_option maxRecDepth 20000 in
theorem cd_151_661 : cd 151 661 = some (.iaload, 1, 0, 0, 0, []) := rfl
set_option maxRecDepth 20000 in
theorem cd_151_662 : cd 151 662 = some (.iconst 4, 1, 0, 0, 0, []) := rfl
set_option maxRecDepth 20000 in
theorem cd_151_663 : cd 151 663 = some (.if_icmp .gt 76, 3, 0, 0, 0, []) := rfl
set_option maxRecDepth 20000 in
theorem cd_151_666 : cd 151 666 = some (.iload 8, 2, 0, 0, 0, []) := rfl
set_option maxRecDepth 20000 in
theorem cd_151_668 : cd 151 668 = some (.iconst (-1), 1, 0, 0, 0, []) := rfl
set_option maxRecDepth 20000 in
theorem cd_151_669 : cd 151 669 = some (.if_icmp .eq 15, 3, 0, 0, 0, []) := rfl
set_option maxRecDepth 20000 in
theorem cd_151_672 : cd 151 672 = some (.aload_n 0, 1, 0, 0, 0, []) := rfl
set_option maxRecDepth 20000 in
theorem cd_151_673 : cd 151 673 = some (.iload 8, 2, 0, 0, 0, []) := rfl
set_option maxRecDepth 20000 in
theorem cd_151_675 : cd 151 675 = some (.iconst 0, 1, 0, 0, 0, []) := rfl
set_option maxRecDepth 20000 in
theorem cd_151_676 : cd 151 676 = some (.invokestatic 88, 3, 139, 3, 7, []) := rfl
set_option maxRecDepth 20000 in
theorem cd_151_679 : cd 151 679 = some (.iload 8, 2, 0, 0, 0, []) := rfl
set_option maxRecDepth 20000 in
theorem cd_151_681 : cd 151 681 = some (.if_icmp .ne 58, 3, 0, 0, 0, []) := rfl
set_option maxRecDepth 20000 in
theorem cd_151_684 : cd 151 684 = some (.iload 9, 2, 0, 0, 0, []) := rfl
set_option maxRecDepth 20000 in
theorem cd_151_686 : cd 151 686 = some (.iconst (-1), 1, 0, 0, 0, []) := rfl
set_option maxRecDepth 20000 in
theorem cd_151_687 : cd 151 687 = some (.if_icmp .eq 15, 3, 0, 0, 0, []) := rfl
set_option maxRecDepth 20000 in
theorem cd_151_690 : cd 151 690 = some (.aload_n 0, 1, 0, 0, 0, []) := rfl
set_option maxRecDepth 20000 in
theorem cd_151_691 : cd 151 691 = some (.iload 9, 2, 0, 0, 0, []) := rfl
set_option maxRecDepth 20000 in
theorem cd_151_693 : cd 151 693 = some (.iconst 0, 1, 0, 0, 0, []) := rfl
set_option maxRecDepth 20000 in
theorem cd_151_694 : cd 151 694 = some (.invokestatic 88, 3, 139, 3, 7, []) := rfl
set_option maxRecDepth 20000 in
theorem cd_151_697 : cd 151 697 = some (.iload 9, 2, 0, 0, 0, []) := rfl
set_option maxRecDepth 20000 in
theorem cd_151_699 : cd 151 699 = some (.if_icmp .ne 40, 3, 0, 0, 0, []) := rfl
set_option maxRecDepth 20000 in
theorem cd_151_702 : cd 151 702 = some (.aload 5, 2, 0, 0, 0, []) := rfl
set_option maxRecDepth 20000 in
theorem cd_151_704 : cd 151 704 = some (.iload 7, 2, 0, 0, 0, []) := rfl
set_option maxRecDepth 20000 in
theorem cd_151_706 : cd 151 706 = some (.iaload, 1, 0, 0, 0, []) := rfl
set_option maxRecDepth 20000 in
theorem cd_151_707 : cd 151 707 = some (.ifCond .le 7, 3, 0, 0, 0, []) := rfl
set_option maxRecDepth 20000 in
theorem cd_151_710 : cd 151 710 = some (.iconst 1, 1, 0, 0, 0, []) := rfl
set_option maxRecDepth 20000 in
theorem cd_151_711 : cd 151 711 = some (.goto 4, 3, 0, 0, 0, []) := rfl
set_option maxRecDepth 20000 in
theorem cd_151_714 : cd 151 714 = some (.iconst 0, 1, 0, 0, 0, []) := rfl
set_option maxRecDepth 20000 in
theorem cd_151_715 : cd 151 715 = some (.iload 8, 2, 0, 0, 0, []) := rfl
set_option maxRecDepth 20000 in
theorem cd_151_717 : cd 151 717 = some (.iconst (-1), 1, 0, 0, 0, []) := rfl
set_option maxRecDepth 20000 in
theorem cd_151_718 : cd 151 718 = some (.if_icmp .ne 9, 3, 0, 0, 0, []) := rfl
set_option maxRecDepth 20000 in
theorem cd_151_721 : cd 151 721 = some (.iload 9, 2, 0, 0, 0, []) := rfl
set_option maxRecDepth 20000 in
theorem cd_151_723 : cd 151 723 = some (.iconst (-1), 1, 0, 0, 0, []) := rfl
set_option maxRecDepth 20000 in
theorem cd_151_724 : cd 151 724 = some (.if_icmp .eq 7, 3, 0, 0, 0, []) := rfl
set_option maxRecDepth 20000 in
theorem cd_151_727 : cd 151 727 = some (.iconst 1, 1, 0, 0, 0, []) := rfl
set_option maxRecDepth 20000 in
theorem cd_151_728 : cd 151 728 = some (.goto 4, 3, 0, 0, 0, []) := rfl
set_option maxRecDepth 20000 in
theorem cd_151_731 : cd 151 731 = some (.iconst 0, 1, 0, 0, 0, []) := rfl
set_option maxRecDepth 20000 in
theorem cd_151_732 : cd 151 732 = some (.if_icmp .ne 7, 3, 0, 0, 0, []) := rfl
set_option maxRecDepth 20000 in
theorem cd_151_735 : cd 151 735 = some (.iconst 1, 1, 0, 0, 0, []) := rfl
set_option maxRecDepth 20000 in
theorem cd_151_736 : cd 151 736 = some (.goto 4, 3, 0, 0, 0, []) := rfl
set_option maxRecDepth 20000 in
theorem cd_151_739 : cd 151 739 = some (.iconst 0, 1, 0, 0, 0, []) := rfl
set_option maxRecDepth 20000 in
theorem cd_151_740 : cd 151 740 = some (.istore 6, 2, 0, 0, 0, []) := rfl
set_option maxRecDepth 20000 in
theorem cd_151_742 : cd 151 742 = some (.iinc 7 1, 3, 0, 0, 0, []) := rfl
set_option maxRecDepth 20000 in
theorem cd_151_745 : cd 151 745 = some (.goto (-138), 3, 0, 0, 0, []) := rfl
set_option maxRecDepth 20000 in
theorem cd_151_748 : cd 151 748 = some (.iload 6, 2, 0, 0, 0, []) := rfl
set_option maxRecDepth 20000 in
theorem cd_151_750 : cd 151 750 = some (.ifCond .eq 28, 3, 0, 0, 0, []) := rfl
set_option maxRecDepth 20000 in
theorem cd_151_753 : cd 151 753 = some (.iload_n 3, 1, 0, 0, 0, []) := rfl
set_option maxRecDepth 20000 in
theorem cd_151_754 : cd 151 754 = some (.aload_n 0, 1, 0, 0, 0, []) := rfl
set_option maxRecDepth 20000 in
theorem cd_151_755 : cd 151 755 = some (.bipush 7, 2, 0, 0, 0, []) := rfl
set_option maxRecDepth 20000 in
theorem cd_151_757 : cd 151 757 = some (.invokestatic 79, 3, 137, 2, 7, []) := rfl
set_option maxRecDepth 20000 in
theorem cd_151_760 : cd 151 760 = some (.if_icmp .ne 18, 3, 0, 0, 0, []) := rfl
set_option maxRecDepth 20000 in
theorem cd_151_763 : cd 151 763 = some (.iload 4, 2, 0, 0, 0, []) := rfl
set_option maxRecDepth 20000 in
theorem cd_151_765 : cd 151 765 = some (.aload_n 0, 1, 0, 0, 0, []) := rfl
set_option maxRecDepth 20000 in
theorem cd_151_766 : cd 151 766 = some (.bipush 8, 2, 0, 0, 0, []) := rfl
set_option maxRecDepth 20000 in
theorem cd_151_768 : cd 151 768 = some (.invokestatic 79, 3, 137, 2, 7, []) := rfl
set_option maxRecDepth 20000 in
theorem cd_151_771 : cd 151 771 = some (.if_icmp .ne 7, 3, 0, 0, 0, []) := rfl
set_option maxRecDepth 20000 in
theorem cd_151_774 : cd 151 774 = some (.iconst 1, 1, 0, 0, 0, []) := rfl
set_option maxRecDepth 20000 in
theorem cd_151_775 : cd 151 775 = some (.goto 4, 3, 0, 0, 0, []) := rfl
set_option maxRecDepth 20000 in
theorem cd_151_778 : cd 151 778 = some (.iconst 0, 1, 0, 0, 0, []) := rfl
set_option maxRecDepth 20000 in
theorem cd_151_779 : cd 151 779 = some (.ireturn, 1, 0, 0, 0, []) := rfl
theorem cd_152_0 : cd 152 0 = some (.iconst 0, 1, 0, 0, 0, []) := rfl
theorem cd_152_1 : cd 152 1 = some (.istore_n 2, 1, 0, 0, 0, []) := rfl
theorem cd_152_2 : cd 152 2 = some (.iconst 0, 1, 0, 0, 0, []) := rfl
theorem cd_152_3 : cd 152 3 = some (.istore_n 3, 1, 0, 0, 0, []) := rfl
theorem cd_152_4 : cd 152 4 = some (.iconst 1, 1, 0, 0, 0, []) := rfl
theorem cd_152_5 : cd 152 5 = some (.istore 4, 2, 0, 0, 0, []) := rfl
theorem cd_152_7 : cd 152 7 = some (.iconst 0, 1, 0, 0, 0, []) := rfl
theorem cd_152_8 : cd 152 8 = some (.istore 5, 2, 0, 0, 0, []) := rfl
theorem cd_152_10 : cd 152 10 = some (.iload 5, 2, 0, 0, 0, [6, 7, 8]) := rfl
theorem cd_152_12 : cd 152 12 = some (.aload_n 0, 1, 0, 0, 0, []) := rfl
theorem cd_152_13 : cd 152 13 = some (.iload_n 1, 1, 0, 0, 0, []) := rfl
theorem cd_152_14 : cd 152 14 = some (.iconst 3, 1, 0, 0, 0, []) := rfl
theorem cd_152_15 : cd 152 15 = some (.invokestatic 88, 3, 139, 3, 7, []) := rfl
theorem cd_152_18 : cd 152 18 = some (.if_icmp .ge 173, 3, 0, 0, 0, []) := rfl
theorem cd_152_21 : cd 152 21 = some (.iload 4, 2, 0, 0, 0, []) := rfl
theorem cd_152_23 : cd 152 23 = some (.ifCond .eq 168, 3, 0, 0, 0, []) := rfl
theorem cd_152_26 : cd 152 26 = some (.aload_n 0, 1, 0, 0, 0, []) := rfl
theorem cd_152_27 : cd 152 27 = some (.iload_n 1, 1, 0, 0, 0, []) := rfl
theorem cd_152_28 : cd 152 28 = some (.iload 5, 2, 0, 0, 0, []) := rfl
theorem cd_152_30 : cd 152 30 = some (.invokestatic 104, 3, 140, 3, 7, []) := rfl
theorem cd_152_33 : cd 152 33 = some (.istore 6, 2, 0, 0, 0, []) := rfl
theorem cd_152_35 : cd 152 35 = some (.aload_n 0, 1, 0, 0, 0, []) := rfl
theorem cd_152_36 : cd 152 36 = some (.iload 6, 2, 0, 0, 0, []) := rfl
theorem cd_152_38 : cd 152 38 = some (.iconst 0, 1, 0, 0, 0, []) := rfl
theorem cd_152_39 : cd 152 39 = some (.invokestatic 84, 3, 136, 3, 7, []) := rfl
theorem cd_152_42 : cd 152 42 = some (.istore 7, 2, 0, 0, 0, []) := rfl
theorem cd_152_44 : cd 152 44 = some (.aload_n 0, 1, 0, 0, 0, []) := rfl
theorem cd_152_45 : cd 152 45 = some (.iload 6, 2, 0, 0, 0, []) := rfl
theorem cd_152_47 : cd 152 47 = some (.iconst 4, 1, 0, 0, 0, []) := rfl
theorem cd_152_48 : cd 152 48 = some (.invokestatic 84, 3, 136, 3, 7, []) := rfl
theorem cd_152_51 : cd 152 51 = some (.istore 8, 2, 0, 0, 0, []) := rfl
theorem cd_152_53 : cd 152 53 = some (.iload_n 3, 1, 0, 0, 0, []) := rfl
theorem cd_152_54 : cd 152 54 = some (.ifCond .ne 10, 3, 0, 0, 0, []) := rfl
theorem cd_152_57 : cd 152 57 = some (.iload 7, 2, 0, 0, 0, []) := rfl
theorem cd_152_59 : cd 152 59 = some (.bipush 58, 2, 0, 0, 0, []) := rfl
theorem cd_152_61 : cd 152 61 = some (.if_icmp .ne 7, 3, 0, 0, 0, []) := rfl
theorem cd_152_64 : cd 152 64 = some (.iconst 1, 1, 0, 0, 0, []) := rfl
theorem cd_152_65 : cd 152 65 = some (.goto 4, 3, 0, 0, 0, []) := rfl
theorem cd_152_68 : cd 152 68 = some (.iconst 0, 1, 0, 0, 0, []) := rfl
theorem cd_152_69 : cd 152 69 = some (.istore_n 3, 1, 0, 0, 0, []) := rfl
theorem cd_152_70 : cd 152 70 = some (.iload 8, 2, 0, 0, 0, []) := rfl
theorem cd_152_72 : cd 152 72 = some (.iconst (-1), 1, 0, 0, 0, []) := rfl
theorem cd_152_73 : cd 152 73 = some (.if_icmp .eq 112, 3, 0, 0, 0, []) := rfl
theorem cd_152_76 : cd 152 76 = some (.iload_n 3, 1, 0, 0, 0, []) := rfl
theorem cd_152_77 : cd 152 77 = some (.ifCond .eq 28, 3, 0, 0, 0, []) := rfl
theorem cd_152_80 : cd 152 80 = some (.iload_n 2, 1, 0, 0, 0, []) := rfl
theorem cd_152_81 : cd 152 81 = some (.ifCond .le 24, 3, 0, 0, 0, []) := rfl
theorem cd_152_84 : cd 152 84 = some (.aload_n 0, 1, 0, 0, 0, []) := rfl
theorem cd_152_85 : cd 152 85 = some (.iload_n 1, 1, 0, 0, 0, []) := rfl
theorem cd_152_86 : cd 152 86 = some (.iload_n 2, 1, 0, 0, 0, []) := rfl
theorem cd_152_87 : cd 152 87 = some (.invokestatic 106, 3, 141, 3, 7, []) := rfl
theorem cd_152_90 : cd 152 90 = some (.bipush 32, 2, 0, 0, 0, []) := rfl
theorem cd_152_92 : cd 152 92 = some (.if_icmp .ne 7, 3, 0, 0, 0, []) := rfl
theorem cd_152_95 : cd 152 95 = some (.iconst 1, 1, 0, 0, 0, []) := rfl
theorem cd_152_96 : cd 152 96 = some (.goto 4, 3, 0, 0, 0, []) := rfl
theorem cd_152_99 : cd 152 99 = some (.iconst 0, 1, 0, 0, 0, []) := rfl
theorem cd_152_100 : cd 152 100 = some (.istore 4, 2, 0, 0, 0, []) := rfl
theorem cd_152_102 : cd 152 102 = some (.iinc 2 1, 3, 0, 0, 0, []) := rfl
theorem cd_152_105 : cd 152 105 = some (.iconst 0, 1, 0, 0, 0, []) := rfl
theorem cd_152_106 : cd 152 106 = some (.istore_n 3, 1, 0, 0, 0, []) := rfl
theorem cd_152_107 : cd 152 107 = some (.iload 4, 2, 0, 0, 0, []) := rfl
theorem cd_152_109 : cd 152 109 = some (.ifCond .eq 21, 3, 0, 0, 0, []) := rfl
theorem cd_152_112 : cd 152 112 = some (.aload_n 0, 1, 0, 0, 0, []) := rfl
theorem cd_152_113 : cd 152 113 = some (.iload_n 1, 1, 0, 0, 0, []) := rfl
theorem cd_152_114 : cd 152 114 = some (.iload_n 2, 1, 0, 0, 0, []) := rfl
theorem cd_152_115 : cd 152 115 = some (.invokestatic 106, 3, 141, 3, 7, []) := rfl
theorem cd_152_118 : cd 152 118 = some (.bipush 97, 2, 0, 0, 0, []) := rfl
theorem cd_152_120 : cd 152 120 = some (.iload 8, 2, 0, 0, 0, []) := rfl
theorem cd_152_122 : cd 152 122 = some (.iadd, 1, 0, 0, 0, []) := rfl
theorem cd_152_123 : cd 152 123 = some (.if_icmp .ne 7, 3, 0, 0, 0, []) := rfl
theorem cd_152_126 : cd 152 126 = some (.iconst 1, 1, 0, 0, 0, []) := rfl
theorem cd_152_127 : cd 152 127 = some (.goto 4, 3, 0, 0, 0, []) := rfl
theorem cd_152_130 : cd 152 130 = some (.iconst 0, 1, 0, 0, 0, []) := rfl
theorem cd_152_131 : cd 152 131 = some (.istore 4, 2, 0, 0, 0, []) := rfl
theorem cd_152_133 : cd 152 133 = some (.iinc 2 1, 3, 0, 0, 0, []) := rfl
theorem cd_152_136 : cd 152 136 = some (.iload 7, 2, 0, 0, 0, []) := rfl
theorem cd_152_138 : cd 152 138 = some (.bipush 97, 2, 0, 0, 0, []) := rfl
theorem cd_152_140 : cd 152 140 = some (.if_icmp .ge 45, 3, 0, 0, 0, []) := rfl
theorem cd_152_143 : cd 152 143 = some (.iload 4, 2, 0, 0, 0, []) := rfl
theorem cd_152_145 : cd 152 145 = some (.ifCond .eq 34, 3, 0, 0, 0, []) := rfl
theorem cd_152_148 : cd 152 148 = some (.aload_n 0, 1, 0, 0, 0, []) := rfl
theorem cd_152_149 : cd 152 149 = some (.iload_n 1, 1, 0, 0, 0, []) := rfl
theorem cd_152_150 : cd 152 150 = some (.iload_n 2, 1, 0, 0, 0, []) := rfl
theorem cd_152_151 : cd 152 151 = some (.invokestatic 106, 3, 141, 3, 7, []) := rfl
theorem cd_152_154 : cd 152 154 = some (.bipush 32, 2, 0, 0, 0, []) := rfl
theorem cd_152_156 : cd 152 156 = some (.if_icmp .ne 23, 3, 0, 0, 0, []) := rfl
theorem cd_152_159 : cd 152 159 = some (.aload_n 0, 1, 0, 0, 0, []) := rfl
theorem cd_152_160 : cd 152 160 = some (.iload_n 1, 1, 0, 0, 0, []) := rfl
theorem cd_152_161 : cd 152 161 = some (.iload_n 2, 1, 0, 0, 0, []) := rfl
theorem cd_152_162 : cd 152 162 = some (.iconst 1, 1, 0, 0, 0, []) := rfl
theorem cd_152_163 : cd 152 163 = some (.iadd, 1, 0, 0, 0, []) := rfl
theorem cd_152_164 : cd 152 164 = some (.invokestatic 106, 3, 141, 3, 7, []) := rfl
theorem cd_152_167 : cd 152 167 = some (.bipush 97, 2, 0, 0, 0, []) := rfl
theorem cd_152_169 : cd 152 169 = some (.iload 8, 2, 0, 0, 0, []) := rfl
theorem cd_152_171 : cd 152 171 = some (.iadd, 1, 0, 0, 0, []) := rfl
theorem cd_152_172 : cd 152 172 = some (.if_icmp .ne 7, 3, 0, 0, 0, []) := rfl
theorem cd_152_175 : cd 152 175 = some (.iconst 1, 1, 0, 0, 0, []) := rfl
theorem cd_152_176 : cd 152 176 = some (.goto 4, 3, 0, 0, 0, []) := rfl
theorem cd_152_179 : cd 152 179 = some (.iconst 0, 1, 0, 0, 0, []) := rfl
theorem cd_152_180 : cd 152 180 = some (.istore 4, 2, 0, 0, 0, []) := rfl
theorem cd_152_182 : cd 152 182 = some (.iinc 2 2, 3, 0, 0, 0, []) := rfl
theorem cd_152_185 : cd 152 185 = some (.iinc 5 1, 3, 0, 0, 0, []) := rfl
theorem cd_152_188 : cd 152 188 = some (.goto (-178), 3, 0, 0, 0, []) := rfl
theorem cd_152_191 : cd 152 191 = some (.iload 4, 2, 0, 0, 0, []) := rfl
theorem cd_152_193 : cd 152 193 = some (.ifCond .eq 25, 3, 0, 0, 0, []) := rfl
theorem cd_152_196 : cd 152 196 = some (.aload_n 0, 1, 0, 0, 0, []) := rfl
theorem cd_152_197 : cd 152 197 = some (.iload_n 1, 1, 0, 0, 0, []) := rfl
theorem cd_152_198 : cd 152 198 = some (.iload_n 2, 1, 0, 0, 0, []) := rfl
theorem cd_152_199 : cd 152 199 = some (.invokestatic 106, 3, 141, 3, 7, []) := rfl
theorem cd_152_202 : cd 152 202 = some (.iconst (-1), 1, 0, 0, 0, []) := rfl
theorem cd_152_203 : cd 152 203 = some (.if_icmp .ne 15, 3, 0, 0, 0, []) := rfl
theorem cd_152_206 : cd 152 206 = some (.aload_n 0, 1, 0, 0, 0, []) := rfl
theorem cd_152_207 : cd 152 207 = some (.iload_n 1, 1, 0, 0, 0, []) := rfl
theorem cd_152_208 : cd 152 208 = some (.invokestatic 128, 3, 154, 2, 2, []) := rfl
theorem cd_152_211 : cd 152 211 = some (.ifCond .eq 7, 3, 0, 0, 0, []) := rfl
theorem cd_152_214 : cd 152 214 = some (.iconst 1, 1, 0, 0, 0, []) := rfl
theorem cd_152_215 : cd 152 215 = some (.goto 4, 3, 0, 0, 0, []) := rfl
theorem cd_152_218 : cd 152 218 = some (.iconst 0, 1, 0, 0, 0, []) := rfl
theorem cd_152_219 : cd 152 219 = some (.ireturn, 1, 0, 0, 0, []) := rfl
theorem cd_153_0 : cd 153 0 = some (.iconst 0, 1, 0, 0, 0, []) := rfl
theorem cd_153_1 : cd 153 1 = some (.istore 4, 2, 0, 0, 0, []) := rfl
theorem cd_153_3 : cd 153 3 = some (.iconst 0, 1, 0, 0, 0, []) := rfl
theorem cd_153_4 : cd 153 4 = some (.istore 5, 2, 0, 0, 0, []) := rfl
theorem cd_153_6 : cd 153 6 = some (.iload 5, 2, 0, 0, 0, [6, 7, 8]) := rfl
theorem cd_153_8 : cd 153 8 = some (.aload_n 0, 1, 0, 0, 0, []) := rfl
theorem cd_153_9 : cd 153 9 = some (.bipush 9, 2, 0, 0, 0, []) := rfl
theorem cd_153_11 : cd 153 11 = some (.invokestatic 79, 3, 137, 2, 7, []) := rfl
theorem cd_153_14 : cd 153 14 = some (.if_icmp .ge 108, 3, 0, 0, 0, []) := rfl
theorem cd_153_17 : cd 153 17 = some (.iload_n 3, 1, 0, 0, 0, []) := rfl
theorem cd_153_18 : cd 153 18 = some (.iload_n 2, 1, 0, 0, 0, []) := rfl
theorem cd_153_19 : cd 153 19 = some (.isub, 1, 0, 0, 0, []) := rfl
theorem cd_153_20 : cd 153 20 = some (.bipush 9, 2, 0, 0, 0, []) := rfl
theorem cd_153_22 : cd 153 22 = some (.if_icmp .ge 7, 3, 0, 0, 0, []) := rfl
theorem cd_153_25 : cd 153 25 = some (.iconst 1, 1, 0, 0, 0, []) := rfl
theorem cd_153_26 : cd 153 26 = some (.goto 4, 3, 0, 0, 0, []) := rfl
theorem cd_153_29 : cd 153 29 = some (.iconst 0, 1, 0, 0, 0, []) := rfl
theorem cd_153_30 : cd 153 30 = some (.istore 6, 2, 0, 0, 0, []) := rfl
theorem cd_153_32 : cd 153 32 = some (.iconst 0, 1, 0, 0, 0, []) := rfl
theorem cd_153_33 : cd 153 33 = some (.istore 7, 2, 0, 0, 0, []) := rfl
theorem cd_153_35 : cd 153 35 = some (.iload 7, 2, 0, 0, 0, [8]) := rfl
theorem cd_153_37 : cd 153 37 = some (.bipush 8, 2, 0, 0, 0, []) := rfl
theorem cd_153_39 : cd 153 39 = some (.if_icmp .ge 60, 3, 0, 0, 0, []) := rfl
theorem cd_153_42 : cd 153 42 = some (.iload 6, 2, 0, 0, 0, []) := rfl
theorem cd_153_44 : cd 153 44 = some (.ifCond .eq 55, 3, 0, 0, 0, []) := rfl
theorem cd_153_47 : cd 153 47 = some (.aload_n 0, 1, 0, 0, 0, []) := rfl
theorem cd_153_48 : cd 153 48 = some (.iload 5, 2, 0, 0, 0, []) := rfl
theorem cd_153_50 : cd 153 50 = some (.iload 7, 2, 0, 0, 0, []) := rfl
theorem cd_153_52 : cd 153 52 = some (.invokestatic 92, 3, 138, 3, 7, []) := rfl
theorem cd_153_55 : cd 153 55 = some (.istore 8, 2, 0, 0, 0, []) := rfl
theorem cd_153_57 : cd 153 57 = some (.iload 8, 2, 0, 0, 0, []) := rfl
theorem cd_153_59 : cd 153 59 = some (.iload 7, 2, 0, 0, 0, []) := rfl
theorem cd_153_61 : cd 153 61 = some (.iload_n 3, 1, 0, 0, 0, []) := rfl
theorem cd_153_62 : cd 153 62 = some (.iload_n 2, 1, 0, 0, 0, []) := rfl
theorem cd_153_63 : cd 153 63 = some (.isub, 1, 0, 0, 0, []) := rfl
theorem cd_153_64 : cd 153 64 = some (.if_icmp .ge 18, 3, 0, 0, 0, []) := rfl
theorem cd_153_67 : cd 153 67 = some (.aload_n 0, 1, 0, 0, 0, []) := rfl
theorem cd_153_68 : cd 153 68 = some (.iload_n 1, 1, 0, 0, 0, []) := rfl
theorem cd_153_69 : cd 153 69 = some (.iload_n 2, 1, 0, 0, 0, []) := rfl
theorem cd_153_70 : cd 153 70 = some (.iload 7, 2, 0, 0, 0, []) := rfl
theorem cd_153_72 : cd 153 72 = some (.iadd, 1, 0, 0, 0, []) := rfl
theorem cd_153_73 : cd 153 73 = some (.invokestatic 106, 3, 141, 3, 7, []) := rfl
theorem cd_153_76 : cd 153 76 = some (.bipush 97, 2, 0, 0, 0, []) := rfl
theorem cd_153_78 : cd 153 78 = some (.isub, 1, 0, 0, 0, []) := rfl
theorem cd_153_79 : cd 153 79 = some (.goto 4, 3, 0, 0, 0, []) := rfl
theorem cd_153_82 : cd 153 82 = some (.iconst (-1), 1, 0, 0, 0, []) := rfl
theorem cd_153_83 : cd 153 83 = some (.if_icmp .ne 7, 3, 0, 0, 0, []) := rfl
theorem cd_153_86 : cd 153 86 = some (.iconst 1, 1, 0, 0, 0, []) := rfl
theorem cd_153_87 : cd 153 87 = some (.goto 4, 3, 0, 0, 0, []) := rfl
theorem cd_153_90 : cd 153 90 = some (.iconst 0, 1, 0, 0, 0, []) := rfl
theorem cd_153_91 : cd 153 91 = some (.istore 6, 2, 0, 0, 0, []) := rfl
theorem cd_153_93 : cd 153 93 = some (.iinc 7 1, 3, 0, 0, 0, []) := rfl
theorem cd_153_96 : cd 153 96 = some (.goto (-61), 3, 0, 0, 0, []) := rfl
theorem cd_153_99 : cd 153 99 = some (.iload 4, 2, 0, 0, 0, []) := rfl
theorem cd_153_101 : cd 153 101 = some (.ifCond .ne 8, 3, 0, 0, 0, []) := rfl
theorem cd_153_104 : cd 153 104 = some (.iload 6, 2, 0, 0, 0, []) := rfl
theorem cd_153_106 : cd 153 106 = some (.ifCond .eq 7, 3, 0, 0, 0, []) := rfl
theorem cd_153_109 : cd 153 109 = some (.iconst 1, 1, 0, 0, 0, []) := rfl
theorem cd_153_110 : cd 153 110 = some (.goto 4, 3, 0, 0, 0, []) := rfl
theorem cd_153_113 : cd 153 113 = some (.iconst 0, 1, 0, 0, 0, []) := rfl
theorem cd_153_114 : cd 153 114 = some (.istore 4, 2, 0, 0, 0, []) := rfl
theorem cd_153_116 : cd 153 116 = some (.iinc 5 1, 3, 0, 0, 0, []) := rfl
theorem cd_153_119 : cd 153 119 = some (.goto (-113), 3, 0, 0, 0, []) := rfl
theorem cd_153_122 : cd 153 122 = some (.iload 4, 2, 0, 0, 0, []) := rfl
theorem cd_153_124 : cd 153 124 = some (.ireturn, 1, 0, 0, 0, []) := rfl
theorem cd_154_0 : cd 154 0 = some (.iconst 0, 1, 0, 0, 0, []) := rfl
theorem cd_154_1 : cd 154 1 = some (.istore_n 2, 1, 0, 0, 0, []) := rfl
theorem cd_154_2 : cd 154 2 = some (.iconst 0, 1, 0, 0, 0, []) := rfl
theorem cd_154_3 : cd 154 3 = some (.istore_n 3, 1, 0, 0, 0, []) := rfl
theorem cd_154_4 : cd 154 4 = some (.iconst 0, 1, 0, 0, 0, []) := rfl
theorem cd_154_5 : cd 154 5 = some (.istore 4, 2, 0, 0, 0, []) := rfl
theorem cd_154_7 : cd 154 7 = some (.aload_n 0, 1, 0, 0, 0, [5]) := rfl
theorem cd_154_8 : cd 154 8 = some (.iload_n 1, 1, 0, 0, 0, []) := rfl
theorem cd_154_9 : cd 154 9 = some (.iload 4, 2, 0, 0, 0, []) := rfl
theorem cd_154_11 : cd 154 11 = some (.invokestatic 106, 3, 141, 3, 7, []) := rfl
theorem cd_154_14 : cd 154 14 = some (.iconst (-1), 1, 0, 0, 0, []) := rfl
theorem cd_154_15 : cd 154 15 = some (.if_icmp .eq 74, 3, 0, 0, 0, []) := rfl
theorem cd_154_18 : cd 154 18 = some (.iload 4, 2, 0, 0, 0, []) := rfl
theorem cd_154_20 : cd 154 20 = some (.istore 5, 2, 0, 0, 0, []) := rfl
theorem cd_154_22 : cd 154 22 = some (.aload_n 0, 1, 0, 0, 0, []) := rfl
theorem cd_154_23 : cd 154 23 = some (.iload_n 1, 1, 0, 0, 0, []) := rfl
theorem cd_154_24 : cd 154 24 = some (.iload 5, 2, 0, 0, 0, []) := rfl
theorem cd_154_26 : cd 154 26 = some (.invokestatic 106, 3, 141, 3, 7, []) := rfl
theorem cd_154_29 : cd 154 29 = some (.bipush 32, 2, 0, 0, 0, []) := rfl
theorem cd_154_31 : cd 154 31 = some (.if_icmp .le 9, 3, 0, 0, 0, []) := rfl
theorem cd_154_34 : cd 154 34 = some (.iinc 5 1, 3, 0, 0, 0, []) := rfl
theorem cd_154_37 : cd 154 37 = some (.goto (-15), 3, 0, 0, 0, []) := rfl
theorem cd_154_40 : cd 154 40 = some (.iinc 2 1, 3, 0, 0, 0, []) := rfl
theorem cd_154_43 : cd 154 43 = some (.iload_n 3, 1, 0, 0, 0, []) := rfl
theorem cd_154_44 : cd 154 44 = some (.aload_n 0, 1, 0, 0, 0, []) := rfl
theorem cd_154_45 : cd 154 45 = some (.iload_n 1, 1, 0, 0, 0, []) := rfl
theorem cd_154_46 : cd 154 46 = some (.iload 4, 2, 0, 0, 0, []) := rfl
theorem cd_154_48 : cd 154 48 = some (.iload 5, 2, 0, 0, 0, []) := rfl
theorem cd_154_50 : cd 154 50 = some (.invokestatic 131, 3, 153, 4, 2, []) := rfl
theorem cd_154_53 : cd 154 53 = some (.ifCond .eq 7, 3, 0, 0, 0, []) := rfl
theorem cd_154_56 : cd 154 56 = some (.iconst 1, 1, 0, 0, 0, []) := rfl
theorem cd_154_57 : cd 154 57 = some (.goto 4, 3, 0, 0, 0, []) := rfl
theorem cd_154_60 : cd 154 60 = some (.iconst 0, 1, 0, 0, 0, []) := rfl
theorem cd_154_61 : cd 154 61 = some (.iadd, 1, 0, 0, 0, []) := rfl
theorem cd_154_62 : cd 154 62 = some (.istore_n 3, 1, 0, 0, 0, []) := rfl
theorem cd_154_63 : cd 154 63 = some (.aload_n 0, 1, 0, 0, 0, []) := rfl
theorem cd_154_64 : cd 154 64 = some (.iload_n 1, 1, 0, 0, 0, []) := rfl
theorem cd_154_65 : cd 154 65 = some (.iload 5, 2, 0, 0, 0, []) := rfl
theorem cd_154_67 : cd 154 67 = some (.invokestatic 106, 3, 141, 3, 7, []) := rfl
theorem cd_154_70 : cd 154 70 = some (.bipush 32, 2, 0, 0, 0, []) := rfl
theorem cd_154_72 : cd 154 72 = some (.if_icmp .ne 10, 3, 0, 0, 0, []) := rfl
theorem cd_154_75 : cd 154 75 = some (.iload 5, 2, 0, 0, 0, []) := rfl
theorem cd_154_77 : cd 154 77 = some (.iconst 1, 1, 0, 0, 0, []) := rfl
theorem cd_154_78 : cd 154 78 = some (.iadd, 1, 0, 0, 0, []) := rfl
theorem cd_154_79 : cd 154 79 = some (.goto 5, 3, 0, 0, 0, []) := rfl
theorem cd_154_82 : cd 154 82 = some (.iload 5, 2, 0, 0, 0, []) := rfl
theorem cd_154_84 : cd 154 84 = some (.istore 4, 2, 0, 0, 0, []) := rfl
theorem cd_154_86 : cd 154 86 = some (.goto (-79), 3, 0, 0, 0, []) := rfl
theorem cd_154_89 : cd 154 89 = some (.aload_n 0, 1, 0, 0, 0, []) := rfl
theorem cd_154_90 : cd 154 90 = some (.iload_n 1, 1, 0, 0, 0, []) := rfl
theorem cd_154_91 : cd 154 91 = some (.invokestatic 90, 3, 142, 2, 7, []) := rfl
theorem cd_154_94 : cd 154 94 = some (.iload_n 2, 1, 0, 0, 0, []) := rfl
theorem cd_154_95 : cd 154 95 = some (.ifCond .le 12, 3, 0, 0, 0, []) := rfl
theorem cd_154_98 : cd 154 98 = some (.iload_n 3, 1, 0, 0, 0, []) := rfl
theorem cd_154_99 : cd 154 99 = some (.iload_n 2, 1, 0, 0, 0, []) := rfl
theorem cd_154_100 : cd 154 100 = some (.if_icmp .ne 7, 3, 0, 0, 0, []) := rfl
theorem cd_154_103 : cd 154 103 = some (.iload_n 3, 1, 0, 0, 0, []) := rfl
theorem cd_154_104 : cd 154 104 = some (.goto 6, 3, 0, 0, 0, []) := rfl
theorem cd_154_107 : cd 154 107 = some (.iconst (-1), 1, 0, 0, 0, []) := rfl
theorem cd_154_108 : cd 154 108 = some (.iload_n 3, 1, 0, 0, 0, []) := rfl
theorem cd_154_109 : cd 154 109 = some (.isub, 1, 0, 0, 0, []) := rfl
theorem cd_154_110 : cd 154 110 = some (.if_icmp .ne 7, 3, 0, 0, 0, []) := rfl
theorem cd_154_113 : cd 154 113 = some (.iconst 1, 1, 0, 0, 0, []) := rfl
theorem cd_154_114 : cd 154 114 = some (.goto 4, 3, 0, 0, 0, []) := rfl
theorem cd_154_117 : cd 154 117 = some (.iconst 0, 1, 0, 0, 0, []) := rfl
theorem cd_154_118 : cd 154 118 = some (.ireturn, 1, 0, 0, 0, []) := rfl
theorem cd_155_0 : cd 155 0 = some (.aload_n 0, 1, 0, 0, 0, []) := rfl
theorem cd_155_1 : cd 155 1 = some (.invokestatic 94, 3, 149, 1, 2, []) := rfl
theorem cd_155_4 : cd 155 4 = some (.lstore_n 1, 1, 0, 0, 0, []) := rfl
theorem cd_155_5 : cd 155 5 = some (.aload_n 0, 1, 0, 0, 0, []) := rfl
theorem cd_155_6 : cd 155 6 = some (.bipush 50, 2, 0, 0, 0, []) := rfl
theorem cd_155_8 : cd 155 8 = some (.invokestatic 110, 3, 144, 2, 7, []) := rfl
theorem cd_155_11 : cd 155 11 = some (.istore_n 3, 1, 0, 0, 0, []) := rfl
theorem cd_155_12 : cd 155 12 = some (.aload_n 0, 1, 0, 0, 0, []) := rfl
theorem cd_155_13 : cd 155 13 = some (.bipush 50, 2, 0, 0, 0, []) := rfl
theorem cd_155_15 : cd 155 15 = some (.invokestatic 112, 3, 145, 2, 7, []) := rfl
theorem cd_155_18 : cd 155 18 = some (.istore 4, 2, 0, 0, 0, []) := rfl
theorem cd_155_20 : cd 155 20 = some (.aload_n 0, 1, 0, 0, 0, []) := rfl
theorem cd_155_21 : cd 155 21 = some (.invokevirtual 135, 3, 98, 1, 0, []) := rfl
theorem cd_155_24 : cd 155 24 = some (.istore 5, 2, 0, 0, 0, []) := rfl
theorem cd_155_26 : cd 155 26 = some (.lconst 0, 1, 0, 0, 0, []) := rfl
theorem cd_155_27 : cd 155 27 = some (.lstore 6, 2, 0, 0, 0, []) := rfl
theorem cd_155_29 : cd 155 29 = some (.iconst 0, 1, 0, 0, 0, []) := rfl
theorem cd_155_30 : cd 155 30 = some (.istore 8, 2, 0, 0, 0, []) := rfl
theorem cd_155_32 : cd 155 32 = some (.iconst 0, 1, 0, 0, 0, []) := rfl
theorem cd_155_33 : cd 155 33 = some (.istore 9, 2, 0, 0, 0, []) := rfl
theorem cd_155_35 : cd 155 35 = some (.iload_n 3, 1, 0, 0, 0, []) := rfl
theorem cd_155_36 : cd 155 36 = some (.ifCond .lt 109, 3, 0, 0, 0, []) := rfl
theorem cd_155_39 : cd 155 39 = some (.iload_n 3, 1, 0, 0, 0, []) := rfl
theorem cd_155_40 : cd 155 40 = some (.bipush 50, 2, 0, 0, 0, []) := rfl
theorem cd_155_42 : cd 155 42 = some (.if_icmp .gt 103, 3, 0, 0, 0, []) := rfl
theorem cd_155_45 : cd 155 45 = some (.aload_n 0, 1, 0, 0, 0, []) := rfl
theorem cd_155_46 : cd 155 46 = some (.iconst 1, 1, 0, 0, 0, []) := rfl
theorem cd_155_47 : cd 155 47 = some (.invokestatic 110, 3, 144, 2, 7, []) := rfl
theorem cd_155_50 : cd 155 50 = some (.iload_n 3, 1, 0, 0, 0, []) := rfl
theorem cd_155_51 : cd 155 51 = some (.ifCond .le 7, 3, 0, 0, 0, []) := rfl
theorem cd_155_54 : cd 155 54 = some (.iconst 1, 1, 0, 0, 0, []) := rfl
theorem cd_155_55 : cd 155 55 = some (.goto 4, 3, 0, 0, 0, []) := rfl
theorem cd_155_58 : cd 155 58 = some (.iconst 0, 1, 0, 0, 0, []) := rfl
theorem cd_155_59 : cd 155 59 = some (.if_icmp .ne 86, 3, 0, 0, 0, []) := rfl
theorem cd_155_62 : cd 155 62 = some (.iload_n 3, 1, 0, 0, 0, []) := rfl
theorem cd_155_63 : cd 155 63 = some (.ifCond .ne 21, 3, 0, 0, 0, []) := rfl
theorem cd_155_66 : cd 155 66 = some (.iload 5, 2, 0, 0, 0, []) := rfl
theorem cd_155_68 : cd 155 68 = some (.iconst (-1), 1, 0, 0, 0, []) := rfl
theorem cd_155_69 : cd 155 69 = some (.if_icmp .ne 76, 3, 0, 0, 0, []) := rfl
theorem cd_155_72 : cd 155 72 = some (.aload_n 0, 1, 0, 0, 0, []) := rfl
theorem cd_155_73 : cd 155 73 = some (.iconst 0, 1, 0, 0, 0, []) := rfl
theorem cd_155_74 : cd 155 74 = some (.invokestatic 114, 3, 146, 2, 7, []) := rfl
theorem cd_155_77 : cd 155 77 = some (.iconst (-1), 1, 0, 0, 0, []) := rfl
theorem cd_155_78 : cd 155 78 = some (.if_icmp .ne 67, 3, 0, 0, 0, []) := rfl
theorem cd_155_81 : cd 155 81 = some (.goto 21, 3, 0, 0, 0, []) := rfl
theorem cd_155_84 : cd 155 84 = some (.iload 5, 2, 0, 0, 0, []) := rfl
theorem cd_155_86 : cd 155 86 = some (.ifCond .lt 59, 3, 0, 0, 0, []) := rfl
theorem cd_155_89 : cd 155 89 = some (.iload 5, 2, 0, 0, 0, []) := rfl
theorem cd_155_91 : cd 155 91 = some (.ifCond .gt 11, 3, 0, 0, 0, []) := rfl
theorem cd_155_94 : cd 155 94 = some (.aload_n 0, 1, 0, 0, 0, []) := rfl
theorem cd_155_95 : cd 155 95 = some (.iconst 2, 1, 0, 0, 0, []) := rfl
theorem cd_155_96 : cd 155 96 = some (.invokestatic 79, 3, 137, 2, 7, []) := rfl
theorem cd_155_99 : cd 155 99 = some (.ifCond .ne 46, 3, 0, 0, 0, []) := rfl
theorem cd_155_102 : cd 155 102 = some (.iload 4, 2, 0, 0, 0, []) := rfl
theorem cd_155_104 : cd 155 104 = some (.sipush (-2000), 3, 0, 0, 0, []) := rfl
theorem cd_155_107 : cd 155 107 = some (.if_icmp .eq 16, 3, 0, 0, 0, []) := rfl
theorem cd_155_110 : cd 155 110 = some (.iload 4, 2, 0, 0, 0, []) := rfl
theorem cd_155_112 : cd 155 112 = some (.ifCond .le 33, 3, 0, 0, 0, []) := rfl
theorem cd_155_115 : cd 155 115 = some (.iload 4, 2, 0, 0, 0, []) := rfl
theorem cd_155_117 : cd 155 117 = some (.sipush 2000, 3, 0, 0, 0, []) := rfl
theorem cd_155_120 : cd 155 120 = some (.if_icmp .gt 25, 3, 0, 0, 0, []) := rfl
theorem cd_155_123 : cd 155 123 = some (.aload_n 0, 1, 0, 0, 0, []) := rfl
theorem cd_155_124 : cd 155 124 = some (.iconst 3, 1, 0, 0, 0, []) := rfl
theorem cd_155_125 : cd 155 125 = some (.invokestatic 110, 3, 144, 2, 7, []) := rfl
theorem cd_155_128 : cd 155 128 = some (.iload_n 3, 1, 0, 0, 0, []) := rfl
theorem cd_155_129 : cd 155 129 = some (.iconst 3, 1, 0, 0, 0, []) := rfl
theorem cd_155_130 : cd 155 130 = some (.if_icmp .ge 7, 3, 0, 0, 0, []) := rfl
theorem cd_155_133 : cd 155 133 = some (.iload_n 3, 1, 0, 0, 0, []) := rfl
theorem cd_155_134 : cd 155 134 = some (.goto 4, 3, 0, 0, 0, []) := rfl
theorem cd_155_137 : cd 155 137 = some (.iconst 3, 1, 0, 0, 0, []) := rfl
theorem cd_155_138 : cd 155 138 = some (.if_icmp .ne 7, 3, 0, 0, 0, []) := rfl
theorem cd_155_141 : cd 155 141 = some (.iconst 1, 1, 0, 0, 0, []) := rfl
theorem cd_155_142 : cd 155 142 = some (.goto 4, 3, 0, 0, 0, []) := rfl
theorem cd_155_145 : cd 155 145 = some (.iconst 0, 1, 0, 0, 0, []) := rfl
theorem cd_155_146 : cd 155 146 = some (.istore 10, 2, 0, 0, 0, []) := rfl
theorem cd_155_148 : cd 155 148 = some (.iconst 0, 1, 0, 0, 0, []) := rfl
theorem cd_155_149 : cd 155 149 = some (.istore 11, 2, 0, 0, 0, []) := rfl
theorem cd_155_151 : cd 155 151 = some (.iload 11, 2, 0, 0, 0, [2, 4, 7, 12, 13, 14, 15, 16]) := rfl
theorem cd_155_153 : cd 155 153 = some (.bipush 28, 2, 0, 0, 0, []) := rfl
theorem cd_155_155 : cd 155 155 = some (.if_icmp .ge 196, 3, 0, 0, 0, []) := rfl
theorem cd_155_158 : cd 155 158 = some (.iload 10, 2, 0, 0, 0, []) := rfl
theorem cd_155_160 : cd 155 160 = some (.ifCond .eq 191, 3, 0, 0, 0, []) := rfl
theorem cd_155_163 : cd 155 163 = some (.aload_n 0, 1, 0, 0, 0, []) := rfl
theorem cd_155_164 : cd 155 164 = some (.iload 11, 2, 0, 0, 0, []) := rfl
theorem cd_155_166 : cd 155 166 = some (.invokestatic 114, 3, 146, 2, 7, []) := rfl
theorem cd_155_169 : cd 155 169 = some (.iconst (-1), 1, 0, 0, 0, []) := rfl
theorem cd_155_170 : cd 155 170 = some (.if_icmp .eq 181, 3, 0, 0, 0, []) := rfl
theorem cd_155_173 : cd 155 173 = some (.aload_n 0, 1, 0, 0, 0, []) := rfl
theorem cd_155_174 : cd 155 174 = some (.iload 11, 2, 0, 0, 0, []) := rfl
theorem cd_155_176 : cd 155 176 = some (.invokestatic 114, 3, 146, 2, 7, []) := rfl
theorem cd_155_179 : cd 155 179 = some (.istore 12, 2, 0, 0, 0, []) := rfl
theorem cd_155_181 : cd 155 181 = some (.iconst 0, 1, 0, 0, 0, []) := rfl
theorem cd_155_182 : cd 155 182 = some (.istore 13, 2, 0, 0, 0, []) := rfl
theorem cd_155_184 : cd 155 184 = some (.aload_n 0, 1, 0, 0, 0, []) := rfl
theorem cd_155_185 : cd 155 185 = some (.iload 12, 2, 0, 0, 0, []) := rfl
theorem cd_155_187 : cd 155 187 = some (.iconst 0, 1, 0, 0, 0, []) := rfl
theorem cd_155_188 : cd 155 188 = some (.invokestatic 88, 3, 139, 3, 7, []) := rfl
theorem cd_155_191 : cd 155 191 = some (.iload 12, 2, 0, 0, 0, []) := rfl
theorem cd_155_193 : cd 155 193 = some (.if_icmp .ne 18, 3, 0, 0, 0, []) := rfl
theorem cd_155_196 : cd 155 196 = some (.aload_n 0, 1, 0, 0, 0, []) := rfl
theorem cd_155_197 : cd 155 197 = some (.iload 12, 2, 0, 0, 0, []) := rfl
theorem cd_155_199 : cd 155 199 = some (.bipush 6, 2, 0, 0, 0, []) := rfl
theorem cd_155_201 : cd 155 201 = some (.invokestatic 88, 3, 139, 3, 7, []) := rfl
theorem cd_155_204 : cd 155 204 = some (.ifCond .ne 7, 3, 0, 0, 0, []) := rfl
theorem cd_155_207 : cd 155 207 = some (.iconst 1, 1, 0, 0, 0, []) := rfl
theorem cd_155_208 : cd 155 208 = some (.goto 4, 3, 0, 0, 0, []) := rfl
theorem cd_155_211 : cd 155 211 = some (.iconst 0, 1, 0, 0, 0, []) := rfl
theorem cd_155_212 : cd 155 212 = some (.istore 10, 2, 0, 0, 0, []) := rfl
theorem cd_155_214 : cd 155 214 = some (.iconst 0, 1, 0, 0, 0, []) := rfl
theorem cd_155_215 : cd 155 215 = some (.istore 14, 2, 0, 0, 0, []) := rfl
theorem cd_155_217 : cd 155 217 = some (.iload 14, 2, 0, 0, 0, [2, 4, 7, 15, 16]) := rfl
theorem cd_155_219 : cd 155 219 = some (.aload_n 0, 1, 0, 0, 0, []) := rfl
theorem cd_155_220 : cd 155 220 = some (.iload 12, 2, 0, 0, 0, []) := rfl
theorem cd_155_222 : cd 155 222 = some (.iconst 3, 1, 0, 0, 0, []) := rfl
theorem cd_155_223 : cd 155 223 = some (.invokestatic 88, 3, 139, 3, 7, []) := rfl
theorem cd_155_226 : cd 155 226 = some (.if_icmp .ge 99, 3, 0, 0, 0, []) := rfl
theorem cd_155_229 : cd 155 229 = some (.iload 10, 2, 0, 0, 0, []) := rfl
theorem cd_155_231 : cd 155 231 = some (.ifCond .eq 94, 3, 0, 0, 0, []) := rfl
theorem cd_155_234 : cd 155 234 = some (.aload_n 0, 1, 0, 0, 0, []) := rfl
theorem cd_155_235 : cd 155 235 = some (.iload 12, 2, 0, 0, 0, []) := rfl
theorem cd_155_237 : cd 155 237 = some (.iload 14, 2, 0, 0, 0, []) := rfl
theorem cd_155_239 : cd 155 239 = some (.invokestatic 104, 3, 140, 3, 7, []) := rfl
theorem cd_155_242 : cd 155 242 = some (.istore 15, 2, 0, 0, 0, []) := rfl
theorem cd_155_244 : cd 155 244 = some (.aload_n 0, 1, 0, 0, 0, []) := rfl
theorem cd_155_245 : cd 155 245 = some (.iload 15, 2, 0, 0, 0, []) := rfl
theorem cd_155_247 : cd 155 247 = some (.iconst 4, 1, 0, 0, 0, []) := rfl
theorem cd_155_248 : cd 155 248 = some (.invokestatic 84, 3, 136, 3, 7, []) := rfl
theorem cd_155_251 : cd 155 251 = some (.iconst (-1), 1, 0, 0, 0, []) := rfl
theorem cd_155_252 : cd 155 252 = some (.if_icmp .eq 7, 3, 0, 0, 0, []) := rfl
theorem cd_155_255 : cd 155 255 = some (.iconst 1, 1, 0, 0, 0, []) := rfl
theorem cd_155_256 : cd 155 256 = some (.goto 4, 3, 0, 0, 0, []) := rfl
theorem cd_155_259 : cd 155 259 = some (.iconst 0, 1, 0, 0, 0, []) := rfl
theorem cd_155_260 : cd 155 260 = some (.istore 16, 2, 0, 0, 0, []) := rfl
theorem cd_155_262 : cd 155 262 = some (.iload 16, 2, 0, 0, 0, []) := rfl
theorem cd_155_264 : cd 155 264 = some (.ifCond .eq 15, 3, 0, 0, 0, []) := rfl
theorem cd_155_267 : cd 155 267 = some (.lload 6, 2, 0, 0, 0, []) := rfl
theorem cd_155_269 : cd 155 269 = some (.iload 15, 2, 0, 0, 0, []) := rfl
theorem cd_155_271 : cd 155 271 = some (.lshr, 1, 0, 0, 0, []) := rfl
theorem cd_155_272 : cd 155 272 = some (.lconst 1, 1, 0, 0, 0, []) := rfl
theorem cd_155_273 : cd 155 273 = some (.land, 1, 0, 0, 0, []) := rfl
theorem cd_155_274 : cd 155 274 = some (.lconst 0, 1, 0, 0, 0, []) := rfl
theorem cd_155_275 : cd 155 275 = some (.lcmp, 1, 0, 0, 0, []) := rfl
theorem cd_155_276 : cd 155 276 = some (.ifCond .ne 7, 3, 0, 0, 0, []) := rfl
theorem cd_155_279 : cd 155 279 = some (.iconst 1, 1, 0, 0, 0, []) := rfl
theorem cd_155_280 : cd 155 280 = some (.goto 4, 3, 0, 0, 0, []) := rfl
theorem cd_155_283 : cd 155 283 = some (.iconst 0, 1, 0, 0, 0, []) := rfl
theorem cd_155_284 : cd 155 284 = some (.istore 10, 2, 0, 0, 0, []) := rfl
theorem cd_155_286 : cd 155 286 = some (.lload 6, 2, 0, 0, 0, []) := rfl
theorem cd_155_288 : cd 155 288 = some (.iload 16, 2, 0, 0, 0, []) := rfl
theorem cd_155_290 : cd 155 290 = some (.ifCond .eq 10, 3, 0, 0, 0, []) := rfl
theorem cd_155_293 : cd 155 293 = some (.lconst 1, 1, 0, 0, 0, []) := rfl
theorem cd_155_294 : cd 155 294 = some (.iload 15, 2, 0, 0, 0, []) := rfl
theorem cd_155_296 : cd 155 296 = some (.lshl, 1, 0, 0, 0, []) := rfl
theorem cd_155_297 : cd 155 297 = some (.goto 4, 3, 0, 0, 0, []) := rfl
theorem cd_155_300 : cd 155 300 = some (.lconst 0, 1, 0, 0, 0, []) := rfl
theorem cd_155_301 : cd 155 301 = some (.lor, 1, 0, 0, 0, []) := rfl
theorem cd_155_302 : cd 155 302 = some (.lstore 6, 2, 0, 0, 0, []) := rfl
theorem cd_155_304 : cd 155 304 = some (.iload 13, 2, 0, 0, 0, []) := rfl
theorem cd_155_306 : cd 155 306 = some (.iload 16, 2, 0, 0, 0, []) := rfl
theorem cd_155_308 : cd 155 308 = some (.ifCond .eq 7, 3, 0, 0, 0, []) := rfl
theorem cd_155_311 : cd 155 311 = some (.iconst 1, 1, 0, 0, 0, []) := rfl
theorem cd_155_312 : cd 155 312 = some (.goto 4, 3, 0, 0, 0, []) := rfl
theorem cd_155_315 : cd 155 315 = some (.iconst 0, 1, 0, 0, 0, []) := rfl
theorem cd_155_316 : cd 155 316 = some (.iadd, 1, 0, 0, 0, []) := rfl
theorem cd_155_317 : cd 155 317 = some (.istore 13, 2, 0, 0, 0, []) := rfl
theorem cd_155_319 : cd 155 319 = some (.iinc 14 1, 3, 0, 0, 0, []) := rfl
theorem cd_155_322 : cd 155 322 = some (.goto (-105), 3, 0, 0, 0, []) := rfl
theorem cd_155_325 : cd 155 325 = some (.iload 10, 2, 0, 0, 0, []) := rfl
theorem cd_155_327 : cd 155 327 = some (.ifCond .eq 12, 3, 0, 0, 0, []) := rfl
theorem cd_155_330 : cd 155 330 = some (.iload 13, 2, 0, 0, 0, []) := rfl
theorem cd_155_332 : cd 155 332 = some (.ifCond .le 7, 3, 0, 0, 0, []) := rfl
theorem cd_155_335 : cd 155 335 = some (.iconst 1, 1, 0, 0, 0, []) := rfl
theorem cd_155_336 : cd 155 336 = some (.goto 4, 3, 0, 0, 0, []) := rfl
theorem cd_155_339 : cd 155 339 = some (.iconst 0, 1, 0, 0, 0, []) := rfl
theorem cd_155_340 : cd 155 340 = some (.istore 10, 2, 0, 0, 0, []) := rfl
theorem cd_155_342 : cd 155 342 = some (.iinc 8 1, 3, 0, 0, 0, []) := rfl
theorem cd_155_345 : cd 155 345 = some (.iinc 11 1, 3, 0, 0, 0, []) := rfl
theorem cd_155_348 : cd 155 348 = some (.goto (-197), 3, 0, 0, 0, []) := rfl
theorem cd_155_351 : cd 155 351 = some (.iconst 0, 1, 0, 0, 0, []) := rfl
theorem cd_155_352 : cd 155 352 = some (.istore 11, 2, 0, 0, 0, []) := rfl
theorem cd_155_354 : cd 155 354 = some (.iload 11, 2, 0, 0, 0, [2, 4, 7, 12, 13, 14, 15, 16]) := rfl
theorem cd_155_356 : cd 155 356 = some (.aload_n 0, 1, 0, 0, 0, []) := rfl
theorem cd_155_357 : cd 155 357 = some (.iconst 0, 1, 0, 0, 0, []) := rfl
theorem cd_155_358 : cd 155 358 = some (.invokestatic 79, 3, 137, 2, 7, []) := rfl
theorem cd_155_361 : cd 155 361 = some (.aload_n 0, 1, 0, 0, 0, []) := rfl
theorem cd_155_362 : cd 155 362 = some (.iconst 1, 1, 0, 0, 0, []) := rfl
theorem cd_155_363 : cd 155 363 = some (.invokestatic 79, 3, 137, 2, 7, []) := rfl
theorem cd_155_366 : cd 155 366 = some (.imul, 1, 0, 0, 0, []) := rfl
theorem cd_155_367 : cd 155 367 = some (.if_icmp .ge 75, 3, 0, 0, 0, []) := rfl
theorem cd_155_370 : cd 155 370 = some (.iload 10, 2, 0, 0, 0, []) := rfl
theorem cd_155_372 : cd 155 372 = some (.ifCond .eq 70, 3, 0, 0, 0, []) := rfl
theorem cd_155_375 : cd 155 375 = some (.aload_n 0, 1, 0, 0, 0, []) := rfl
theorem cd_155_376 : cd 155 376 = some (.iload 11, 2, 0, 0, 0, []) := rfl
theorem cd_155_378 : cd 155 378 = some (.iconst 4, 1, 0, 0, 0, []) := rfl
theorem cd_155_379 : cd 155 379 = some (.invokestatic 84, 3, 136, 3, 7, []) := rfl
theorem cd_155_382 : cd 155 382 = some (.iconst (-1), 1, 0, 0, 0, []) := rfl
theorem cd_155_383 : cd 155 383 = some (.if_icmp .eq 7, 3, 0, 0, 0, []) := rfl
theorem cd_155_386 : cd 155 386 = some (.iconst 1, 1, 0, 0, 0, []) := rfl
theorem cd_155_387 : cd 155 387 = some (.goto 4, 3, 0, 0, 0, []) := rfl
theorem cd_155_390 : cd 155 390 = some (.iconst 0, 1, 0, 0, 0, []) := rfl
theorem cd_155_391 : cd 155 391 = some (.istore 12, 2, 0, 0, 0, []) := rfl
theorem cd_155_393 : cd 155 393 = some (.iload 9, 2, 0, 0, 0, []) := rfl
theorem cd_155_395 : cd 155 395 = some (.iload 12, 2, 0, 0, 0, []) := rfl
theorem cd_155_397 : cd 155 397 = some (.ifCond .eq 7, 3, 0, 0, 0, []) := rfl
theorem cd_155_400 : cd 155 400 = some (.iconst 1, 1, 0, 0, 0, []) := rfl
theorem cd_155_401 : cd 155 401 = some (.goto 4, 3, 0, 0, 0, []) := rfl
theorem cd_155_404 : cd 155 404 = some (.iconst 0, 1, 0, 0, 0, []) := rfl
theorem cd_155_405 : cd 155 405 = some (.iadd, 1, 0, 0, 0, []) := rfl
theorem cd_155_406 : cd 155 406 = some (.istore 9, 2, 0, 0, 0, []) := rfl
theorem cd_155_408 : cd 155 408 = some (.iload 12, 2, 0, 0, 0, []) := rfl
theorem cd_155_410 : cd 155 410 = some (.ifCond .eq 19, 3, 0, 0, 0, []) := rfl
theorem cd_155_413 : cd 155 413 = some (.iload_n 3, 1, 0, 0, 0, []) := rfl
theorem cd_155_414 : cd 155 414 = some (.ifCond .eq 15, 3, 0, 0, 0, []) := rfl
theorem cd_155_417 : cd 155 417 = some (.lload 6, 2, 0, 0, 0, []) := rfl
theorem cd_155_419 : cd 155 419 = some (.iload 11, 2, 0, 0, 0, []) := rfl
theorem cd_155_421 : cd 155 421 = some (.lshr, 1, 0, 0, 0, []) := rfl
theorem cd_155_422 : cd 155 422 = some (.lconst 1, 1, 0, 0, 0, []) := rfl
theorem cd_155_423 : cd 155 423 = some (.land, 1, 0, 0, 0, []) := rfl
theorem cd_155_424 : cd 155 424 = some (.lconst 1, 1, 0, 0, 0, []) := rfl
theorem cd_155_425 : cd 155 425 = some (.lcmp, 1, 0, 0, 0, []) := rfl
theorem cd_155_426 : cd 155 426 = some (.ifCond .ne 7, 3, 0, 0, 0, []) := rfl
theorem cd_155_429 : cd 155 429 = some (.iconst 1, 1, 0, 0, 0, []) := rfl
theorem cd_155_430 : cd 155 430 = some (.goto 4, 3, 0, 0, 0, []) := rfl
theorem cd_155_433 : cd 155 433 = some (.iconst 0, 1, 0, 0, 0, []) := rfl
theorem cd_155_434 : cd 155 434 = some (.istore 10, 2, 0, 0, 0, []) := rfl
theorem cd_155_436 : cd 155 436 = some (.iinc 11 1, 3, 0, 0, 0, []) := rfl
theorem cd_155_439 : cd 155 439 = some (.goto (-85), 3, 0, 0, 0, []) := rfl
theorem cd_155_442 : cd 155 442 = some (.iload 10, 2, 0, 0, 0, []) := rfl
theorem cd_155_444 : cd 155 444 = some (.ifCond .eq 39, 3, 0, 0, 0, []) := rfl
theorem cd_155_447 : cd 155 447 = some (.iload 9, 2, 0, 0, 0, []) := rfl
theorem cd_155_449 : cd 155 449 = some (.aload_n 0, 1, 0, 0, 0, []) := rfl
theorem cd_155_450 : cd 155 450 = some (.iconst 2, 1, 0, 0, 0, []) := rfl
theorem cd_155_451 : cd 155 451 = some (.invokestatic 79, 3, 137, 2, 7, []) := rfl
theorem cd_155_454 : cd 155 454 = some (.if_icmp .ne 29, 3, 0, 0, 0, []) := rfl
theorem cd_155_457 : cd 155 457 = some (.iload_n 3, 1, 0, 0, 0, []) := rfl
theorem cd_155_458 : cd 155 458 = some (.ifCond .eq 10, 3, 0, 0, 0, []) := rfl
theorem cd_155_461 : cd 155 461 = some (.iload 8, 2, 0, 0, 0, []) := rfl
theorem cd_155_463 : cd 155 463 = some (.iload 5, 2, 0, 0, 0, []) := rfl
theorem cd_155_465 : cd 155 465 = some (.if_icmp .lt 18, 3, 0, 0, 0, []) := rfl
theorem cd_155_468 : cd 155 468 = some (.aload_n 0, 1, 0, 0, 0, []) := rfl
theorem cd_155_469 : cd 155 469 = some (.iconst 1, 1, 0, 0, 0, []) := rfl
theorem cd_155_470 : cd 155 470 = some (.invokestatic 112, 3, 145, 2, 7, []) := rfl
theorem cd_155_473 : cd 155 473 = some (.sipush 2000, 3, 0, 0, 0, []) := rfl
theorem cd_155_476 : cd 155 476 = some (.if_icmp .gt 7, 3, 0, 0, 0, []) := rfl
theorem cd_155_479 : cd 155 479 = some (.iconst 1, 1, 0, 0, 0, []) := rfl
theorem cd_155_480 : cd 155 480 = some (.goto 4, 3, 0, 0, 0, []) := rfl
theorem cd_155_483 : cd 155 483 = some (.iconst 0, 1, 0, 0, 0, []) := rfl
theorem cd_155_484 : cd 155 484 = some (.istore 10, 2, 0, 0, 0, []) := rfl
theorem cd_155_486 : cd 155 486 = some (.aload_n 0, 1, 0, 0, 0, []) := rfl
theorem cd_155_487 : cd 155 487 = some (.invokevirtual 138, 3, 99, 1, 0, []) := rfl
theorem cd_155_490 : cd 155 490 = some (.istore 11, 2, 0, 0, 0, []) := rfl
theorem cd_155_492 : cd 155 492 = some (.iload 10, 2, 0, 0, 0, []) := rfl
theorem cd_155_494 : cd 155 494 = some (.ifCond .eq 50, 3, 0, 0, 0, []) := rfl
theorem cd_155_497 : cd 155 497 = some (.iload 11, 2, 0, 0, 0, []) := rfl
theorem cd_155_499 : cd 155 499 = some (.iconst (-1), 1, 0, 0, 0, []) := rfl
theorem cd_155_500 : cd 155 500 = some (.if_icmp .eq 17, 3, 0, 0, 0, []) := rfl
theorem cd_155_503 : cd 155 503 = some (.aload_n 0, 1, 0, 0, 0, []) := rfl
theorem cd_155_504 : cd 155 504 = some (.iload 11, 2, 0, 0, 0, []) := rfl
theorem cd_155_506 : cd 155 506 = some (.iconst 2, 1, 0, 0, 0, []) := rfl
theorem cd_155_507 : cd 155 507 = some (.idiv, 1, 0, 0, 0, []) := rfl
theorem cd_155_508 : cd 155 508 = some (.iconst 0, 1, 0, 0, 0, []) := rfl
theorem cd_155_509 : cd 155 509 = some (.invokestatic 84, 3, 136, 3, 7, []) := rfl
theorem cd_155_512 : cd 155 512 = some (.bipush 35, 2, 0, 0, 0, []) := rfl
theorem cd_155_514 : cd 155 514 = some (.if_icmp .ne 30, 3, 0, 0, 0, []) := rfl
theorem cd_155_517 : cd 155 517 = some (.aload_n 0, 1, 0, 0, 0, []) := rfl
theorem cd_155_518 : cd 155 518 = some (.iconst 5, 1, 0, 0, 0, []) := rfl
theorem cd_155_519 : cd 155 519 = some (.invokestatic 79, 3, 137, 2, 7, []) := rfl
theorem cd_155_522 : cd 155 522 = some (.ifCond .gt 9, 3, 0, 0, 0, []) := rfl
theorem cd_155_525 : cd 155 525 = some (.iload 11, 2, 0, 0, 0, []) := rfl
theorem cd_155_527 : cd 155 527 = some (.iconst (-1), 1, 0, 0, 0, []) := rfl
theorem cd_155_528 : cd 155 528 = some (.if_icmp .ne 16, 3, 0, 0, 0, []) := rfl
theorem cd_155_531 : cd 155 531 = some (.aload_n 0, 1, 0, 0, 0, []) := rfl
theorem cd_155_532 : cd 155 532 = some (.invokestatic 94, 3, 149, 1, 2, []) := rfl
theorem cd_155_535 : cd 155 535 = some (.lload_n 1, 1, 0, 0, 0, []) := rfl
theorem cd_155_536 : cd 155 536 = some (.lcmp, 1, 0, 0, 0, []) := rfl
theorem cd_155_537 : cd 155 537 = some (.ifCond .ne 7, 3, 0, 0, 0, []) := rfl
theorem cd_155_540 : cd 155 540 = some (.iconst 1, 1, 0, 0, 0, []) := rfl
theorem cd_155_541 : cd 155 541 = some (.goto 4, 3, 0, 0, 0, []) := rfl
theorem cd_155_544 : cd 155 544 = some (.iconst 0, 1, 0, 0, 0, []) := rfl
theorem cd_155_545 : cd 155 545 = some (.istore 10, 2, 0, 0, 0, []) := rfl
theorem cd_155_547 : cd 155 547 = some (.iload 10, 2, 0, 0, 0, []) := rfl
theorem cd_155_549 : cd 155 549 = some (.ifCond .eq 59, 3, 0, 0, 0, []) := rfl
theorem cd_155_552 : cd 155 552 = some (.iload 11, 2, 0, 0, 0, []) := rfl
theorem cd_155_554 : cd 155 554 = some (.iconst (-1), 1, 0, 0, 0, []) := rfl
theorem cd_155_555 : cd 155 555 = some (.if_icmp .eq 53, 3, 0, 0, 0, []) := rfl
theorem cd_155_558 : cd 155 558 = some (.aload_n 0, 1, 0, 0, 0, []) := rfl
theorem cd_155_559 : cd 155 559 = some (.iload 11, 2, 0, 0, 0, []) := rfl
theorem cd_155_561 : cd 155 561 = some (.iconst 2, 1, 0, 0, 0, []) := rfl
theorem cd_155_562 : cd 155 562 = some (.idiv, 1, 0, 0, 0, []) := rfl
theorem cd_155_563 : cd 155 563 = some (.iload 11, 2, 0, 0, 0, []) := rfl
theorem cd_155_565 : cd 155 565 = some (.iconst 2, 1, 0, 0, 0, []) := rfl
theorem cd_155_566 : cd 155 566 = some (.irem, 1, 0, 0, 0, []) := rfl
theorem cd_155_567 : cd 155 567 = some (.ifCond .ne 8, 3, 0, 0, 0, []) := rfl
theorem cd_155_570 : cd 155 570 = some (.bipush 47, 2, 0, 0, 0, []) := rfl
theorem cd_155_572 : cd 155 572 = some (.goto 5, 3, 0, 0, 0, []) := rfl
theorem cd_155_575 : cd 155 575 = some (.bipush 92, 2, 0, 0, 0, []) := rfl
theorem cd_155_577 : cd 155 577 = some (.invokestatic 100, 3, 133, 3, 7, []) := rfl
theorem cd_155_580 : cd 155 580 = some (.bipush 35, 2, 0, 0, 0, []) := rfl
theorem cd_155_582 : cd 155 582 = some (.if_icmp .ne 23, 3, 0, 0, 0, []) := rfl
theorem cd_155_585 : cd 155 585 = some (.aload_n 0, 1, 0, 0, 0, []) := rfl
theorem cd_155_586 : cd 155 586 = some (.iconst 1, 1, 0, 0, 0, []) := rfl
set_option maxRecDepth 20000 in
theorem cd_155_587 : cd 155 587 = some (.invokestatic 110, 3, 144, 2, 7, []) := rfl
set_option maxRecDepth 20000 in
theorem cd_155_590 : cd 155 590 = some (.iconst 1, 1, 0, 0, 0, []) := rfl
set_option maxRecDepth 20000 in
theorem cd_155_591 : cd 155 591 = some (.if_icmp .ne 14, 3, 0, 0, 0, []) := rfl
set_option maxRecDepth 20000 in
theorem cd_155_594 : cd 155 594 = some (.aload_n 0, 1, 0, 0, 0, []) := rfl
set_option maxRecDepth 20000 in
theorem cd_155_595 : cd 155 595 = some (.invokestatic 141, 3, 148, 1, 7, []) := rfl
set_option maxRecDepth 20000 in
theorem cd_155_598 : cd 155 598 = some (.ifCond .lt 7, 3, 0, 0, 0, []) := rfl
set_option maxRecDepth 20000 in
theorem cd_155_601 : cd 155 601 = some (.iconst 1, 1, 0, 0, 0, []) := rfl
set_option maxRecDepth 20000 in
theorem cd_155_602 : cd 155 602 = some (.goto 4, 3, 0, 0, 0, []) := rfl
set_option maxRecDepth 20000 in
theorem cd_155_605 : cd 155 605 = some (.iconst 0, 1, 0, 0, 0, []) := rfl
set_option maxRecDepth 20000 in
theorem cd_155_606 : cd 155 606 = some (.istore 10, 2, 0, 0, 0, []) := rfl
set_option maxRecDepth 20000 in
theorem cd_155_608 : cd 155 608 = some (.iload 10, 2, 0, 0, 0, []) := rfl
set_option maxRecDepth 20000 in
theorem cd_155_610 : cd 155 610 = some (.ifCond .eq 34, 3, 0, 0, 0, []) := rfl
set_option maxRecDepth 20000 in
theorem cd_155_613 : cd 155 613 = some (.aload_n 0, 1, 0, 0, 0, []) := rfl
set_option maxRecDepth 20000 in
theorem cd_155_614 : cd 155 614 = some (.invokevirtual 143, 3, 100, 1, 0, []) := rfl
set_option maxRecDepth 20000 in
theorem cd_155_617 : cd 155 617 = some (.dconst 0, 1, 0, 0, 0, []) := rfl
set_option maxRecDepth 20000 in
theorem cd_155_618 : cd 155 618 = some (.dcmp .l, 1, 0, 0, 0, []) := rfl
set_option maxRecDepth 20000 in
theorem cd_155_619 : cd 155 619 = some (.ifCond .lt 25, 3, 0, 0, 0, []) := rfl
set_option maxRecDepth 20000 in
theorem cd_155_622 : cd 155 622 = some (.aload_n 0, 1, 0, 0, 0, []) := rfl
set_option maxRecDepth 20000 in
theorem cd_155_623 : cd 155 623 = some (.invokevirtual 143, 3, 100, 1, 0, []) := rfl
set_option maxRecDepth 20000 in
theorem cd_155_626 : cd 155 626 = some (.dconst 1, 1, 0, 0, 0, []) := rfl
set_option maxRecDepth 20000 in
theorem cd_155_627 : cd 155 627 = some (.dcmp .g, 1, 0, 0, 0, []) := rfl
set_option maxRecDepth 20000 in
theorem cd_155_628 : cd 155 628 = some (.ifCond .gt 16, 3, 0, 0, 0, []) := rfl
set_option maxRecDepth 20000 in
theorem cd_155_631 : cd 155 631 = some (.aload_n 0, 1, 0, 0, 0, []) := rfl
set_option maxRecDepth 20000 in
theorem cd_155_632 : cd 155 632 = some (.invokestatic 94, 3, 149, 1, 2, []) := rfl
set_option maxRecDepth 20000 in
theorem cd_155_635 : cd 155 635 = some (.lload_n 1, 1, 0, 0, 0, []) := rfl
set_option maxRecDepth 20000 in
theorem cd_155_636 : cd 155 636 = some (.lcmp, 1, 0, 0, 0, []) := rfl
set_option maxRecDepth 20000 in
theorem cd_155_637 : cd 155 637 = some (.ifCond .ne 7, 3, 0, 0, 0, []) := rfl
set_option maxRecDepth 20000 in
theorem cd_155_640 : cd 155 640 = some (.iconst 1, 1, 0, 0, 0, []) := rfl
set_option maxRecDepth 20000 in
theorem cd_155_641 : cd 155 641 = some (.goto 4, 3, 0, 0, 0, []) := rfl
set_option maxRecDepth 20000 in
theorem cd_155_644 : cd 155 644 = some (.iconst 0, 1, 0, 0, 0, []) := rfl
set_option maxRecDepth 20000 in
theorem cd_155_645 : cd 155 645 = some (.ireturn, 1, 0, 0, 0, []) := rfl
end
section
/-! ===== the code table, row by row: by program (wip/p28/gen4.py) ===== -/
theorem cd_156_0 : cd 156 0 = some (.aload_n 0, 1, 0, 0, 0, []) := rfl
theorem cd_156_1 : cd 156 1 = some (.invokestatic 94, 3, 149, 1, 2, []) := rfl
theorem cd_156_4 : cd 156 4 = some (.lstore_n 1, 1, 0, 0, 0, []) := rfl
theorem cd_156_5 : cd 156 5 = some (.aload_n 0, 1, 0, 0, 0, []) := rfl
theorem cd_156_6 : cd 156 6 = some (.iconst 0, 1, 0, 0, 0, []) := rfl
theorem cd_156_7 : cd 156 7 = some (.invokestatic 79, 3, 137, 2, 7, []) := rfl
theorem cd_156_10 : cd 156 10 = some (.istore_n 3, 1, 0, 0, 0, []) := rfl
theorem cd_156_11 : cd 156 11 = some (.aload_n 0, 1, 0, 0, 0, []) := rfl
theorem cd_156_12 : cd 156 12 = some (.iconst 1, 1, 0, 0, 0, []) := rfl
theorem cd_156_13 : cd 156 13 = some (.invokestatic 79, 3, 137, 2, 7, []) := rfl
theorem cd_156_16 : cd 156 16 = some (.istore 4, 2, 0, 0, 0, []) := rfl
theorem cd_156_18 : cd 156 18 = some (.aload_n 0, 1, 0, 0, 0, []) := rfl
theorem cd_156_19 : cd 156 19 = some (.iconst 2, 1, 0, 0, 0, []) := rfl
theorem cd_156_20 : cd 156 20 = some (.invokestatic 79, 3, 137, 2, 7, []) := rfl
theorem cd_156_23 : cd 156 23 = some (.istore 5, 2, 0, 0, 0, []) := rfl
theorem cd_156_25 : cd 156 25 = some (.aload_n 0, 1, 0, 0, 0, []) := rfl
theorem cd_156_26 : cd 156 26 = some (.bipush 7, 2, 0, 0, 0, []) := rfl
theorem cd_156_28 : cd 156 28 = some (.invokestatic 79, 3, 137, 2, 7, []) := rfl
theorem cd_156_31 : cd 156 31 = some (.istore 6, 2, 0, 0, 0, []) := rfl
theorem cd_156_33 : cd 156 33 = some (.aload_n 0, 1, 0, 0, 0, []) := rfl
theorem cd_156_34 : cd 156 34 = some (.bipush 8, 2, 0, 0, 0, []) := rfl
theorem cd_156_36 : cd 156 36 = some (.invokestatic 79, 3, 137, 2, 7, []) := rfl
theorem cd_156_39 : cd 156 39 = some (.istore 7, 2, 0, 0, 0, []) := rfl
theorem cd_156_41 : cd 156 41 = some (.aload_n 0, 1, 0, 0, 0, []) := rfl
theorem cd_156_42 : cd 156 42 = some (.iconst 0, 1, 0, 0, 0, []) := rfl
theorem cd_156_43 : cd 156 43 = some (.iconst 0, 1, 0, 0, 0, []) := rfl
theorem cd_156_44 : cd 156 44 = some (.invokestatic 84, 3, 136, 3, 7, []) := rfl
theorem cd_156_47 : cd 156 47 = some (.istore 8, 2, 0, 0, 0, []) := rfl
theorem cd_156_49 : cd 156 49 = some (.aload_n 0, 1, 0, 0, 0, []) := rfl
theorem cd_156_50 : cd 156 50 = some (.invokevirtual 143, 3, 100, 1, 0, []) := rfl
theorem cd_156_53 : cd 156 53 = some (.dstore 9, 2, 0, 0, 0, []) := rfl
theorem cd_156_55 : cd 156 55 = some (.aload_n 0, 1, 0, 0, 0, []) := rfl
theorem cd_156_56 : cd 156 56 = some (.invokevirtual 147, 3, 84, 1, 0, []) := rfl
theorem cd_156_59 : cd 156 59 = some (.iconst 2, 1, 0, 0, 0, []) := rfl
theorem cd_156_60 : cd 156 60 = some (.iload_n 3, 1, 0, 0, 0, []) := rfl
theorem cd_156_61 : cd 156 61 = some (.iload 4, 2, 0, 0, 0, []) := rfl
theorem cd_156_63 : cd 156 63 = some (.iadd, 1, 0, 0, 0, []) := rfl
theorem cd_156_64 : cd 156 64 = some (.imul, 1, 0, 0, 0, []) := rfl
theorem cd_156_65 : cd 156 65 = some (.if_icmp .ne 113, 3, 0, 0, 0, []) := rfl
theorem cd_156_68 : cd 156 68 = some (.aload_n 0, 1, 0, 0, 0, []) := rfl
theorem cd_156_69 : cd 156 69 = some (.iconst 0, 1, 0, 0, 0, []) := rfl
theorem cd_156_70 : cd 156 70 = some (.invokestatic 79, 3, 137, 2, 7, []) := rfl
theorem cd_156_73 : cd 156 73 = some (.iload 4, 2, 0, 0, 0, []) := rfl
theorem cd_156_75 : cd 156 75 = some (.if_icmp .ne 103, 3, 0, 0, 0, []) := rfl
theorem cd_156_78 : cd 156 78 = some (.aload_n 0, 1, 0, 0, 0, []) := rfl
theorem cd_156_79 : cd 156 79 = some (.iconst 1, 1, 0, 0, 0, []) := rfl
theorem cd_156_80 : cd 156 80 = some (.invokestatic 79, 3, 137, 2, 7, []) := rfl
theorem cd_156_83 : cd 156 83 = some (.iload_n 3, 1, 0, 0, 0, []) := rfl
theorem cd_156_84 : cd 156 84 = some (.if_icmp .ne 94, 3, 0, 0, 0, []) := rfl
theorem cd_156_87 : cd 156 87 = some (.aload_n 0, 1, 0, 0, 0, []) := rfl
theorem cd_156_88 : cd 156 88 = some (.iconst 2, 1, 0, 0, 0, []) := rfl
theorem cd_156_89 : cd 156 89 = some (.invokestatic 79, 3, 137, 2, 7, []) := rfl
theorem cd_156_92 : cd 156 92 = some (.iload 5, 2, 0, 0, 0, []) := rfl
theorem cd_156_94 : cd 156 94 = some (.if_icmp .ne 84, 3, 0, 0, 0, []) := rfl
theorem cd_156_97 : cd 156 97 = some (.aload_n 0, 1, 0, 0, 0, []) := rfl
theorem cd_156_98 : cd 156 98 = some (.bipush 7, 2, 0, 0, 0, []) := rfl
theorem cd_156_100 : cd 156 100 = some (.invokestatic 79, 3, 137, 2, 7, []) := rfl
theorem cd_156_103 : cd 156 103 = some (.iload 6, 2, 0, 0, 0, []) := rfl
theorem cd_156_105 : cd 156 105 = some (.if_icmp .ne 73, 3, 0, 0, 0, []) := rfl
theorem cd_156_108 : cd 156 108 = some (.aload_n 0, 1, 0, 0, 0, []) := rfl
theorem cd_156_109 : cd 156 109 = some (.bipush 8, 2, 0, 0, 0, []) := rfl
theorem cd_156_111 : cd 156 111 = some (.invokestatic 79, 3, 137, 2, 7, []) := rfl
theorem cd_156_114 : cd 156 114 = some (.iload 7, 2, 0, 0, 0, []) := rfl
theorem cd_156_116 : cd 156 116 = some (.if_icmp .ne 62, 3, 0, 0, 0, []) := rfl
theorem cd_156_119 : cd 156 119 = some (.aload_n 0, 1, 0, 0, 0, []) := rfl
theorem cd_156_120 : cd 156 120 = some (.iload 4, 2, 0, 0, 0, []) := rfl
theorem cd_156_122 : cd 156 122 = some (.iconst 1, 1, 0, 0, 0, []) := rfl
theorem cd_156_123 : cd 156 123 = some (.isub, 1, 0, 0, 0, []) := rfl
theorem cd_156_124 : cd 156 124 = some (.iconst 0, 1, 0, 0, 0, []) := rfl
theorem cd_156_125 : cd 156 125 = some (.invokestatic 84, 3, 136, 3, 7, []) := rfl
theorem cd_156_128 : cd 156 128 = some (.iload 8, 2, 0, 0, 0, []) := rfl
theorem cd_156_130 : cd 156 130 = some (.bipush 47, 2, 0, 0, 0, []) := rfl
theorem cd_156_132 : cd 156 132 = some (.if_icmp .ne 8, 3, 0, 0, 0, []) := rfl
theorem cd_156_135 : cd 156 135 = some (.bipush 92, 2, 0, 0, 0, []) := rfl
theorem cd_156_137 : cd 156 137 = some (.goto 17, 3, 0, 0, 0, []) := rfl
theorem cd_156_140 : cd 156 140 = some (.iload 8, 2, 0, 0, 0, []) := rfl
theorem cd_156_142 : cd 156 142 = some (.bipush 92, 2, 0, 0, 0, []) := rfl
theorem cd_156_144 : cd 156 144 = some (.if_icmp .ne 8, 3, 0, 0, 0, []) := rfl
theorem cd_156_147 : cd 156 147 = some (.bipush 47, 2, 0, 0, 0, []) := rfl
theorem cd_156_149 : cd 156 149 = some (.goto 5, 3, 0, 0, 0, []) := rfl
theorem cd_156_152 : cd 156 152 = some (.iload 8, 2, 0, 0, 0, []) := rfl
theorem cd_156_154 : cd 156 154 = some (.if_icmp .ne 24, 3, 0, 0, 0, []) := rfl
theorem cd_156_157 : cd 156 157 = some (.aload_n 0, 1, 0, 0, 0, []) := rfl
theorem cd_156_158 : cd 156 158 = some (.invokevirtual 143, 3, 100, 1, 0, []) := rfl
theorem cd_156_161 : cd 156 161 = some (.dload 9, 2, 0, 0, 0, []) := rfl
theorem cd_156_163 : cd 156 163 = some (.dcmp .l, 1, 0, 0, 0, []) := rfl
theorem cd_156_164 : cd 156 164 = some (.ifCond .ne 14, 3, 0, 0, 0, []) := rfl
theorem cd_156_167 : cd 156 167 = some (.aload_n 0, 1, 0, 0, 0, []) := rfl
theorem cd_156_168 : cd 156 168 = some (.invokestatic 150, 3, 151, 1, 2, []) := rfl
theorem cd_156_171 : cd 156 171 = some (.ifCond .eq 7, 3, 0, 0, 0, []) := rfl
theorem cd_156_174 : cd 156 174 = some (.iconst 1, 1, 0, 0, 0, []) := rfl
theorem cd_156_175 : cd 156 175 = some (.goto 4, 3, 0, 0, 0, []) := rfl
theorem cd_156_178 : cd 156 178 = some (.iconst 0, 1, 0, 0, 0, []) := rfl
theorem cd_156_179 : cd 156 179 = some (.istore 11, 2, 0, 0, 0, []) := rfl
theorem cd_156_181 : cd 156 181 = some (.iconst 0, 1, 0, 0, 0, []) := rfl
theorem cd_156_182 : cd 156 182 = some (.istore 12, 2, 0, 0, 0, []) := rfl
theorem cd_156_184 : cd 156 184 = some (.iload 12, 2, 0, 0, 0, [2, 5, 6, 7, 8, 9, 10]) := rfl
theorem cd_156_186 : cd 156 186 = some (.iconst 3, 1, 0, 0, 0, []) := rfl
theorem cd_156_187 : cd 156 187 = some (.if_icmp .ge 34, 3, 0, 0, 0, []) := rfl
theorem cd_156_190 : cd 156 190 = some (.iload 11, 2, 0, 0, 0, []) := rfl
theorem cd_156_192 : cd 156 192 = some (.ifCond .eq 29, 3, 0, 0, 0, []) := rfl
theorem cd_156_195 : cd 156 195 = some (.aload_n 0, 1, 0, 0, 0, []) := rfl
theorem cd_156_196 : cd 156 196 = some (.invokevirtual 147, 3, 84, 1, 0, []) := rfl
theorem cd_156_199 : cd 156 199 = some (.iconst 2, 1, 0, 0, 0, []) := rfl
theorem cd_156_200 : cd 156 200 = some (.iload_n 3, 1, 0, 0, 0, []) := rfl
theorem cd_156_201 : cd 156 201 = some (.iload 4, 2, 0, 0, 0, []) := rfl
theorem cd_156_203 : cd 156 203 = some (.iadd, 1, 0, 0, 0, []) := rfl
theorem cd_156_204 : cd 156 204 = some (.imul, 1, 0, 0, 0, []) := rfl
theorem cd_156_205 : cd 156 205 = some (.if_icmp .ne 7, 3, 0, 0, 0, []) := rfl
theorem cd_156_208 : cd 156 208 = some (.iconst 1, 1, 0, 0, 0, []) := rfl
theorem cd_156_209 : cd 156 209 = some (.goto 4, 3, 0, 0, 0, []) := rfl
theorem cd_156_212 : cd 156 212 = some (.iconst 0, 1, 0, 0, 0, []) := rfl
theorem cd_156_213 : cd 156 213 = some (.istore 11, 2, 0, 0, 0, []) := rfl
theorem cd_156_215 : cd 156 215 = some (.iinc 12 1, 3, 0, 0, 0, []) := rfl
theorem cd_156_218 : cd 156 218 = some (.goto (-34), 3, 0, 0, 0, []) := rfl
theorem cd_156_221 : cd 156 221 = some (.iload 11, 2, 0, 0, 0, []) := rfl
theorem cd_156_223 : cd 156 223 = some (.ifCond .eq 16, 3, 0, 0, 0, []) := rfl
theorem cd_156_226 : cd 156 226 = some (.aload_n 0, 1, 0, 0, 0, []) := rfl
theorem cd_156_227 : cd 156 227 = some (.invokestatic 94, 3, 149, 1, 2, []) := rfl
theorem cd_156_230 : cd 156 230 = some (.lload_n 1, 1, 0, 0, 0, []) := rfl
theorem cd_156_231 : cd 156 231 = some (.lcmp, 1, 0, 0, 0, []) := rfl
theorem cd_156_232 : cd 156 232 = some (.ifCond .ne 7, 3, 0, 0, 0, []) := rfl
theorem cd_156_235 : cd 156 235 = some (.iconst 1, 1, 0, 0, 0, []) := rfl
theorem cd_156_236 : cd 156 236 = some (.goto 4, 3, 0, 0, 0, []) := rfl
theorem cd_156_239 : cd 156 239 = some (.iconst 0, 1, 0, 0, 0, []) := rfl
theorem cd_156_240 : cd 156 240 = some (.istore 11, 2, 0, 0, 0, []) := rfl
theorem cd_156_242 : cd 156 242 = some (.iconst 0, 1, 0, 0, 0, []) := rfl
theorem cd_156_243 : cd 156 243 = some (.istore 12, 2, 0, 0, 0, []) := rfl
theorem cd_156_245 : cd 156 245 = some (.iload 12, 2, 0, 0, 0, [2, 3, 4, 5, 6, 7, 8, 9, 10]) := rfl
theorem cd_156_247 : cd 156 247 = some (.iconst 4, 1, 0, 0, 0, []) := rfl
theorem cd_156_248 : cd 156 248 = some (.if_icmp .ge 28, 3, 0, 0, 0, []) := rfl
theorem cd_156_251 : cd 156 251 = some (.iload 11, 2, 0, 0, 0, []) := rfl
theorem cd_156_253 : cd 156 253 = some (.ifCond .eq 23, 3, 0, 0, 0, []) := rfl
theorem cd_156_256 : cd 156 256 = some (.aload_n 0, 1, 0, 0, 0, []) := rfl
theorem cd_156_257 : cd 156 257 = some (.invokestatic 141, 3, 148, 1, 7, []) := rfl
theorem cd_156_260 : cd 156 260 = some (.ifCond .lt 7, 3, 0, 0, 0, []) := rfl
theorem cd_156_263 : cd 156 263 = some (.iconst 1, 1, 0, 0, 0, []) := rfl
theorem cd_156_264 : cd 156 264 = some (.goto 4, 3, 0, 0, 0, []) := rfl
theorem cd_156_267 : cd 156 267 = some (.iconst 0, 1, 0, 0, 0, []) := rfl
theorem cd_156_268 : cd 156 268 = some (.istore 11, 2, 0, 0, 0, []) := rfl
theorem cd_156_270 : cd 156 270 = some (.iinc 12 1, 3, 0, 0, 0, []) := rfl
theorem cd_156_273 : cd 156 273 = some (.goto (-28), 3, 0, 0, 0, []) := rfl
theorem cd_156_276 : cd 156 276 = some (.iload 11, 2, 0, 0, 0, []) := rfl
theorem cd_156_278 : cd 156 278 = some (.ifCond .eq 35, 3, 0, 0, 0, []) := rfl
theorem cd_156_281 : cd 156 281 = some (.aload_n 0, 1, 0, 0, 0, []) := rfl
theorem cd_156_282 : cd 156 282 = some (.invokestatic 94, 3, 149, 1, 2, []) := rfl
theorem cd_156_285 : cd 156 285 = some (.lload_n 1, 1, 0, 0, 0, []) := rfl
theorem cd_156_286 : cd 156 286 = some (.lcmp, 1, 0, 0, 0, []) := rfl
theorem cd_156_287 : cd 156 287 = some (.ifCond .ne 26, 3, 0, 0, 0, []) := rfl
theorem cd_156_290 : cd 156 290 = some (.aload_n 0, 1, 0, 0, 0, []) := rfl
theorem cd_156_291 : cd 156 291 = some (.invokevirtual 154, 3, 83, 1, 0, []) := rfl
theorem cd_156_294 : cd 156 294 = some (.aload_n 0, 1, 0, 0, 0, []) := rfl
theorem cd_156_295 : cd 156 295 = some (.iconst 4, 1, 0, 0, 0, []) := rfl
theorem cd_156_296 : cd 156 296 = some (.invokestatic 79, 3, 137, 2, 7, []) := rfl
theorem cd_156_299 : cd 156 299 = some (.if_icmp .ne 14, 3, 0, 0, 0, []) := rfl
theorem cd_156_302 : cd 156 302 = some (.aload_n 0, 1, 0, 0, 0, []) := rfl
theorem cd_156_303 : cd 156 303 = some (.invokestatic 141, 3, 148, 1, 7, []) := rfl
theorem cd_156_306 : cd 156 306 = some (.ifCond .lt 7, 3, 0, 0, 0, []) := rfl
theorem cd_156_309 : cd 156 309 = some (.iconst 1, 1, 0, 0, 0, []) := rfl
theorem cd_156_310 : cd 156 310 = some (.goto 4, 3, 0, 0, 0, []) := rfl
theorem cd_156_313 : cd 156 313 = some (.iconst 0, 1, 0, 0, 0, []) := rfl
theorem cd_156_314 : cd 156 314 = some (.istore 11, 2, 0, 0, 0, []) := rfl
theorem cd_156_316 : cd 156 316 = some (.iload 11, 2, 0, 0, 0, []) := rfl
theorem cd_156_318 : cd 156 318 = some (.ifCond .eq 16, 3, 0, 0, 0, []) := rfl
theorem cd_156_321 : cd 156 321 = some (.aload_n 0, 1, 0, 0, 0, []) := rfl
theorem cd_156_322 : cd 156 322 = some (.invokestatic 94, 3, 149, 1, 2, []) := rfl
theorem cd_156_325 : cd 156 325 = some (.lload_n 1, 1, 0, 0, 0, []) := rfl
theorem cd_156_326 : cd 156 326 = some (.lcmp, 1, 0, 0, 0, []) := rfl
theorem cd_156_327 : cd 156 327 = some (.ifCond .ne 7, 3, 0, 0, 0, []) := rfl
theorem cd_156_330 : cd 156 330 = some (.iconst 1, 1, 0, 0, 0, []) := rfl
theorem cd_156_331 : cd 156 331 = some (.goto 4, 3, 0, 0, 0, []) := rfl
theorem cd_156_334 : cd 156 334 = some (.iconst 0, 1, 0, 0, 0, []) := rfl
theorem cd_156_335 : cd 156 335 = some (.ireturn, 1, 0, 0, 0, []) := rfl
theorem cd_157_0 : cd 157 0 = some (.iload_n 0, 1, 0, 0, 0, []) := rfl
theorem cd_157_1 : cd 157 1 = some (.bipush 14, 2, 0, 0, 0, []) := rfl
theorem cd_157_3 : cd 157 3 = some (.invokestatic 157, 3, 131, 2, 2, []) := rfl
theorem cd_157_6 : cd 157 6 = some (.istore_n 1, 1, 0, 0, 0, []) := rfl
theorem cd_157_7 : cd 157 7 = some (.iload_n 1, 1, 0, 0, 0, []) := rfl
theorem cd_157_8 : cd 157 8 = some (.iconst 5, 1, 0, 0, 0, []) := rfl
theorem cd_157_9 : cd 157 9 = some (.if_icmp .ge 16, 3, 0, 0, 0, []) := rfl
theorem cd_157_12 : cd 157 12 = some (.bipush 97, 2, 0, 0, 0, []) := rfl
theorem cd_157_14 : cd 157 14 = some (.iload_n 0, 1, 0, 0, 0, []) := rfl
theorem cd_157_15 : cd 157 15 = some (.iconst 5, 1, 0, 0, 0, []) := rfl
theorem cd_157_16 : cd 157 16 = some (.ishr, 1, 0, 0, 0, []) := rfl
theorem cd_157_17 : cd 157 17 = some (.iconst 3, 1, 0, 0, 0, []) := rfl
theorem cd_157_18 : cd 157 18 = some (.invokestatic 157, 3, 131, 2, 2, []) := rfl
theorem cd_157_21 : cd 157 21 = some (.iadd, 1, 0, 0, 0, []) := rfl
theorem cd_157_22 : cd 157 22 = some (.goto 68, 3, 0, 0, 0, []) := rfl
theorem cd_157_25 : cd 157 25 = some (.iload_n 1, 1, 0, 0, 0, []) := rfl
theorem cd_157_26 : cd 157 26 = some (.bipush 6, 2, 0, 0, 0, []) := rfl
theorem cd_157_28 : cd 157 28 = some (.if_icmp .ge 16, 3, 0, 0, 0, []) := rfl
theorem cd_157_31 : cd 157 31 = some (.bipush 65, 2, 0, 0, 0, []) := rfl
theorem cd_157_33 : cd 157 33 = some (.iload_n 0, 1, 0, 0, 0, []) := rfl
theorem cd_157_34 : cd 157 34 = some (.iconst 5, 1, 0, 0, 0, []) := rfl
theorem cd_157_35 : cd 157 35 = some (.ishr, 1, 0, 0, 0, []) := rfl
theorem cd_157_36 : cd 157 36 = some (.iconst 3, 1, 0, 0, 0, []) := rfl
theorem cd_157_37 : cd 157 37 = some (.invokestatic 157, 3, 131, 2, 2, []) := rfl
theorem cd_157_40 : cd 157 40 = some (.iadd, 1, 0, 0, 0, []) := rfl
theorem cd_157_41 : cd 157 41 = some (.goto 49, 3, 0, 0, 0, []) := rfl
theorem cd_157_44 : cd 157 44 = some (.iload_n 1, 1, 0, 0, 0, []) := rfl
theorem cd_157_45 : cd 157 45 = some (.bipush 8, 2, 0, 0, 0, []) := rfl
theorem cd_157_47 : cd 157 47 = some (.if_icmp .ge 8, 3, 0, 0, 0, []) := rfl
theorem cd_157_50 : cd 157 50 = some (.bipush 47, 2, 0, 0, 0, []) := rfl
theorem cd_157_52 : cd 157 52 = some (.goto 38, 3, 0, 0, 0, []) := rfl
theorem cd_157_55 : cd 157 55 = some (.iload_n 1, 1, 0, 0, 0, []) := rfl
theorem cd_157_56 : cd 157 56 = some (.bipush 10, 2, 0, 0, 0, []) := rfl
theorem cd_157_58 : cd 157 58 = some (.if_icmp .ge 8, 3, 0, 0, 0, []) := rfl
theorem cd_157_61 : cd 157 61 = some (.bipush 92, 2, 0, 0, 0, []) := rfl
theorem cd_157_63 : cd 157 63 = some (.goto 27, 3, 0, 0, 0, []) := rfl
theorem cd_157_66 : cd 157 66 = some (.iload_n 1, 1, 0, 0, 0, []) := rfl
theorem cd_157_67 : cd 157 67 = some (.bipush 10, 2, 0, 0, 0, []) := rfl
theorem cd_157_69 : cd 157 69 = some (.if_icmp .ne 8, 3, 0, 0, 0, []) := rfl
theorem cd_157_72 : cd 157 72 = some (.bipush 35, 2, 0, 0, 0, []) := rfl
theorem cd_157_74 : cd 157 74 = some (.goto 16, 3, 0, 0, 0, []) := rfl
theorem cd_157_77 : cd 157 77 = some (.iload_n 1, 1, 0, 0, 0, []) := rfl
theorem cd_157_78 : cd 157 78 = some (.bipush 11, 2, 0, 0, 0, []) := rfl
theorem cd_157_80 : cd 157 80 = some (.if_icmp .ne 8, 3, 0, 0, 0, []) := rfl
theorem cd_157_83 : cd 157 83 = some (.bipush 58, 2, 0, 0, 0, []) := rfl
theorem cd_157_85 : cd 157 85 = some (.goto 5, 3, 0, 0, 0, []) := rfl
theorem cd_157_88 : cd 157 88 = some (.bipush 46, 2, 0, 0, 0, []) := rfl
theorem cd_157_90 : cd 157 90 = some (.ireturn, 1, 0, 0, 0, []) := rfl
theorem cd_158_0 : cd 158 0 = some (.aload_n 0, 1, 0, 0, 0, []) := rfl
theorem cd_158_1 : cd 158 1 = some (.iconst 0, 1, 0, 0, 0, []) := rfl
theorem cd_158_2 : cd 158 2 = some (.invokestatic 79, 3, 137, 2, 7, []) := rfl
theorem cd_158_5 : cd 158 5 = some (.aload_n 0, 1, 0, 0, 0, []) := rfl
theorem cd_158_6 : cd 158 6 = some (.iconst 1, 1, 0, 0, 0, []) := rfl
theorem cd_158_7 : cd 158 7 = some (.invokestatic 79, 3, 137, 2, 7, []) := rfl
theorem cd_158_10 : cd 158 10 = some (.imul, 1, 0, 0, 0, []) := rfl
theorem cd_158_11 : cd 158 11 = some (.istore_n 3, 1, 0, 0, 0, []) := rfl
theorem cd_158_12 : cd 158 12 = some (.iload_n 1, 1, 0, 0, 0, []) := rfl
theorem cd_158_13 : cd 158 13 = some (.bipush 16, 2, 0, 0, 0, []) := rfl
theorem cd_158_15 : cd 158 15 = some (.invokestatic 157, 3, 131, 2, 2, []) := rfl
theorem cd_158_18 : cd 158 18 = some (.tableswitch 134 0 5 #[38, 57, 62, 67, 67, 125], 38, 0, 0, 0, []) := rfl
theorem cd_158_56 : cd 158 56 = some (.aload_n 0, 1, 0, 0, 0, []) := rfl
theorem cd_158_57 : cd 158 57 = some (.iconst 2, 1, 0, 0, 0, []) := rfl
theorem cd_158_58 : cd 158 58 = some (.iload_n 2, 1, 0, 0, 0, []) := rfl
theorem cd_158_59 : cd 158 59 = some (.bipush 6, 2, 0, 0, 0, []) := rfl
theorem cd_158_61 : cd 158 61 = some (.irem, 1, 0, 0, 0, []) := rfl
theorem cd_158_62 : cd 158 62 = some (.iadd, 1, 0, 0, 0, []) := rfl
theorem cd_158_63 : cd 158 63 = some (.iconst 2, 1, 0, 0, 0, []) := rfl
theorem cd_158_64 : cd 158 64 = some (.iload_n 2, 1, 0, 0, 0, []) := rfl
theorem cd_158_65 : cd 158 65 = some (.bipush 6, 2, 0, 0, 0, []) := rfl
theorem cd_158_67 : cd 158 67 = some (.idiv, 1, 0, 0, 0, []) := rfl
theorem cd_158_68 : cd 158 68 = some (.iconst 5, 1, 0, 0, 0, []) := rfl
theorem cd_158_69 : cd 158 69 = some (.irem, 1, 0, 0, 0, []) := rfl
theorem cd_158_70 : cd 158 70 = some (.iadd, 1, 0, 0, 0, []) := rfl
theorem cd_158_71 : cd 158 71 = some (.invokestatic 98, 3, 132, 3, 7, []) := rfl
theorem cd_158_74 : cd 158 74 = some (.ireturn, 1, 0, 0, 0, []) := rfl
theorem cd_158_75 : cd 158 75 = some (.aload_n 0, 1, 0, 0, 0, []) := rfl
theorem cd_158_76 : cd 158 76 = some (.invokevirtual 154, 3, 83, 1, 0, []) := rfl
theorem cd_158_79 : cd 158 79 = some (.ireturn, 1, 0, 0, 0, []) := rfl
theorem cd_158_80 : cd 158 80 = some (.aload_n 0, 1, 0, 0, 0, []) := rfl
theorem cd_158_81 : cd 158 81 = some (.invokevirtual 147, 3, 84, 1, 0, []) := rfl
theorem cd_158_84 : cd 158 84 = some (.ireturn, 1, 0, 0, 0, []) := rfl
theorem cd_158_85 : cd 158 85 = some (.aload_n 0, 1, 0, 0, 0, []) := rfl
theorem cd_158_86 : cd 158 86 = some (.invokevirtual 118, 3, 102, 1, 0, []) := rfl
theorem cd_158_89 : cd 158 89 = some (.istore 4, 2, 0, 0, 0, []) := rfl
theorem cd_158_91 : cd 158 91 = some (.iconst 1, 1, 0, 0, 0, []) := rfl
theorem cd_158_92 : cd 158 92 = some (.iload_n 2, 1, 0, 0, 0, []) := rfl
theorem cd_158_93 : cd 158 93 = some (.iconst 3, 1, 0, 0, 0, []) := rfl
theorem cd_158_94 : cd 158 94 = some (.irem, 1, 0, 0, 0, []) := rfl
theorem cd_158_95 : cd 158 95 = some (.iadd, 1, 0, 0, 0, []) := rfl
theorem cd_158_96 : cd 158 96 = some (.istore 5, 2, 0, 0, 0, []) := rfl
theorem cd_158_98 : cd 158 98 = some (.iconst 0, 1, 0, 0, 0, []) := rfl
theorem cd_158_99 : cd 158 99 = some (.istore 6, 2, 0, 0, 0, []) := rfl
theorem cd_158_101 : cd 158 101 = some (.iload 6, 2, 0, 0, 0, [1, 3]) := rfl
theorem cd_158_103 : cd 158 103 = some (.iload 5, 2, 0, 0, 0, []) := rfl
theorem cd_158_105 : cd 158 105 = some (.if_icmp .ge 33, 3, 0, 0, 0, []) := rfl
theorem cd_158_108 : cd 158 108 = some (.iload 4, 2, 0, 0, 0, []) := rfl
theorem cd_158_110 : cd 158 110 = some (.ifCond .lt 28, 3, 0, 0, 0, []) := rfl
theorem cd_158_113 : cd 158 113 = some (.aload_n 0, 1, 0, 0, 0, []) := rfl
theorem cd_158_114 : cd 158 114 = some (.bipush 97, 2, 0, 0, 0, []) := rfl
theorem cd_158_116 : cd 158 116 = some (.iload_n 2, 1, 0, 0, 0, []) := rfl
theorem cd_158_117 : cd 158 117 = some (.iconst 3, 1, 0, 0, 0, []) := rfl
theorem cd_158_118 : cd 158 118 = some (.idiv, 1, 0, 0, 0, []) := rfl
theorem cd_158_119 : cd 158 119 = some (.iconst 2, 1, 0, 0, 0, []) := rfl
theorem cd_158_120 : cd 158 120 = some (.iload 6, 2, 0, 0, 0, []) := rfl
theorem cd_158_122 : cd 158 122 = some (.imul, 1, 0, 0, 0, []) := rfl
theorem cd_158_123 : cd 158 123 = some (.ishr, 1, 0, 0, 0, []) := rfl
theorem cd_158_124 : cd 158 124 = some (.iconst 3, 1, 0, 0, 0, []) := rfl
theorem cd_158_125 : cd 158 125 = some (.irem, 1, 0, 0, 0, []) := rfl
theorem cd_158_126 : cd 158 126 = some (.iadd, 1, 0, 0, 0, []) := rfl
theorem cd_158_127 : cd 158 127 = some (.invokestatic 116, 3, 147, 2, 7, []) := rfl
theorem cd_158_130 : cd 158 130 = some (.istore 4, 2, 0, 0, 0, []) := rfl
theorem cd_158_132 : cd 158 132 = some (.iinc 6 1, 3, 0, 0, 0, []) := rfl
theorem cd_158_135 : cd 158 135 = some (.goto (-34), 3, 0, 0, 0, []) := rfl
theorem cd_158_138 : cd 158 138 = some (.aload_n 0, 1, 0, 0, 0, []) := rfl
theorem cd_158_139 : cd 158 139 = some (.invokestatic 121, 3, 134, 1, 7, []) := rfl
theorem cd_158_142 : cd 158 142 = some (.ireturn, 1, 0, 0, 0, []) := rfl
theorem cd_158_143 : cd 158 143 = some (.aload_n 0, 1, 0, 0, 0, []) := rfl
theorem cd_158_144 : cd 158 144 = some (.iload_n 2, 1, 0, 0, 0, []) := rfl
theorem cd_158_145 : cd 158 145 = some (.bipush 9, 2, 0, 0, 0, []) := rfl
theorem cd_158_147 : cd 158 147 = some (.irem, 1, 0, 0, 0, []) := rfl
theorem cd_158_148 : cd 158 148 = some (.invokestatic 102, 3, 135, 2, 7, []) := rfl
theorem cd_158_151 : cd 158 151 = some (.ireturn, 1, 0, 0, 0, []) := rfl
theorem cd_158_152 : cd 158 152 = some (.aload_n 0, 1, 0, 0, 0, []) := rfl
theorem cd_158_153 : cd 158 153 = some (.iload_n 2, 1, 0, 0, 0, []) := rfl
theorem cd_158_154 : cd 158 154 = some (.iload_n 3, 1, 0, 0, 0, []) := rfl
theorem cd_158_155 : cd 158 155 = some (.irem, 1, 0, 0, 0, []) := rfl
theorem cd_158_156 : cd 158 156 = some (.iload_n 1, 1, 0, 0, 0, []) := rfl
theorem cd_158_157 : cd 158 157 = some (.iconst 4, 1, 0, 0, 0, []) := rfl
theorem cd_158_158 : cd 158 158 = some (.ishr, 1, 0, 0, 0, []) := rfl
theorem cd_158_159 : cd 158 159 = some (.iload_n 2, 1, 0, 0, 0, []) := rfl
theorem cd_158_160 : cd 158 160 = some (.iconst 3, 1, 0, 0, 0, []) := rfl
theorem cd_158_161 : cd 158 161 = some (.ishr, 1, 0, 0, 0, []) := rfl
theorem cd_158_162 : cd 158 162 = some (.ixor, 1, 0, 0, 0, []) := rfl
theorem cd_158_163 : cd 158 163 = some (.invokestatic 160, 3, 157, 1, 2, []) := rfl
theorem cd_158_166 : cd 158 166 = some (.invokestatic 100, 3, 133, 3, 7, []) := rfl
theorem cd_158_169 : cd 158 169 = some (.ireturn, 1, 0, 0, 0, []) := rfl
theorem cd_202_0 : cd 202 0 = some (.new 10, 3, 8, 0, 0, []) := rfl
theorem cd_202_3 : cd 202 3 = some (.dup, 1, 0, 0, 0, []) := rfl
theorem cd_202_4 : cd 202 4 = some (.invokespecial 163, 3, 80, 1, 4, []) := rfl
theorem cd_202_7 : cd 202 7 = some (.astore_n 1, 1, 0, 0, 0, []) := rfl
theorem cd_202_8 : cd 202 8 = some (.aload_n 1, 1, 0, 0, 0, [1000]) := rfl
theorem cd_202_9 : cd 202 9 = some (.invokestatic 141, 3, 148, 1, 7, []) := rfl
theorem cd_202_12 : cd 202 12 = some (.ldc 30, 2, 4, 0, 0, []) := rfl
theorem cd_202_14 : cd 202 14 = some (.if_icmp .ne 28, 3, 0, 0, 0, []) := rfl
theorem cd_202_17 : cd 202 17 = some (.aload_n 1, 1, 0, 0, 0, []) := rfl
theorem cd_202_18 : cd 202 18 = some (.invokestatic 164, 3, 150, 1, 2, []) := rfl
theorem cd_202_21 : cd 202 21 = some (.ifCond .eq 21, 3, 0, 0, 0, []) := rfl
theorem cd_202_24 : cd 202 24 = some (.aload_n 1, 1, 0, 0, 0, []) := rfl
theorem cd_202_25 : cd 202 25 = some (.invokestatic 150, 3, 151, 1, 2, []) := rfl
theorem cd_202_28 : cd 202 28 = some (.ifCond .eq 14, 3, 0, 0, 0, []) := rfl
theorem cd_202_31 : cd 202 31 = some (.aload_n 1, 1, 0, 0, 0, []) := rfl
theorem cd_202_32 : cd 202 32 = some (.invokestatic 167, 3, 155, 1, 2, []) := rfl
theorem cd_202_35 : cd 202 35 = some (.ifCond .eq 7, 3, 0, 0, 0, []) := rfl
theorem cd_202_38 : cd 202 38 = some (.iconst 1, 1, 0, 0, 0, []) := rfl
theorem cd_202_39 : cd 202 39 = some (.goto 4, 3, 0, 0, 0, []) := rfl
theorem cd_202_42 : cd 202 42 = some (.iconst 0, 1, 0, 0, 0, []) := rfl
theorem cd_202_43 : cd 202 43 = some (.istore_n 2, 1, 0, 0, 0, []) := rfl
theorem cd_202_44 : cd 202 44 = some (.iconst 0, 1, 0, 0, 0, []) := rfl
theorem cd_202_45 : cd 202 45 = some (.istore_n 3, 1, 0, 0, 0, []) := rfl
theorem cd_202_46 : cd 202 46 = some (.iload_n 3, 1, 0, 0, 0, [4, 5, 6, 7, 8, 9]) := rfl
theorem cd_202_47 : cd 202 47 = some (.bipush 64, 2, 0, 0, 0, []) := rfl
theorem cd_202_49 : cd 202 49 = some (.if_icmp .ge 281, 3, 0, 0, 0, []) := rfl
theorem cd_202_52 : cd 202 52 = some (.iload_n 2, 1, 0, 0, 0, []) := rfl
theorem cd_202_53 : cd 202 53 = some (.ifCond .eq 277, 3, 0, 0, 0, []) := rfl
theorem cd_202_56 : cd 202 56 = some (.aload_n 0, 1, 0, 0, 0, []) := rfl
theorem cd_202_57 : cd 202 57 = some (.iconst 2, 1, 0, 0, 0, []) := rfl
theorem cd_202_58 : cd 202 58 = some (.iload_n 3, 1, 0, 0, 0, []) := rfl
theorem cd_202_59 : cd 202 59 = some (.imul, 1, 0, 0, 0, []) := rfl
theorem cd_202_60 : cd 202 60 = some (.invokestatic 170, 3, 130, 2, 2, []) := rfl
theorem cd_202_63 : cd 202 63 = some (.istore 4, 2, 0, 0, 0, []) := rfl
theorem cd_202_65 : cd 202 65 = some (.aload_n 0, 1, 0, 0, 0, []) := rfl
theorem cd_202_66 : cd 202 66 = some (.iconst 2, 1, 0, 0, 0, []) := rfl
theorem cd_202_67 : cd 202 67 = some (.iload_n 3, 1, 0, 0, 0, []) := rfl
theorem cd_202_68 : cd 202 68 = some (.imul, 1, 0, 0, 0, []) := rfl
theorem cd_202_69 : cd 202 69 = some (.iconst 1, 1, 0, 0, 0, []) := rfl
theorem cd_202_70 : cd 202 70 = some (.iadd, 1, 0, 0, 0, []) := rfl
theorem cd_202_71 : cd 202 71 = some (.invokestatic 170, 3, 130, 2, 2, []) := rfl
theorem cd_202_74 : cd 202 74 = some (.ldc 173, 2, 5, 0, 0, []) := rfl
theorem cd_202_76 : cd 202 76 = some (.invokestatic 157, 3, 131, 2, 2, []) := rfl
theorem cd_202_79 : cd 202 79 = some (.istore 5, 2, 0, 0, 0, []) := rfl
theorem cd_202_81 : cd 202 81 = some (.aload_n 1, 1, 0, 0, 0, []) := rfl
theorem cd_202_82 : cd 202 82 = some (.invokestatic 94, 3, 149, 1, 2, []) := rfl
theorem cd_202_85 : cd 202 85 = some (.lstore 6, 2, 0, 0, 0, []) := rfl
theorem cd_202_87 : cd 202 87 = some (.iload_n 3, 1, 0, 0, 0, []) := rfl
theorem cd_202_88 : cd 202 88 = some (.ifCond .eq 9, 3, 0, 0, 0, []) := rfl
theorem cd_202_91 : cd 202 91 = some (.iload_n 3, 1, 0, 0, 0, []) := rfl
theorem cd_202_92 : cd 202 92 = some (.bipush 33, 2, 0, 0, 0, []) := rfl
theorem cd_202_94 : cd 202 94 = some (.if_icmp .ne 7, 3, 0, 0, 0, []) := rfl
theorem cd_202_97 : cd 202 97 = some (.iconst 0, 1, 0, 0, 0, []) := rfl
theorem cd_202_98 : cd 202 98 = some (.goto 45, 3, 0, 0, 0, []) := rfl
theorem cd_202_101 : cd 202 101 = some (.iload_n 3, 1, 0, 0, 0, []) := rfl
theorem cd_202_102 : cd 202 102 = some (.iconst 4, 1, 0, 0, 0, []) := rfl
theorem cd_202_103 : cd 202 103 = some (.if_icmp .ge 7, 3, 0, 0, 0, []) := rfl
theorem cd_202_106 : cd 202 106 = some (.iconst 3, 1, 0, 0, 0, []) := rfl
theorem cd_202_107 : cd 202 107 = some (.goto 36, 3, 0, 0, 0, []) := rfl
theorem cd_202_110 : cd 202 110 = some (.iload_n 3, 1, 0, 0, 0, []) := rfl
theorem cd_202_111 : cd 202 111 = some (.bipush 22, 2, 0, 0, 0, []) := rfl
theorem cd_202_113 : cd 202 113 = some (.if_icmp .ge 8, 3, 0, 0, 0, []) := rfl
theorem cd_202_116 : cd 202 116 = some (.bipush 15, 2, 0, 0, 0, []) := rfl
theorem cd_202_118 : cd 202 118 = some (.goto 25, 3, 0, 0, 0, []) := rfl
theorem cd_202_121 : cd 202 121 = some (.iload 4, 2, 0, 0, 0, []) := rfl
theorem cd_202_123 : cd 202 123 = some (.bipush 16, 2, 0, 0, 0, []) := rfl
theorem cd_202_125 : cd 202 125 = some (.invokestatic 157, 3, 131, 2, 2, []) := rfl
theorem cd_202_128 : cd 202 128 = some (.ifCond .ne 8, 3, 0, 0, 0, []) := rfl
theorem cd_202_131 : cd 202 131 = some (.bipush 15, 2, 0, 0, 0, []) := rfl
theorem cd_202_133 : cd 202 133 = some (.goto 10, 3, 0, 0, 0, []) := rfl
theorem cd_202_136 : cd 202 136 = some (.iload 4, 2, 0, 0, 0, []) := rfl
theorem cd_202_138 : cd 202 138 = some (.bipush 16, 2, 0, 0, 0, []) := rfl
theorem cd_202_140 : cd 202 140 = some (.invokestatic 157, 3, 131, 2, 2, []) := rfl
theorem cd_202_143 : cd 202 143 = some (.istore 8, 2, 0, 0, 0, []) := rfl
theorem cd_202_145 : cd 202 145 = some (.aload_n 1, 1, 0, 0, 0, []) := rfl
theorem cd_202_146 : cd 202 146 = some (.bipush 16, 2, 0, 0, 0, []) := rfl
theorem cd_202_148 : cd 202 148 = some (.iload 4, 2, 0, 0, 0, []) := rfl
theorem cd_202_150 : cd 202 150 = some (.iconst 4, 1, 0, 0, 0, []) := rfl
theorem cd_202_151 : cd 202 151 = some (.ishr, 1, 0, 0, 0, []) := rfl
theorem cd_202_152 : cd 202 152 = some (.ldc 174, 2, 6, 0, 0, []) := rfl
theorem cd_202_154 : cd 202 154 = some (.invokestatic 157, 3, 131, 2, 2, []) := rfl
theorem cd_202_157 : cd 202 157 = some (.imul, 1, 0, 0, 0, []) := rfl
theorem cd_202_158 : cd 202 158 = some (.iload 8, 2, 0, 0, 0, []) := rfl
theorem cd_202_160 : cd 202 160 = some (.iadd, 1, 0, 0, 0, []) := rfl
theorem cd_202_161 : cd 202 161 = some (.iload 5, 2, 0, 0, 0, []) := rfl
theorem cd_202_163 : cd 202 163 = some (.invokestatic 175, 3, 158, 3, 2, []) := rfl
theorem cd_202_166 : cd 202 166 = some (.istore 9, 2, 0, 0, 0, []) := rfl
theorem cd_202_168 : cd 202 168 = some (.iload 9, 2, 0, 0, 0, []) := rfl
theorem cd_202_170 : cd 202 170 = some (.ifCond .ge 34, 3, 0, 0, 0, []) := rfl
theorem cd_202_173 : cd 202 173 = some (.iload 9, 2, 0, 0, 0, []) := rfl
theorem cd_202_175 : cd 202 175 = some (.ldc 30, 2, 4, 0, 0, []) := rfl
theorem cd_202_177 : cd 202 177 = some (.if_icmp .eq 17, 3, 0, 0, 0, []) := rfl
theorem cd_202_180 : cd 202 180 = some (.iload 9, 2, 0, 0, 0, []) := rfl
theorem cd_202_182 : cd 202 182 = some (.ldc 17, 2, 2, 0, 0, []) := rfl
theorem cd_202_184 : cd 202 184 = some (.if_icmp .eq 10, 3, 0, 0, 0, []) := rfl
theorem cd_202_187 : cd 202 187 = some (.iload 9, 2, 0, 0, 0, []) := rfl
theorem cd_202_189 : cd 202 189 = some (.ldc 23, 2, 3, 0, 0, []) := rfl
theorem cd_202_191 : cd 202 191 = some (.if_icmp .ne 17, 3, 0, 0, 0, []) := rfl
theorem cd_202_194 : cd 202 194 = some (.aload_n 1, 1, 0, 0, 0, []) := rfl
theorem cd_202_195 : cd 202 195 = some (.invokestatic 94, 3, 149, 1, 2, []) := rfl
theorem cd_202_198 : cd 202 198 = some (.lload 6, 2, 0, 0, 0, []) := rfl
theorem cd_202_200 : cd 202 200 = some (.lcmp, 1, 0, 0, 0, []) := rfl
theorem cd_202_201 : cd 202 201 = some (.ifCond .ne 7, 3, 0, 0, 0, []) := rfl
theorem cd_202_204 : cd 202 204 = some (.iconst 1, 1, 0, 0, 0, []) := rfl
theorem cd_202_205 : cd 202 205 = some (.goto 4, 3, 0, 0, 0, []) := rfl
theorem cd_202_208 : cd 202 208 = some (.iconst 0, 1, 0, 0, 0, []) := rfl
theorem cd_202_209 : cd 202 209 = some (.istore_n 2, 1, 0, 0, 0, []) := rfl
theorem cd_202_210 : cd 202 210 = some (.iload_n 2, 1, 0, 0, 0, []) := rfl
theorem cd_202_211 : cd 202 211 = some (.ifCond .eq 42, 3, 0, 0, 0, []) := rfl
theorem cd_202_214 : cd 202 214 = some (.iload 9, 2, 0, 0, 0, []) := rfl
theorem cd_202_216 : cd 202 216 = some (.ifCond .lt 37, 3, 0, 0, 0, []) := rfl
theorem cd_202_219 : cd 202 219 = some (.iload 4, 2, 0, 0, 0, []) := rfl
theorem cd_202_221 : cd 202 221 = some (.bipush 25, 2, 0, 0, 0, []) := rfl
theorem cd_202_223 : cd 202 223 = some (.ishr, 1, 0, 0, 0, []) := rfl
theorem cd_202_224 : cd 202 224 = some (.bipush 7, 2, 0, 0, 0, []) := rfl
theorem cd_202_226 : cd 202 226 = some (.iand, 1, 0, 0, 0, []) := rfl
theorem cd_202_227 : cd 202 227 = some (.ifCond .ne 26, 3, 0, 0, 0, []) := rfl
theorem cd_202_230 : cd 202 230 = some (.aload_n 1, 1, 0, 0, 0, []) := rfl
theorem cd_202_231 : cd 202 231 = some (.invokestatic 141, 3, 148, 1, 7, []) := rfl
theorem cd_202_234 : cd 202 234 = some (.ifCond .lt 17, 3, 0, 0, 0, []) := rfl
theorem cd_202_237 : cd 202 237 = some (.aload_n 1, 1, 0, 0, 0, []) := rfl
theorem cd_202_238 : cd 202 238 = some (.invokestatic 94, 3, 149, 1, 2, []) := rfl
theorem cd_202_241 : cd 202 241 = some (.lload 6, 2, 0, 0, 0, []) := rfl
theorem cd_202_243 : cd 202 243 = some (.lcmp, 1, 0, 0, 0, []) := rfl
theorem cd_202_244 : cd 202 244 = some (.ifCond .ne 7, 3, 0, 0, 0, []) := rfl
theorem cd_202_247 : cd 202 247 = some (.iconst 1, 1, 0, 0, 0, []) := rfl
theorem cd_202_248 : cd 202 248 = some (.goto 4, 3, 0, 0, 0, []) := rfl
theorem cd_202_251 : cd 202 251 = some (.iconst 0, 1, 0, 0, 0, []) := rfl
theorem cd_202_252 : cd 202 252 = some (.istore_n 2, 1, 0, 0, 0, []) := rfl
theorem cd_202_253 : cd 202 253 = some (.iload_n 2, 1, 0, 0, 0, []) := rfl
theorem cd_202_254 : cd 202 254 = some (.ifCond .eq 68, 3, 0, 0, 0, []) := rfl
theorem cd_202_257 : cd 202 257 = some (.iload_n 3, 1, 0, 0, 0, []) := rfl
theorem cd_202_258 : cd 202 258 = some (.iconst 3, 1, 0, 0, 0, []) := rfl
theorem cd_202_259 : cd 202 259 = some (.irem, 1, 0, 0, 0, []) := rfl
theorem cd_202_260 : cd 202 260 = some (.iconst 1, 1, 0, 0, 0, []) := rfl
theorem cd_202_261 : cd 202 261 = some (.if_icmp .ne 10, 3, 0, 0, 0, []) := rfl
theorem cd_202_264 : cd 202 264 = some (.aload_n 1, 1, 0, 0, 0, []) := rfl
theorem cd_202_265 : cd 202 265 = some (.invokestatic 150, 3, 151, 1, 2, []) := rfl
theorem cd_202_268 : cd 202 268 = some (.ifCond .eq 54, 3, 0, 0, 0, []) := rfl
theorem cd_202_271 : cd 202 271 = some (.iload_n 3, 1, 0, 0, 0, []) := rfl
theorem cd_202_272 : cd 202 272 = some (.bipush 8, 2, 0, 0, 0, []) := rfl
theorem cd_202_274 : cd 202 274 = some (.irem, 1, 0, 0, 0, []) := rfl
theorem cd_202_275 : cd 202 275 = some (.iconst 5, 1, 0, 0, 0, []) := rfl
theorem cd_202_276 : cd 202 276 = some (.if_icmp .ne 10, 3, 0, 0, 0, []) := rfl
theorem cd_202_279 : cd 202 279 = some (.aload_n 1, 1, 0, 0, 0, []) := rfl
theorem cd_202_280 : cd 202 280 = some (.invokestatic 167, 3, 155, 1, 2, []) := rfl
theorem cd_202_283 : cd 202 283 = some (.ifCond .eq 39, 3, 0, 0, 0, []) := rfl
theorem cd_202_286 : cd 202 286 = some (.iload_n 3, 1, 0, 0, 0, []) := rfl
theorem cd_202_287 : cd 202 287 = some (.bipush 9, 2, 0, 0, 0, []) := rfl
theorem cd_202_289 : cd 202 289 = some (.irem, 1, 0, 0, 0, []) := rfl
theorem cd_202_290 : cd 202 290 = some (.bipush 7, 2, 0, 0, 0, []) := rfl
theorem cd_202_292 : cd 202 292 = some (.if_icmp .ne 10, 3, 0, 0, 0, []) := rfl
theorem cd_202_295 : cd 202 295 = some (.aload_n 1, 1, 0, 0, 0, []) := rfl
theorem cd_202_296 : cd 202 296 = some (.invokestatic 178, 3, 156, 1, 2, []) := rfl
theorem cd_202_299 : cd 202 299 = some (.ifCond .eq 23, 3, 0, 0, 0, []) := rfl
theorem cd_202_302 : cd 202 302 = some (.iload_n 3, 1, 0, 0, 0, []) := rfl
theorem cd_202_303 : cd 202 303 = some (.bipush 11, 2, 0, 0, 0, []) := rfl
theorem cd_202_305 : cd 202 305 = some (.irem, 1, 0, 0, 0, []) := rfl
theorem cd_202_306 : cd 202 306 = some (.bipush 8, 2, 0, 0, 0, []) := rfl
theorem cd_202_308 : cd 202 308 = some (.if_icmp .ne 10, 3, 0, 0, 0, []) := rfl
theorem cd_202_311 : cd 202 311 = some (.aload_n 1, 1, 0, 0, 0, []) := rfl
theorem cd_202_312 : cd 202 312 = some (.invokestatic 164, 3, 150, 1, 2, []) := rfl
theorem cd_202_315 : cd 202 315 = some (.ifCond .eq 7, 3, 0, 0, 0, []) := rfl
theorem cd_202_318 : cd 202 318 = some (.iconst 1, 1, 0, 0, 0, []) := rfl
theorem cd_202_319 : cd 202 319 = some (.goto 4, 3, 0, 0, 0, []) := rfl
theorem cd_202_322 : cd 202 322 = some (.iconst 0, 1, 0, 0, 0, []) := rfl
theorem cd_202_323 : cd 202 323 = some (.istore_n 2, 1, 0, 0, 0, []) := rfl
theorem cd_202_324 : cd 202 324 = some (.iinc 3 1, 3, 0, 0, 0, []) := rfl
theorem cd_202_327 : cd 202 327 = some (.goto (-281), 3, 0, 0, 0, []) := rfl
theorem cd_202_330 : cd 202 330 = some (.iload_n 2, 1, 0, 0, 0, []) := rfl
theorem cd_202_331 : cd 202 331 = some (.ifCond .eq 21, 3, 0, 0, 0, []) := rfl
theorem cd_202_334 : cd 202 334 = some (.aload_n 1, 1, 0, 0, 0, []) := rfl
theorem cd_202_335 : cd 202 335 = some (.invokestatic 164, 3, 150, 1, 2, []) := rfl
theorem cd_202_338 : cd 202 338 = some (.ifCond .eq 14, 3, 0, 0, 0, []) := rfl
theorem cd_202_341 : cd 202 341 = some (.aload_n 1, 1, 0, 0, 0, []) := rfl
theorem cd_202_342 : cd 202 342 = some (.invokestatic 150, 3, 151, 1, 2, []) := rfl
theorem cd_202_345 : cd 202 345 = some (.ifCond .eq 7, 3, 0, 0, 0, []) := rfl
theorem cd_202_348 : cd 202 348 = some (.iconst 1, 1, 0, 0, 0, []) := rfl
theorem cd_202_349 : cd 202 349 = some (.goto 4, 3, 0, 0, 0, []) := rfl
theorem cd_202_352 : cd 202 352 = some (.iconst 0, 1, 0, 0, 0, []) := rfl
theorem cd_202_353 : cd 202 353 = some (.ireturn, 1, 0, 0, 0, []) := rfl
end
section
/-! ===== constants ===== -/
theorem bp_28 : (Int8.ofInt 28).toInt32 = (28 : Int32) := by decide +kernel
theorem sp_2744 : (Int16.ofInt 2744).toInt32 = (2744 : Int32) := by decide +kernel
theorem bp_49 : (Int8.ofInt 49).toInt32 = (49 : Int32) := by decide +kernel
theorem ic_0 : Int32.ofInt 0 = (0 : Int32) := by decide +kernel
theorem ic_1 : Int32.ofInt 1 = (1 : Int32) := by decide +kernel
theorem ic_m1 : Int32.ofInt (-1) = (-1 : Int32) := by decide +kernel
theorem bp_98 : (Int8.ofInt 98).toInt32 = (98 : Int32) := by decide +kernel
theorem bp_35 : (Int8.ofInt 35).toInt32 = (35 : Int32) := by decide +kernel
theorem ic_3 : Int32.ofInt 3 = (3 : Int32) := by decide +kernel
theorem ic_2 : Int32.ofInt 2 = (2 : Int32) := by decide +kernel
theorem bp_47 : (Int8.ofInt 47).toInt32 = (47 : Int32) := by decide +kernel
theorem bp_92 : (Int8.ofInt 92).toInt32 = (92 : Int32) := by decide +kernel
theorem ic_4 : Int32.ofInt 4 = (4 : Int32) := by decide +kernel
theorem sp_294 : (Int16.ofInt 294).toInt32 = (294 : Int32) := by decide +kernel
theorem bp_65 : (Int8.ofInt 65).toInt32 = (65 : Int32) := by decide +kernel
theorem bp_97 : (Int8.ofInt 97).toInt32 = (97 : Int32) := by decide +kernel
theorem bp_58 : (Int8.ofInt 58).toInt32 = (58 : Int32) := by decide +kernel
theorem bp_32 : (Int8.ofInt 32).toInt32 = (32 : Int32) := by decide +kernel
theorem sp_2000 : (Int16.ofInt 2000).toInt32 = (2000 : Int32) := by decide +kernel
theorem bp_46 : (Int8.ofInt 46).toInt32 = (46 : Int32) := by decide +kernel
theorem bp_60 : (Int8.ofInt 60).toInt32 = (60 : Int32) := by decide +kernel
theorem bp_8 : (Int8.ofInt 8).toInt32 = (8 : Int32) := by decide +kernel
theorem bp_64 : (Int8.ofInt 64).toInt32 = (64 : Int32) := by decide +kernel
theorem bp_9 : (Int8.ofInt 9).toInt32 = (9 : Int32) := by decide +kernel
theorem bp_6 : (Int8.ofInt 6).toInt32 = (6 : Int32) := by decide +kernel
theorem bp_50 : (Int8.ofInt 50).toInt32 = (50 : Int32) := by decide +kernel
theorem sp_m2000 : (Int16.ofInt (-2000)).toInt32 = (-2000 : Int32) := by decide +kernel
theorem bp_127 : (Int8.ofInt 127).toInt32 = (127 : Int32) := by decide +kernel
theorem bp_7 : (Int8.ofInt 7).toInt32 = (7 : Int32) := by decide +kernel
theorem bp_122 : (Int8.ofInt 122).toInt32 = (122 : Int32) := by decide +kernel
theorem bp_90 : (Int8.ofInt 90).toInt32 = (90 : Int32) := by decide +kernel
theorem bp_15 : (Int8.ofInt 15).toInt32 = (15 : Int32) := by decide +kernel
theorem bp_10 : (Int8.ofInt 10).toInt32 = (10 : Int32) := by decide +kernel
theorem bp_124 : (Int8.ofInt 124).toInt32 = (124 : Int32) := by decide +kernel
theorem bp_51 : (Int8.ofInt 51).toInt32 = (51 : Int32) := by decide +kernel
theorem sp_128 : (Int16.ofInt 128).toInt32 = (128 : Int32) := by decide +kernel
theorem ic_5 : Int32.ofInt 5 = (5 : Int32) := by decide +kernel
theorem bp_14 : (Int8.ofInt 14).toInt32 = (14 : Int32) := by decide +kernel
theorem bp_11 : (Int8.ofInt 11).toInt32 = (11 : Int32) := by decide +kernel
theorem bp_16 : (Int8.ofInt 16).toInt32 = (16 : Int32) := by decide +kernel
theorem bp_33 : (Int8.ofInt 33).toInt32 = (33 : Int32) := by decide +kernel
theorem bp_22 : (Int8.ofInt 22).toInt32 = (22 : Int32) := by decide +kernel
theorem bp_25 : (Int8.ofInt 25).toInt32 = (25 : Int32) := by decide +kernel
theorem lc_0 : lcv 0 = (-1 : Int64) := by decide +kernel
theorem lc_1 : lcv 1 = (191 : Int64) := by decide +kernel
theorem lc_2 : lcv 2 = (31 : Int64) := by decide +kernel
theorem lc_3 : lcv 3 = (6148914691236517205 : Int64) := by decide +kernel
theorem lc_4 : lcv 4 = (3689348814741910323 : Int64) := by decide +kernel
theorem lc_5 : lcv 5 = (1085102592571150095 : Int64) := by decide +kernel
theorem icc_0 : icv 0 = (916318735 : Int32) := by decide +kernel
theorem icc_1 : icv 1 = (2147483647 : Int32) := by decide +kernel
theorem icc_2 : icv 2 = (-5000001 : Int32) := by decide +kernel
theorem icc_3 : icv 3 = (-5000003 : Int32) := by decide +kernel
theorem icc_4 : icv 4 = (-5000002 : Int32) := by decide +kernel
theorem icc_5 : icv 5 = (1000000 : Int32) := by decide +kernel
theorem icc_6 : icv 6 = (9999999 : Int32) := by decide +kernel
theorem lc0 : Int64.ofNat ((0 : Fin 2) : Nat) = 0 := by decide +kernel
theorem lc1 : Int64.ofNat ((1 : Fin 2) : Nat) = 1 := by decide +kernel
end
section
/-! ===== bands on a stone: positions, steps, the way back; no line twice ===== -/
theorem php : ∀ (m n : Nat) (f : Nat → Nat), (∀ i, i < n → f i < m) → (∀ i, i < n → ∀ j, j < n → f i = f j → i = j) → n ≤ m := by
  intro m
  induction m with
  | zero =>
    intro n f h _
    cases n with
    | zero => exact Nat.le_refl _
    | succ k => exact absurd (h 0 (by omega)) (by omega)
  | succ m ih =>
    intro n f h hi
    cases n with
    | zero => exact Nat.zero_le _
    | succ k =>
      have := ih k (fun i => if f i = m then f k else f i) (fun i hik => ?_) (fun i hik j hjk e => ?_)
      · omega
      · have h1 := h i (by omega)
        have h2 := h k (by omega)
        by_cases e : f i = m
        · have : f k ≠ m := fun e2 => by have := hi i (by omega) k (by omega) (e.trans e2.symm); omega
          simp only [e, if_true]; omega
        · simp only [e, if_false]; omega
      · replace e : (if f i = m then f k else f i) = (if f j = m then f k else f j) := e
        by_cases e1 : f i = m
        · by_cases e2 : f j = m
          · exact hi i (by omega) j (by omega) (e1.trans e2.symm)
          · rw [if_pos e1, if_neg e2] at e
            have := hi k (by omega) j (by omega) e
            omega
        · by_cases e2 : f j = m
          · rw [if_neg e1, if_pos e2] at e
            have := hi i (by omega) k (by omega) e
            omega
          · rw [if_neg e1, if_neg e2] at e
            exact hi i (by omega) j (by omega) e
/-- row, column, direction (0 up, 1 right, 2 down, 3 left) -/
abbrev Pos : Type := Nat × Nat × Nat
def opp (d : Nat) : Nat := (d + 2) % 4
/-- the direction behind a cell: 47 rising, 92 falling -/
def trn (v : Int32) (d : Nat) : Nat :=
  if v = 47 then (if d = 0 then 1 else if d = 1 then 0 else if d = 2 then 3 else 2)
  else if v = 92 then (if d = 0 then 3 else if d = 3 then 0 else if d = 2 then 1 else 2)
  else d
/-- one cell on in a direction, or out by a gate -/
def mv (W H r c d : Nat) : Pos ⊕ Nat :=
  if d = 0 then (if r = 0 then .inr c else .inl (r - 1, c, 0))
  else if d = 1 then (if c + 1 = W then .inr (W + r) else .inl (r, c + 1, 1))
  else if d = 2 then (if r + 1 = H then .inr (W + H + c) else .inl (r + 1, c, 2))
  else (if c = 0 then .inr (2 * W + H + r) else .inl (r, c - 1, 3))
def ent (W H g : Nat) : Pos :=
  if g < W then (0, g, 2) else if g < W + H then (g - W, W - 1, 3) else if g < 2 * W + H then (H - 1, g - W - H, 0) else (g - 2 * W - H, 0, 1)
abbrev Cel : Type := Nat → Int32
def byt (W : Nat) (C : Cel) (s : Pos) : Int32 := C (s.1 * W + s.2.1)
def nxt (W H : Nat) (C : Cel) (s : Pos) : Pos ⊕ Nat := mv W H s.1 s.2.1 (trn (byt W C s) s.2.2)
def inS (W H : Nat) (s : Pos) : Prop := s.1 < H ∧ s.2.1 < W ∧ s.2.2 < 4
def rev (W : Nat) (C : Cel) (s : Pos) : Pos := (s.1, s.2.1, opp (trn (byt W C s) s.2.2))
theorem lt4 {d : Nat} (h : d < 4) : d = 0 ∨ d = 1 ∨ d = 2 ∨ d = 3 := by omega
theorem opp0 : opp 0 = 2 := by decide
theorem opp1 : opp 1 = 3 := by decide
theorem opp2 : opp 2 = 0 := by decide
theorem opp3 : opp 3 = 1 := by decide
theorem trn_lt (v : Int32) {d : Nat} (h : d < 4) : trn v d < 4 := by
  rcases lt4 h with rfl | rfl | rfl | rfl <;> by_cases a : v = 47 <;> by_cases b : v = 92 <;> simp_all [trn]
theorem trn_opp (v : Int32) {d : Nat} (h : d < 4) : trn v (opp (trn v d)) = opp d := by
  rcases lt4 h with rfl | rfl | rfl | rfl <;> by_cases a : v = 47 <;> by_cases b : v = 92 <;> simp_all [trn, opp]
theorem trn_inj (v : Int32) {d e : Nat} (h : d < 4) (he : e < 4) (q : trn v d = trn v e) : d = e := by
  rcases lt4 h with rfl | rfl | rfl | rfl <;> rcases lt4 he with rfl | rfl | rfl | rfl <;> first | rfl | (exfalso; by_cases a : v = 47 <;> by_cases b : v = 92 <;> simp_all [trn])
theorem trn_nopp (v : Int32) {d : Nat} (h : d < 4) : opp (trn v d) ≠ d := by
  rcases lt4 h with rfl | rfl | rfl | rfl <;> by_cases a : v = 47 <;> by_cases b : v = 92 <;> simp_all [trn, opp]
theorem opp_opp {d : Nat} (h : d < 4) : opp (opp d) = d := by unfold opp; omega
theorem opp_lt (d : Nat) : opp d < 4 := by unfold opp; omega
theorem mv_in {W H r c d : Nat} {t : Pos} (hr : r < H) (hc : c < W) (hd : d < 4) (h : mv W H r c d = .inl t) : inS W H t ∧ t.2.2 = d ∧ mv W H t.1 t.2.1 (opp d) = .inl (r, c, opp d) ∧ (t.1 ≠ r ∨ t.2.1 ≠ c) := by
  unfold mv at h
  rcases lt4 hd with rfl | rfl | rfl | rfl
  · simp only [if_true] at h
    split at h
    · cases h
    · cases h
      refine ⟨⟨?_, ?_, ?_⟩, rfl, ?_, ?_⟩
      · show r - 1 < H; omega
      · exact hc
      · show (0 : Nat) < 4; omega
      · show mv W H (r - 1) c (opp 0) = .inl (r, c, opp 0)
        rw [opp0]
        unfold mv
        rw [if_neg (by omega), if_neg (by omega), if_pos rfl, if_neg (by omega)]
        rw [show r - 1 + 1 = r by omega]
      · left; show r - 1 ≠ r; omega
  · simp only [if_neg (show ¬ (1 : Nat) = 0 by omega), if_true] at h
    split at h
    · cases h
    · cases h
      refine ⟨⟨hr, ?_, ?_⟩, rfl, ?_, ?_⟩
      · show c + 1 < W; omega
      · show (1 : Nat) < 4; omega
      · show mv W H r (c + 1) (opp 1) = .inl (r, c, opp 1)
        rw [opp1]
        unfold mv
        rw [if_neg (by omega), if_neg (by omega), if_neg (by omega), if_neg (by omega)]
        rw [show c + 1 - 1 = c by omega]
      · right; show c + 1 ≠ c; omega
  · simp only [if_neg (show ¬ (2 : Nat) = 0 by omega), if_neg (show ¬ (2 : Nat) = 1 by omega), if_true] at h
    split at h
    · cases h
    · cases h
      refine ⟨⟨?_, hc, ?_⟩, rfl, ?_, ?_⟩
      · show r + 1 < H; omega
      · show (2 : Nat) < 4; omega
      · show mv W H (r + 1) c (opp 2) = .inl (r, c, opp 2)
        rw [opp2]
        unfold mv
        rw [if_pos rfl, if_neg (by omega)]
        rw [show r + 1 - 1 = r by omega]
      · left; show r + 1 ≠ r; omega
  · simp only [if_neg (show ¬ (3 : Nat) = 0 by omega), if_neg (show ¬ (3 : Nat) = 1 by omega), if_neg (show ¬ (3 : Nat) = 2 by omega)] at h
    split at h
    · cases h
    · cases h
      refine ⟨⟨hr, ?_, ?_⟩, rfl, ?_, ?_⟩
      · show c - 1 < W; omega
      · show (3 : Nat) < 4; omega
      · show mv W H r (c - 1) (opp 3) = .inl (r, c, opp 3)
        rw [opp3]
        unfold mv
        rw [if_neg (by omega), if_pos rfl, if_neg (by omega)]
        rw [show c - 1 + 1 = c by omega]
      · right; show c - 1 ≠ c; omega
theorem mv_out {W H r c d g : Nat} (hr : r < H) (hc : c < W) (hd : d < 4) (h : mv W H r c d = .inr g) : ent W H g = (r, c, opp d) ∧ g < 2 * (W + H) := by
  unfold mv at h
  rcases lt4 hd with rfl | rfl | rfl | rfl
  · simp only [if_true] at h
    split at h
    · cases h
      refine ⟨?_, by omega⟩
      unfold ent
      rw [if_pos hc]
      subst r
      rfl
    · cases h
  · simp only [if_neg (show ¬ (1 : Nat) = 0 by omega), if_true] at h
    split at h
    · cases h
      refine ⟨?_, by omega⟩
      unfold ent
      rw [if_neg (by omega), if_pos (by omega)]
      rw [show W + r - W = r by omega, show W - 1 = c by omega]
      rfl
    · cases h
  · simp only [if_neg (show ¬ (2 : Nat) = 0 by omega), if_neg (show ¬ (2 : Nat) = 1 by omega), if_true] at h
    split at h
    · cases h
      refine ⟨?_, by omega⟩
      unfold ent
      rw [if_neg (by omega), if_neg (by omega), if_pos (by omega)]
      rw [show W + H + c - W - H = c by omega, show H - 1 = r by omega]
      rfl
    · cases h
  · simp only [if_neg (show ¬ (3 : Nat) = 0 by omega), if_neg (show ¬ (3 : Nat) = 1 by omega), if_neg (show ¬ (3 : Nat) = 2 by omega)] at h
    split at h
    · cases h
      refine ⟨?_, by omega⟩
      unfold ent
      rw [if_neg (by omega), if_neg (by omega), if_neg (by omega)]
      rw [show 2 * W + H + r - 2 * W - H = r by omega]
      subst c
      rfl
    · cases h
theorem ent_in {W H g : Nat} (hW : 0 < W) (hH : 0 < H) (hg : g < 2 * (W + H)) : inS W H (ent W H g) ∧ mv W H (ent W H g).1 (ent W H g).2.1 (opp (ent W H g).2.2) = .inr g := by
  unfold ent
  by_cases h1 : g < W
  · rw [if_pos h1]
    refine ⟨⟨hH, h1, by show (2 : Nat) < 4; omega⟩, ?_⟩
    show mv W H 0 g (opp 2) = .inr g
    rw [opp2]
    unfold mv
    rw [if_pos rfl, if_pos rfl]
  · rw [if_neg h1]
    by_cases h2 : g < W + H
    · rw [if_pos h2]
      refine ⟨⟨by show g - W < H; omega, by show W - 1 < W; omega, by show (3 : Nat) < 4; omega⟩, ?_⟩
      show mv W H (g - W) (W - 1) (opp 3) = .inr g
      rw [opp3]
      unfold mv
      rw [if_neg (by omega), if_pos rfl, if_pos (by omega), show W + (g - W) = g by omega]
    · rw [if_neg h2]
      by_cases h3 : g < 2 * W + H
      · rw [if_pos h3]
        refine ⟨⟨by show H - 1 < H; omega, by show g - W - H < W; omega, by show (0 : Nat) < 4; omega⟩, ?_⟩
        show mv W H (H - 1) (g - W - H) (opp 0) = .inr g
        rw [opp0]
        unfold mv
        rw [if_neg (by omega), if_neg (by omega), if_pos rfl, if_pos (by omega), show W + H + (g - W - H) = g by omega]
      · rw [if_neg h3]
        refine ⟨⟨by show g - 2 * W - H < H; omega, hW, by show (1 : Nat) < 4; omega⟩, ?_⟩
        show mv W H (g - 2 * W - H) 0 (opp 1) = .inr g
        rw [opp1]
        unfold mv
        rw [if_neg (by omega), if_neg (by omega), if_neg (by omega), if_pos rfl, show 2 * W + H + (g - 2 * W - H) = g by omega]
section GEO
variable {W H : Nat} {C : Cel}
theorem nxt_in {s t : Pos} (hs : inS W H s) (h : nxt W H C s = .inl t) : inS W H t := (mv_in hs.1 hs.2.1 (trn_lt _ hs.2.2) h).1
/-- the way back -/
theorem nxt_rev {s t : Pos} (hs : inS W H s) (h : nxt W H C s = .inl t) : nxt W H C (rev W C t) = .inl (rev W C s) := by
  obtain ⟨h1, h2, h3, -⟩ := mv_in hs.1 hs.2.1 (trn_lt _ hs.2.2) h
  show mv W H t.1 t.2.1 (trn (byt W C t) (opp (trn (byt W C t) t.2.2))) = _
  rw [trn_opp _ h1.2.2, h2]
  exact h3
theorem nxt_inj {s s' t : Pos} (hs : inS W H s) (hs' : inS W H s') (h : nxt W H C s = .inl t) (h' : nxt W H C s' = .inl t) : s = s' := by
  obtain ⟨h1, h2, h3, -⟩ := mv_in hs.1 hs.2.1 (trn_lt _ hs.2.2) h
  obtain ⟨-, g2, g3, -⟩ := mv_in hs'.1 hs'.2.1 (trn_lt _ hs'.2.2) h'
  rw [← h2] at h3
  rw [← g2] at g3
  have e := Sum.inl.inj (h3.symm.trans g3)
  obtain ⟨r, c, d⟩ := s
  obtain ⟨r', c', d'⟩ := s'
  obtain ⟨rfl, e⟩ := Prod.mk.inj e
  obtain ⟨rfl, -⟩ := Prod.mk.inj e
  have h4 : trn (C (r * W + c)) d = trn (C (r * W + c)) d' := h2.symm.trans g2
  have h5 : d = d' := trn_inj _ hs.2.2 hs'.2.2 h4
  subst h5
  rfl
theorem rev_in {s : Pos} (hs : inS W H s) : inS W H (rev W C s) := ⟨hs.1, hs.2.1, opp_lt _⟩
theorem rev_rev {s : Pos} (hs : inS W H s) : rev W C (rev W C s) = s := by
  obtain ⟨r, c, d⟩ := s
  show (r, c, opp (trn (C (r * W + c)) (opp (trn (C (r * W + c)) d)))) = _
  rw [trn_opp _ hs.2.2, opp_opp hs.2.2]
theorem rev_ne {s : Pos} (hs : inS W H s) : rev W C s ≠ s := by
  obtain ⟨r, c, d⟩ := s
  intro e
  exact trn_nopp _ hs.2.2 (Prod.mk.inj (Prod.mk.inj e).2).2
theorem nxt_ne {s t : Pos} (hs : inS W H s) (h : nxt W H C s = .inl t) : t ≠ rev W C s := by
  obtain ⟨-, -, -, h4⟩ := mv_in hs.1 hs.2.1 (trn_lt _ hs.2.2) h
  intro e
  rw [e] at h4
  exact h4.elim (fun q => q rfl) (fun q => q rfl)
/-- out by a gate: the gate's entrance is the way back -/
theorem nxt_out {s : Pos} {g : Nat} (hs : inS W H s) (h : nxt W H C s = .inr g) : ent W H g = rev W C s ∧ g < 2 * (W + H) := mv_out hs.1 hs.2.1 (trn_lt _ hs.2.2) h
theorem nxt_of_ent {s : Pos} {g : Nat} (hW : 0 < W) (hH : 0 < H) (hg : g < 2 * (W + H)) (hs : inS W H s) (h : rev W C s = ent W H g) : nxt W H C s = .inr g := by
  have h1 := (ent_in hW hH hg).2
  rw [← h] at h1
  have h2 : mv W H s.1 s.2.1 (opp (opp (trn (byt W C s) s.2.2))) = .inr g := h1
  rw [opp_opp (trn_lt _ hs.2.2)] at h2
  exact h2
/-- nothing inside leads to a gate's entrance -/
theorem nxt_ent {s : Pos} {g : Nat} (hW : 0 < W) (hH : 0 < H) (hg : g < 2 * (W + H)) (hs : inS W H s) : nxt W H C s ≠ .inl (ent W H g) := by
  intro h
  obtain ⟨h1, h2, h3, -⟩ := mv_in hs.1 hs.2.1 (trn_lt _ hs.2.2) h
  have h4 := (ent_in hW hH hg).2
  rw [h2] at h4
  rw [h3] at h4
  cases h4
end GEO
end
section
/-! ===== the walk from a gate: places by number, no place twice, no way taken back, at most 2 W H places; ends ===== -/
def itp (W H : Nat) (C : Cel) (g : Nat) : Nat → Option Pos
  | 0 => some (ent W H g)
  | i + 1 => match itp W H C g i with
    | some s => if byt W C s = 35 then none else match nxt W H C s with
      | .inl t => some t
      | .inr _ => none
    | none => none
def endsAt (W H : Nat) (C : Cel) (g e : Nat) : Prop := ∃ i s, itp W H C g i = some s ∧ byt W C s ≠ 35 ∧ nxt W H C s = .inr e
section WLK
variable {W H : Nat} {C : Cel}
theorem it_succ {g i : Nat} {t : Pos} : itp W H C g (i + 1) = some t ↔ ∃ s, itp W H C g i = some s ∧ byt W C s ≠ 35 ∧ nxt W H C s = .inl t := by
  constructor
  · intro h
    simp only [itp] at h
    split at h
    · rename_i s hs
      split at h
      · cases h
      · rename_i hb
        split at h
        · rename_i t' ht
          cases h
          exact ⟨s, hs, hb, ht⟩
        · cases h
    · cases h
  · rintro ⟨s, hs, hb, ht⟩
    simp only [itp, hs, if_neg hb, ht]
theorem it_in (hW : 0 < W) (hH : 0 < H) {g : Nat} (hg : g < 2 * (W + H)) : ∀ {i : Nat} {s : Pos}, itp W H C g i = some s → inS W H s := by
  intro i
  induction i with
  | zero =>
    intro s h
    cases h
    exact (ent_in hW hH hg).1
  | succ i ih =>
    intro s h
    obtain ⟨t, h1, -, h3⟩ := it_succ.mp h
    exact nxt_in (ih h1) h3
theorem it_pre {g i j : Nat} {s : Pos} (h : itp W H C g j = some s) (hij : i ≤ j) : ∃ t, itp W H C g i = some t := by
  induction j generalizing s with
  | zero =>
    obtain rfl : i = 0 := by omega
    exact ⟨s, h⟩
  | succ j ih =>
    by_cases e : i = j + 1
    · subst e; exact ⟨s, h⟩
    · obtain ⟨t, h1, -, -⟩ := it_succ.mp h
      exact ih h1 (by omega)
/-- a place that is left by another is none at which a band is broken -/
theorem it_pre2 {g i j : Nat} {s : Pos} (h : itp W H C g j = some s) (hij : i < j) : ∃ t t', itp W H C g i = some t ∧ byt W C t ≠ 35 ∧ nxt W H C t = .inl t' ∧ itp W H C g (i + 1) = some t' := by
  obtain ⟨t', h1⟩ := it_pre (i := i + 1) h hij
  obtain ⟨t, h2, h3, h4⟩ := it_succ.mp h1
  exact ⟨t, t', h2, h3, h4, h1⟩
theorem ent_inj (hW : 0 < W) (hH : 0 < H) {g g' : Nat} (hg : g < 2 * (W + H)) (hg' : g' < 2 * (W + H)) (h : ent W H g = ent W H g') : g = g' := by
  have h1 := (ent_in hW hH hg).2
  have h2 := (ent_in hW hH hg').2
  rw [h] at h1
  exact Sum.inr.inj (h1.symm.trans h2)
theorem it_inj (hW : 0 < W) (hH : 0 < H) {g g' : Nat} (hg : g < 2 * (W + H)) (hg' : g' < 2 * (W + H)) : ∀ {i j : Nat} {s : Pos}, itp W H C g i = some s → itp W H C g' j = some s → g = g' ∧ i = j := by
  intro i
  induction i with
  | zero =>
    intro j s h1 h2
    cases h1
    cases j with
    | zero => exact ⟨ent_inj hW hH hg hg' (Option.some.inj h2).symm, rfl⟩
    | succ j =>
      obtain ⟨t, h3, -, h5⟩ := it_succ.mp h2
      exact absurd h5 (nxt_ent hW hH hg (it_in hW hH hg' h3))
  | succ i ih =>
    intro j s h1 h2
    obtain ⟨t, h3, -, h5⟩ := it_succ.mp h1
    cases j with
    | zero =>
      cases h2
      exact absurd h5 (nxt_ent hW hH hg' (it_in hW hH hg h3))
    | succ j =>
      obtain ⟨t', h3', -, h5'⟩ := it_succ.mp h2
      have e := nxt_inj (it_in hW hH hg h3) (it_in hW hH hg' h3') h5 h5'
      subst e
      obtain ⟨e1, e2⟩ := ih h3 h3'
      exact ⟨e1, by omega⟩
/-- two ways that meet head on: the one's end is the other's gate -/
theorem it_meet (hW : 0 < W) (hH : 0 < H) {g g' : Nat} (hg : g < 2 * (W + H)) (hg' : g' < 2 * (W + H)) : ∀ {j i : Nat} {s : Pos}, itp W H C g i = some s → itp W H C g' j = some (rev W C s) → byt W C s ≠ 35 → endsAt W H C g g' := by
  intro j
  induction j with
  | zero =>
    intro i s h1 h2 h3
    exact ⟨i, s, h1, h3, nxt_of_ent hW hH hg' (it_in hW hH hg h1) (Option.some.inj h2).symm⟩
  | succ j ih =>
    intro i s h1 h2 h3
    obtain ⟨t, h4, h5, h6⟩ := it_succ.mp h2
    have hs := it_in hW hH hg h1
    have ht := it_in hW hH hg' h4
    have h7 := nxt_rev ht h6
    rw [rev_rev hs] at h7
    exact ih (i := i + 1) (s := rev W C t) (it_succ.mpr ⟨s, h1, h3, h7⟩) (by rw [rev_rev ht]; exact h4) h5
/-- no band takes its own way back -/
theorem it_norev (hW : 0 < W) (hH : 0 < H) {g : Nat} (hg : g < 2 * (W + H)) : ∀ (m i : Nat) {s : Pos}, itp W H C g i = some s → itp W H C g (i + m) ≠ some (rev W C s) := by
  intro m
  induction m using Nat.strongRecOn with
  | ind m ih =>
    intro i s h1 h2
    have hs := it_in hW hH hg h1
    match m, ih, h2 with
    | 0, _, h2 => exact rev_ne hs (Option.some.inj (h2.symm.trans h1))
    | 1, _, h2 =>
      obtain ⟨t, h3, -, h5⟩ := it_succ.mp h2
      obtain rfl : s = t := Option.some.inj (h1.symm.trans h3)
      exact nxt_ne hs h5 rfl
    | m + 2, ih, h2 =>
      obtain ⟨t, t', h3, h4, h5, h6⟩ := it_pre2 (i := i) h2 (by omega)
      obtain rfl : s = t := Option.some.inj (h1.symm.trans h3)
      obtain ⟨t2, h7, h8, h9⟩ := it_succ.mp (show itp W H C g ((i + 1 + m) + 1) = some (rev W C s) from by rw [show i + 1 + m + 1 = i + (m + 2) by omega]; exact h2)
      have ht' := it_in hW hH hg h6
      have h10 := nxt_rev hs h5
      have e := nxt_inj (it_in hW hH hg h7) (rev_in ht') h9 h10
      subst e
      exact ih m (by omega) (i + 1) h6 h7
theorem it_norev2 (hW : 0 < W) (hH : 0 < H) {g i j : Nat} (hg : g < 2 * (W + H)) {s : Pos} (h1 : itp W H C g i = some s) : itp W H C g j ≠ some (rev W C s) := by
  intro h2
  by_cases h : i ≤ j
  · rw [show j = i + (j - i) by omega] at h2
    exact it_norev hW hH hg (j - i) i h1 h2
  · refine it_norev hW hH hg (i - j) j h2 ?_
    rw [rev_rev (it_in hW hH hg h1), show j + (i - j) = i by omega]
    exact h1
/-- a line's number: the cell, and which of its two lines -/
def lnB (v : Int32) (d : Nat) : Nat := if v = 47 then (if d = 1 ∨ d = 2 then 0 else 1) else if v = 92 then (if d = 0 ∨ d = 1 then 0 else 1) else d % 2
def lnN (W : Nat) (C : Cel) (s : Pos) : Nat := 2 * (s.1 * W + s.2.1) + lnB (byt W C s) s.2.2
theorem lnB_lt (v : Int32) (d : Nat) : lnB v d < 2 := by
  unfold lnB
  split
  · split <;> omega
  · split
    · split <;> omega
    · omega
theorem lnB_eq (v : Int32) {d e : Nat} (h : d < 4) (he : e < 4) (q : lnB v d = lnB v e) : e = d ∨ e = opp (trn v d) := by
  unfold lnB at q
  unfold trn opp
  rcases lt4 h with rfl | rfl | rfl | rfl <;> rcases lt4 he with rfl | rfl | rfl | rfl <;> first | exact Or.inl rfl | (split at q <;> first | (simp at q; done) | (right; simp [*]; done) | (split at q <;> first | (simp at q; done) | (right; simp [*]; done)))
theorem cell_inj {W r c r' c' : Nat} (hc : c < W) (hc' : c' < W) (h : r * W + c = r' * W + c') : r = r' ∧ c = c' := by
  have h1 : r = r' := by
    rcases Nat.lt_trichotomy r r' with h1 | h1 | h1
    · have : (r + 1) * W ≤ r' * W := Nat.mul_le_mul_right W h1
      rw [Nat.add_mul] at this
      omega
    · exact h1
    · have : (r' + 1) * W ≤ r * W := Nat.mul_le_mul_right W h1
      rw [Nat.add_mul] at this
      omega
  subst h1
  exact ⟨rfl, by omega⟩
theorem lnN_eq {s t : Pos} (hs : inS W H s) (ht : inS W H t) (h : lnN W C s = lnN W C t) : t = s ∨ t = rev W C s := by
  obtain ⟨r, c, d⟩ := s
  obtain ⟨r', c', d'⟩ := t
  unfold lnN at h
  have b1 := lnB_lt (byt W C (r, c, d)) d
  have b2 := lnB_lt (byt W C (r', c', d')) d'
  dsimp only at h
  obtain ⟨rfl, rfl⟩ := cell_inj hs.2.1 ht.2.1 (show r * W + c = r' * W + c' by omega)
  have h2 : lnB (byt W C (r, c, d)) d = lnB (byt W C (r, c, d)) d' := by
    have h3 : 2 * (r * W + c) + lnB (byt W C (r, c, d)) d = 2 * (r * W + c) + lnB (byt W C (r, c, d)) d' := h
    exact Nat.add_left_cancel h3
  rcases lnB_eq _ hs.2.2 ht.2.2 h2 with e | e
  · left; rw [show d' = d from e]
  · right; rw [show d' = _ from e]; rfl
theorem cell_lt {s : Pos} (hs : inS W H s) : s.1 * W + s.2.1 < W * H := by
  have h1 : (s.1 + 1) * W ≤ H * W := Nat.mul_le_mul_right W hs.1
  rw [Nat.add_mul, Nat.mul_comm H W] at h1
  have := hs.2.1
  omega
/-- at most two places for each cell -/
theorem it_bound (hW : 0 < W) (hH : 0 < H) {g n : Nat} (hg : g < 2 * (W + H)) {s : Pos} (h : itp W H C g n = some s) : n + 1 ≤ 2 * (W * H) := by
  have hd : ∀ i, i < n + 1 → ∃ t, itp W H C g i = some t := fun i hi => it_pre h (by omega)
  refine php _ _ (fun i => match itp W H C g i with
    | some t => lnN W C t
    | none => 0) (fun i hi => ?_) (fun i hi j hj e => ?_)
  · obtain ⟨t, ht⟩ := hd i hi
    simp only [ht]
    have h1 := cell_lt (it_in hW hH hg ht)
    have h2 := lnB_lt (byt W C t) t.2.2
    unfold lnN
    omega
  · obtain ⟨t, ht⟩ := hd i hi
    obtain ⟨t', ht'⟩ := hd j hj
    simp only [ht, ht'] at e
    rcases lnN_eq (it_in hW hH hg ht) (it_in hW hH hg ht') e with rfl | rfl
    · exact (it_inj hW hH hg hg ht ht').2
    · exact absurd ht' (it_norev2 hW hH hg ht)
theorem endsAt_lt (hW : 0 < W) (hH : 0 < H) {g e : Nat} (hg : g < 2 * (W + H)) (h : endsAt W H C g e) : e < 2 * (W + H) := by
  obtain ⟨i, s, h1, -, h3⟩ := h
  exact (nxt_out (it_in hW hH hg h1) h3).2
theorem endsAt_one {g e e' : Nat} (h : endsAt W H C g e) (h' : endsAt W H C g e') : e = e' := by
  obtain ⟨i, s, h1, h2, h3⟩ := h
  obtain ⟨j, t, h1', h2', h3'⟩ := h'
  have key : ∀ {a b : Nat} {x y : Pos} {q : Nat}, itp W H C g a = some x → nxt W H C x = .inr q → itp W H C g b = some y → ¬ a < b := by
    intro a b x y q ha hx hb hlt
    obtain ⟨t, t', k1, -, k3, -⟩ := it_pre2 hb hlt
    obtain rfl : x = t := Option.some.inj (ha.symm.trans k1)
    rw [hx] at k3
    cases k3
  have e1 := key h1 h3 h1'
  have e2 := key h1' h3' h1
  obtain rfl : i = j := by omega
  obtain rfl : s = t := Option.some.inj (h1.symm.trans h1')
  exact Sum.inr.inj (h3.symm.trans h3')
/-- the band from the end comes back to the gate -/
theorem endsAt_back (hW : 0 < W) (hH : 0 < H) {g e : Nat} (hg : g < 2 * (W + H)) (h : endsAt W H C g e) : endsAt W H C e g := by
  have he := endsAt_lt hW hH hg h
  obtain ⟨i, s, h1, h2, h3⟩ := h
  refine it_meet hW hH he hg (j := i) (i := 0) (s := rev W C s) ?_ ?_ h2
  · show some (ent W H e) = _
    rw [(nxt_out (it_in hW hH hg h1) h3).1]
  · rw [rev_rev (it_in hW hH hg h1)]; exact h1
/-- bands that have their number: a straight cell is entered in a row by one of them at most, once, and in a column as well -/
theorem it_one (hW : 0 < W) (hH : 0 < H) {g g' i j : Nat} (hg : g < 2 * (W + H)) (hg' : g' < 2 * (W + H)) (f : ∀ e, endsAt W H C g e → g ≤ e) (f' : ∀ e, endsAt W H C g' e → g' ≤ e) {s t : Pos} (h1 : itp W H C g i = some s) (h2 : itp W H C g' j = some t)
    (hc : s.1 * W + s.2.1 = t.1 * W + t.2.1) (hb : byt W C s ≠ 35) (hr : byt W C s ≠ 47) (hf : byt W C s ≠ 92) (hd : s.2.2 % 2 = t.2.2 % 2) : g = g' ∧ i = j := by
  have hs := it_in hW hH hg h1
  have ht := it_in hW hH hg' h2
  have hbt : byt W C t = byt W C s := by unfold byt; rw [hc]
  have hl : lnN W C s = lnN W C t := by
    unfold lnN lnB
    rw [hbt, hc, if_neg hr, if_neg hf, if_neg hr, if_neg hf, hd]
  rcases lnN_eq hs ht hl with rfl | rfl
  · exact it_inj hW hH hg hg' h1 h2
  · have e1 := it_meet hW hH hg hg' h1 h2 hb
    have e2 := endsAt_back hW hH hg e1
    have := f _ e1
    have := f' _ e2
    obtain rfl : g = g' := by omega
    exact absurd h2 (it_norev2 hW hH hg h1)
end WLK
end
section
/-! ===== the interpreter: cells by numbers (0 the script), locals by slots, one activation as a least fixed point, calls by depth ===== -/
abbrev AE : Type := (Nat × vp_A) ⊕ (Nat × List Value)
abbrev Lc : Type := List (Option Value)
/-- the mark (0: nothing is frozen; n + 1: frozen, n units of allotting left), the cells -/
abbrev Gp : Type := Nat × List AE
def M0 : Nat := 700001
abbrev Out : Type := (Option Value) ⊕ Nat
abbrev Post : Type := Out → Gp → Prop
abbrev CT : Type := Nat → List Value → Gp → Post → Prop
abbrev XT : Type := Nat → Lc → List Value → Nat × Nat → Gp → Prop
abbrev CE : Type := Instr × Nat × Nat × Nat × Nat × List Nat
def lk (L : Lc) (n : Nat) : Option Value := match L[n]? with
  | some (some v) => some v
  | _ => none
def clrP (L : Lc) (n : Nat) : Lc := match n with
  | 0 => L
  | k + 1 => match lk L k with
    | some v => if v.category = 2 then L.set k none else L
    | none => L
def sto1 (L : Lc) (n : Nat) (v : Value) : Lc := (clrP L n).set n (some v)
def sto2 (L : Lc) (n : Nat) (v : Value) : Lc := ((clrP L n).set n (some v)).set (n + 1) none
def killL (L : Lc) (ks : List Nat) : Lc := ks.foldl (fun l k => l.set k none) L
def entS (vs : List Value) : Lc := vs.flatMap fun v => if v.category = 2 then [some v, none] else [some v]
def entL (n : Nat) (vs : List Value) : Lc := entS vs ++ List.replicate (n - (entS vs).length) none
def pI (st : List Value) (K : Int32 → List Value → Prop) : Prop := match st with
  | .int x :: r => K x r
  | _ => False
def pJ (st : List Value) (K : Int64 → List Value → Prop) : Prop := match st with
  | .long x :: r => K x r
  | _ => False
def pD (st : List Value) (K : UInt64 → List Value → Prop) : Prop := match st with
  | .double x :: r => K x r
  | _ => False
def pR (st : List Value) (K : Nat → List Value → Prop) : Prop := match st with
  | .ref x :: r => K x r
  | _ => False
def pV (st : List Value) (K : Value → List Value → Prop) : Prop := match st with
  | x :: r => K x r
  | _ => False
def lI (L : Lc) (n : Nat) (K : Int32 → Prop) : Prop := match lk L n with
  | some (.int x) => K x
  | _ => False
def lJ (L : Lc) (n : Nat) (K : Int64 → Prop) : Prop := match lk L n with
  | some (.long x) => K x
  | _ => False
def lD (L : Lc) (n : Nat) (K : UInt64 → Prop) : Prop := match lk L n with
  | some (.double x) => K x
  | _ => False
def lR (L : Lc) (n : Nat) (K : Nat → Prop) : Prop := match lk L n with
  | some (.ref x) => K x
  | _ => False
def hO (g : Gp) (a : Nat) (K : Nat → List Value → Prop) : Prop := match g.2[a]? with
  | some (.inr (ci, fs)) => K ci fs
  | _ => False
def hA (g : Gp) (a : Nat) (K : Nat → Nat → Prop) : Prop := match g.2[a]? with
  | some (.inl (t, n, _)) => K t n
  | _ => False
def hI (g : Gp) (a : Nat) (K : Nat → Nat → (Nat → Int32) → Prop) : Prop := match g.2[a]? with
  | some (.inl (t, n, .inl f)) => K t n f
  | _ => False
def hJ (g : Gp) (a : Nat) (K : Nat → Nat → (Nat → Int64) → Prop) : Prop := match g.2[a]? with
  | some (.inl (t, n, .inr (.inl f))) => K t n f
  | _ => False
def hQ (g : Gp) (a : Nat) (K : Nat → Nat → (Nat → Option Nat) → Prop) : Prop := match g.2[a]? with
  | some (.inl (t, n, .inr (.inr (.inr (.inr f))))) => K t n f
  | _ => False
def wr (g : Gp) (a : Nat) (x : AE) : Gp := (g.1, g.2.set a x)
def nw (g : Gp) (x : AE) : Gp := (g.1, g.2 ++ [x])
def zr (t : FieldType) : Value := defaultValue t
def bI (x : Int32) (o : ClassFile.Cond) (A B : Prop) : Prop := match o with
  | .eq => if x = 0 then A else B
  | .ne => if x = 0 then B else A
  | .lt => if x < 0 then A else B
  | .ge => if 0 ≤ x then A else B
  | .gt => if 0 < x then A else B
  | .le => if x ≤ 0 then A else B
def bC (x y : Int32) (o : ClassFile.Cond) (A B : Prop) : Prop := match o with
  | .eq => if x = y then A else B
  | .ne => if x = y then B else A
  | .lt => if x < y then A else B
  | .ge => if y ≤ x then A else B
  | .gt => if y < x then A else B
  | .le => if x ≤ y then A else B
def atNew (t : ArrayType) (n : Nat) : AE := match t with
  | .int => .inl (0, n, .inl (fun _ => 0))
  | .long => .inl (1, n, .inr (.inl (fun _ => 0)))
  | _ => .inr (99, [])
def rcv (vs : List Value) (K : Nat → Prop) : Prop := match vs with
  | .ref o :: _ => K o
  | _ => False
/-- the receiver, by the kind of the call: 0, 1 virtual, 2, 3, 7 static, 4, 5 a constructor -/
def rcK (c a : Nat) (g : Gp) (vs : List Value) : Prop := match c with
  | 0 => rcv vs fun o => hO g o fun ci _ => ci = own a
  | 1 => rcv vs fun o => hO g o fun ci _ => ci = own a
  | 2 => True
  | 3 => True
  | 7 => True
  | _ => rcv vs fun _ => True
/-- all references of a value, of a cell, of cells are numbers below n -/
def cloV (n : Nat) (v : Value) : Prop := match v with
  | .ref o => o < n
  | _ => True
def cloE (n : Nat) (x : AE) : Prop := match x with
  | .inl (_, _, .inr (.inr (.inr (.inr f)))) => ∀ j q, f j = some q → q < n
  | .inr (_, fs) => ∀ v ∈ fs, cloV n v
  | _ => True
def clo (n : Nat) (hs : List AE) : Prop := ∀ x ∈ hs, cloE n x
def cloL (n : Nat) (L : Lc) : Prop := ∀ i v, lk L i = some v → cloV n v
/-- the mark at the freezing -/
def frz (g : Gp) : Gp := if g.1 = 0 then (M0, g.2) else g
/-- one instruction: k the method, Q what is asked of its end, X what is asked of the next place, C the calls; i with its length n and what its entry means (a, b, c) -/
def st1 (C : CT) (k : Nat) (Q : Post) (X : XT) (pc : Nat) (i : Instr) (n a b c : Nat) (L : Lc) (st : List Value) (u : Nat × Nat) (g : Gp) : Prop := match i with
  | .iload_n j => lI L j fun x => X (pc + n) L (.int x :: st) u g
  | .iload j => lI L j fun x => X (pc + n) L (.int x :: st) u g
  | .lload_n j => lJ L j fun x => X (pc + n) L (.long x :: st) u g
  | .lload j => lJ L j fun x => X (pc + n) L (.long x :: st) u g
  | .aload_n j => lR L j fun x => X (pc + n) L (.ref x :: st) u g
  | .aload j => lR L j fun x => X (pc + n) L (.ref x :: st) u g
  | .dload j => lD L j fun x => X (pc + n) L (.double x :: st) u g
  | .istore_n j => pI st fun x r => (j : Nat) < mxl k ∧ X (pc + n) (sto1 L j (.int x)) r u g
  | .istore j => pI st fun x r => j < mxl k ∧ X (pc + n) (sto1 L j (.int x)) r u g
  | .lstore_n j => pJ st fun x r => (j : Nat) + 1 < mxl k ∧ X (pc + n) (sto2 L j (.long x)) r u g
  | .lstore j => pJ st fun x r => j + 1 < mxl k ∧ X (pc + n) (sto2 L j (.long x)) r u g
  | .astore_n j => pR st fun x r => (j : Nat) < mxl k ∧ X (pc + n) (sto1 L j (.ref x)) r u g
  | .astore j => pR st fun x r => j < mxl k ∧ X (pc + n) (sto1 L j (.ref x)) r u g
  | .dstore j => pD st fun x r => j + 1 < mxl k ∧ X (pc + n) (sto2 L j (.double x)) r u g
  | .iinc j d => lI L j fun x => j < mxl k ∧ X (pc + n) (sto1 L j (.int (x + Int32.ofInt d))) st u g
  | .iconst d => X (pc + n) L (.int (Int32.ofInt d) :: st) u g
  | .bipush d => X (pc + n) L (.int (Int8.ofInt d).toInt32 :: st) u g
  | .sipush d => X (pc + n) L (.int (Int16.ofInt d).toInt32 :: st) u g
  | .lconst d => X (pc + n) L (.long (Int64.ofNat (d : Nat)) :: st) u g
  | .ldc2_w _ => X (pc + n) L (.long (lcv a) :: st) u g
  | .ldc _ => X (pc + n) L (.int (icv a) :: st) u g
  | .dconst d => if d = 1 then X (pc + n) L (.double FP.dconst1 :: st) u g else if d = 0 then X (pc + n) L (.double FP.dconst0 :: st) u g else False
  | .aconst_null => X (pc + n) L (.null :: st) u g
  | .iadd => pI st fun y r => pI r fun x r => X (pc + n) L (.int (x + y) :: r) u g
  | .isub => pI st fun y r => pI r fun x r => X (pc + n) L (.int (x - y) :: r) u g
  | .imul => pI st fun y r => pI r fun x r => X (pc + n) L (.int (x * y) :: r) u g
  | .iand => pI st fun y r => pI r fun x r => X (pc + n) L (.int (x &&& y) :: r) u g
  | .ixor => pI st fun y r => pI r fun x r => X (pc + n) L (.int (x ^^^ y) :: r) u g
  | .ineg => pI st fun x r => X (pc + n) L (.int (-x) :: r) u g
  | .ishr => pI st fun y r => pI r fun x r => X (pc + n) L (.int (x >>> (y &&& 31)) :: r) u g
  | .iushr => pI st fun y r => pI r fun x r => X (pc + n) L (.int (x.toUInt32 >>> (y.toUInt32 &&& Int32.toUInt32 31)).toInt32 :: r) u g
  | .idiv => pI st fun y r => pI r fun x r => ¬ y = 0 ∧ X (pc + n) L (.int (x / y) :: r) u g
  | .irem => pI st fun y r => pI r fun x r => ¬ y = 0 ∧ X (pc + n) L (.int (x - x / y * y) :: r) u g
  | .ladd => pJ st fun y r => pJ r fun x r => X (pc + n) L (.long (x + y) :: r) u g
  | .lsub => pJ st fun y r => pJ r fun x r => X (pc + n) L (.long (x - y) :: r) u g
  | .lmul => pJ st fun y r => pJ r fun x r => X (pc + n) L (.long (x * y) :: r) u g
  | .land => pJ st fun y r => pJ r fun x r => X (pc + n) L (.long (x &&& y) :: r) u g
  | .lor => pJ st fun y r => pJ r fun x r => X (pc + n) L (.long (x ||| y) :: r) u g
  | .lxor => pJ st fun y r => pJ r fun x r => X (pc + n) L (.long (x ^^^ y) :: r) u g
  | .lneg => pJ st fun x r => X (pc + n) L (.long (-x) :: r) u g
  | .lshl => pI st fun y r => pJ r fun x r => X (pc + n) L (.long (x <<< (y.toInt64 &&& 63)) :: r) u g
  | .lshr => pI st fun y r => pJ r fun x r => X (pc + n) L (.long (x >>> (y.toInt64 &&& 63)) :: r) u g
  | .lushr => pI st fun y r => pJ r fun x r => X (pc + n) L (.long (x.toUInt64 >>> (y.toInt64.toUInt64 &&& Int64.toUInt64 63)).toInt64 :: r) u g
  | .i2l => pI st fun x r => X (pc + n) L (.long x.toInt64 :: r) u g
  | .l2i => pJ st fun x r => X (pc + n) L (.int x.toInt32 :: r) u g
  | .i2d => pI st fun x r => X (pc + n) L (.double (FP.i2d x) :: r) u g
  | .ddiv => pD st fun y r => pD r fun x r => vf_n64 (FP.ddiv x y) ∧ X (pc + n) L (.double (FP.ddiv x y) :: r) u g
  | .lcmp => pJ st fun y r => pJ r fun x r => X (pc + n) L (.int (lg_cmp x y) :: r) u g
  | .dcmp o => pD st fun y r => pD r fun x r => X (pc + n) L (.int (Op.cmpValue (FP.dcmp x y) o) :: r) u g
  | .dup => pV st fun v r => v.category = 1 ∧ X (pc + n) L (v :: v :: r) u g
  | .dup2 => pV st fun v r => pV r fun w r => v.category = 1 ∧ w.category = 1 ∧ X (pc + n) L (v :: w :: v :: w :: r) u g
  | .goto o => X (tg pc o) L st u g
  | .ifCond q o => pI st fun x r => bI x q (X (tg pc o) L r u g) (X (pc + n) L r u g)
  | .if_icmp q o => pI st fun y r => pI r fun x r => bC x y q (X (tg pc o) L r u g) (X (pc + n) L r u g)
  | .ifnull o => pV st fun v r => match v with
    | .null => X (tg pc o) L r u g
    | .ref _ => X (pc + n) L r u g
    | _ => False
  | .tableswitch d lo hi offs => pI st fun x r => if x.toInt < lo ∨ hi < x.toInt then X (tg pc d) L r u g else match offs[(x.toInt - lo).toNat]? with
    | some o => X (tg pc o) L r u g
    | none => False
  | .getfield _ => pR st fun o r => hO g o fun ci fs => ci = a ∧ match fs[b]? with
    | some v => X (pc + n) L (v :: r) u g
    | none => False
  | .putfield _ => pV st fun v r => pR r fun o r => hO g o fun ci fs => ci = a ∧ b < fs.length ∧ narrow (fty a b) v = v ∧ fits (fty a b) v = true ∧ X (pc + n) L r u (wr g o (.inr (ci, fs.set b v)))
  | .iaload => pI st fun i r => pR r fun o r => hI g o fun t n' f => (t = 0 ∨ (t = 9 ∧ o = 0)) ∧ vp_in i n' ∧ X (pc + n) L (.int (f i.toNatClampNeg) :: r) u g
  | .laload => pI st fun i r => pR r fun o r => hJ g o fun t n' f => t = 1 ∧ vp_in i n' ∧ X (pc + n) L (.long (f i.toNatClampNeg) :: r) u g
  | .aaload => pI st fun i r => pR r fun o r => hQ g o fun t n' f => (t = 3 ∨ t = 4) ∧ vp_in i n' ∧ X (pc + n) L (va_rf (f i.toNatClampNeg) :: r) u g
  | .iastore => pI st fun x r => pI r fun i r => pR r fun o r => hI g o fun t n' f => t = 0 ∧ vp_in i n' ∧ X (pc + n) L r u (wr g o (.inl (t, n', .inl (upd f i.toNatClampNeg x))))
  | .lastore => pJ st fun x r => pI r fun i r => pR r fun o r => hJ g o fun t n' f => t = 1 ∧ vp_in i n' ∧ X (pc + n) L r u (wr g o (.inl (t, n', .inr (.inl (vp_updL f i.toNatClampNeg x)))))
  | .aastore => pR st fun x r => pI r fun i r => pR r fun o r => hQ g o fun t n' f => hO g x fun ci _ => ((t = 3 ∧ ci = 5) ∨ (t = 4 ∧ ci = 7)) ∧ vp_in i n' ∧ X (pc + n) L r u (wr g o (.inl (t, n', .inr (.inr (.inr (.inr (va_up f i.toNatClampNeg (some x))))))))
  | .arraylength => pR st fun o r => hA g o fun t n' => (t < 5 ∨ o = 0) ∧ X (pc + n) L (.int (Int32.ofNat n') :: r) u g
  | .new _ => if c = 1 then 2 ≤ g.1 ∧ st.length ≤ 4 ∧ Q (.inr a) (g.1 - 1, g.2) else g.1 = 0 ∧ u.1 + 1 ≤ bc k ∧ u.2 + nf a ≤ bs k ∧ X (pc + n) L (.ref g.2.length :: st) (u.1 + 1, u.2 + nf a) (nw g (.inr (a, fs0 a)))
  | .newarray t => pI st fun z r => 0 ≤ z ∧ z.toNatClampNeg ≤ 100000 ∧ atTag t < 9 ∧ if g.1 = 0 then u.1 + 1 ≤ bc k ∧ u.2 + z.toNatClampNeg ≤ bs k ∧ X (pc + n) L (.ref g.2.length :: r) (u.1 + 1, u.2 + z.toNatClampNeg) (nw g (atNew t z.toNatClampNeg))
      else rk k = 6 ∧ atTag t = 0 ∧ z.toNatClampNeg ≤ 54 ∧ 10 ≤ g.1 ∧ 59 ≤ g.2.length ∧ clo g.2.length g.2 ∧ cloL g.2.length L ∧ (∀ v ∈ r, cloV g.2.length v) ∧ X (pc + n) L (.ref g.2.length :: r) u (g.1 - 9, g.2 ++ [atNew t z.toNatClampNeg])
  | .anewarray _ => pI st fun z r => g.1 = 0 ∧ 0 ≤ z ∧ z.toNatClampNeg ≤ 100000 ∧ u.1 + 1 ≤ bc k ∧ u.2 + z.toNatClampNeg ≤ bs k ∧ X (pc + n) L (.ref g.2.length :: r) (u.1 + 1, u.2 + z.toNatClampNeg) (nw g (.inl (a, z.toNatClampNeg, .inr (.inr (.inr (.inr fun _ => none))))))
  | .invokevirtual _ | .invokestatic _ | .invokespecial _ => if c = 6 then pR st fun _ r => r.length ≤ 4 ∧ X (pc + n) L r u g
      else if c = 8 then pI st fun y r => pI r fun x r => r.length ≤ 4 ∧ X (pc + n) L (.int (if x < y then y else x) :: r) u g
      else if c = 9 then pI st fun y r => pI r fun x r => r.length ≤ 4 ∧ X (pc + n) L (.int (if y < x then y else x) :: r) u g else
      b ≤ st.length ∧ (st.drop b).length ≤ 4 ∧ u.1 + bc a ≤ bc k ∧ u.2 + bs a ≤ bs k ∧ rcK c a g (st.take b).reverse ∧
        ∃ w : Nat, (w = 0 ∨ w < g.1) ∧ C a (st.take b).reverse g fun o g' => (g.1 ≤ g'.1 + w ∧ g'.1 ≤ g.1) ∧ (g'.1 = 0 → g.1 = 0 ∧ g'.2.length = g.2.length + bc a) ∧ match o with
          | .inl none => X (pc + n) L (st.drop b) (u.1 + bc a, u.2 + bs a) (g.1 - w, g'.2)
          | .inl (some v) => X (pc + n) L (v :: st.drop b) (u.1 + bc a, u.2 + bs a) (g.1 - w, g'.2)
          | .inr e => match hnd k e with
            | some r => Q (.inl (some (.int r))) (g.1 - w, g'.2)
            | none => False
  | .ireturn => pI st fun x r => r = [] ∧ (((rk k = 1 ∨ (rk k = 2 ∧ (x = 0 ∨ x = 1))) ∧ Q (.inl (some (.int x))) g) ∨ (rk k = 6 ∧ (x = 0 ∨ x = 1) ∧ 0 < g.1 ∧ 59 ≤ g.2.length ∧ clo 59 (g.2.take 59) ∧ Q (.inl (some (.int x))) (g.1, g.2.take 59)))
  | .lreturn => pJ st fun x r => r = [] ∧ rk k = 3 ∧ Q (.inl (some (.long x))) g
  | .dreturn => pD st fun x r => r = [] ∧ rk k = 4 ∧ Q (.inl (some (.double x))) g
  | .areturn => pV st fun v r => r = [] ∧ rk k = 5 ∧ (v = .null ∨ ∃ x, v = .ref x) ∧ Q (.inl (some v)) g
  | .return_ => st = [] ∧ rk k = 0 ∧ Q (.inl none) g
  | _ => False
def stp (C : CT) (k : Nat) (Q : Post) (X : XT) (pc : Nat) (L : Lc) (st : List Value) (u : Nat × Nat) (g : Gp) : Prop := match cd k pc with
  | some (i, n, a, b, c, ks) => st1 C k Q X pc i n a b c (killL L ks) st u (if ks.contains 1000 then frz g else g)
  | none => False
/-- from this place the activation comes to an end with Q: the least relation that an instruction's step keeps -/
def EX (C : CT) (k : Nat) (Q : Post) (pc : Nat) (L : Lc) (st : List Value) (u : Nat × Nat) (g : Gp) : Prop :=
  ∀ X : XT, (∀ pc L st u g, stp C k Q X pc L st u g → X pc L st u g) → X pc L st u g
def cal : Nat → CT
  | 0 => fun _ _ _ _ => False
  | d + 1 => fun k vs g Q => (entS vs).length ≤ mxl k ∧ vs.length = nar k ∧ EX (cal d) k Q 0 (entL (mxl k) vs) [] (0, 0) g
end
section
/-! ===== monotone: the step, the least fixed point, the calls ===== -/
theorem pI_mono {st : List Value} {K K' : Int32 → List Value → Prop} (h : ∀ x r, K x r → K' x r) : pI st K → pI st K' := by
  unfold pI; split <;> first | exact h _ _ | exact id
theorem pJ_mono {st : List Value} {K K' : Int64 → List Value → Prop} (h : ∀ x r, K x r → K' x r) : pJ st K → pJ st K' := by
  unfold pJ; split <;> first | exact h _ _ | exact id
theorem pD_mono {st : List Value} {K K' : UInt64 → List Value → Prop} (h : ∀ x r, K x r → K' x r) : pD st K → pD st K' := by
  unfold pD; split <;> first | exact h _ _ | exact id
theorem pR_mono {st : List Value} {K K' : Nat → List Value → Prop} (h : ∀ x r, K x r → K' x r) : pR st K → pR st K' := by
  unfold pR; split <;> first | exact h _ _ | exact id
theorem pV_mono {st : List Value} {K K' : Value → List Value → Prop} (h : ∀ x r, K x r → K' x r) : pV st K → pV st K' := by
  unfold pV; split <;> first | exact h _ _ | exact id
theorem lI_mono {L : Lc} {n : Nat} {K K' : Int32 → Prop} (h : ∀ x, K x → K' x) : lI L n K → lI L n K' := by
  unfold lI; split <;> first | exact h _ | exact id
theorem lJ_mono {L : Lc} {n : Nat} {K K' : Int64 → Prop} (h : ∀ x, K x → K' x) : lJ L n K → lJ L n K' := by
  unfold lJ; split <;> first | exact h _ | exact id
theorem lD_mono {L : Lc} {n : Nat} {K K' : UInt64 → Prop} (h : ∀ x, K x → K' x) : lD L n K → lD L n K' := by
  unfold lD; split <;> first | exact h _ | exact id
theorem lR_mono {L : Lc} {n : Nat} {K K' : Nat → Prop} (h : ∀ x, K x → K' x) : lR L n K → lR L n K' := by
  unfold lR; split <;> first | exact h _ | exact id
theorem hO_mono {g : Gp} {a : Nat} {K K' : Nat → List Value → Prop} (h : ∀ x y, K x y → K' x y) : hO g a K → hO g a K' := by
  unfold hO; split <;> first | exact h _ _ | exact id
theorem hA_mono {g : Gp} {a : Nat} {K K' : Nat → Nat → Prop} (h : ∀ x y, K x y → K' x y) : hA g a K → hA g a K' := by
  unfold hA; split <;> first | exact h _ _ | exact id
theorem hI_mono {g : Gp} {a : Nat} {K K' : Nat → Nat → (Nat → Int32) → Prop} (h : ∀ x y z, K x y z → K' x y z) : hI g a K → hI g a K' := by
  unfold hI; split <;> first | exact h _ _ _ | exact id
theorem hJ_mono {g : Gp} {a : Nat} {K K' : Nat → Nat → (Nat → Int64) → Prop} (h : ∀ x y z, K x y z → K' x y z) : hJ g a K → hJ g a K' := by
  unfold hJ; split <;> first | exact h _ _ _ | exact id
theorem hQ_mono {g : Gp} {a : Nat} {K K' : Nat → Nat → (Nat → Option Nat) → Prop} (h : ∀ x y z, K x y z → K' x y z) : hQ g a K → hQ g a K' := by
  unfold hQ; split <;> first | exact h _ _ _ | exact id
theorem ite_mono {b : Prop} [Decidable b] {x y x' y' : Prop} (h1 : x → x') (h2 : y → y') : (if b then x else y) → (if b then x' else y') := by
  split <;> assumption
theorem bI_mono {x : Int32} {o : ClassFile.Cond} {A B A' B' : Prop} (h1 : A → A') (h2 : B → B') : bI x o A B → bI x o A' B' := by
  cases o <;> simp only [bI] <;> split <;> assumption
theorem bC_mono {x y : Int32} {o : ClassFile.Cond} {A B A' B' : Prop} (h1 : A → A') (h2 : B → B') : bC x y o A B → bC x y o A' B' := by
  cases o <;> simp only [bC] <;> split <;> assumption
theorem or_mono {a b a' b' : Prop} (h1 : a → a') (h2 : b → b') : a ∨ b → a' ∨ b' := Or.imp h1 h2
def CLe (C C' : CT) : Prop := ∀ (y : Nat) (vs : List Value) (g : Gp) (R R' : Post), (∀ o g', R o g' → R' o g') → C y vs g R → C' y vs g R'
set_option maxHeartbeats 4000000 in
theorem st1_mono {C C' : CT} (hC : CLe C C') {k : Nat} {Q Q' : Post} (hQ : ∀ o g', Q o g' → Q' o g') {X Y : XT} (hX : ∀ pc L st u g, X pc L st u g → Y pc L st u g) {pc : Nat} {i : Instr} {n a b c : Nat} {L : Lc} {st : List Value} {u : Nat × Nat} {g : Gp} :
    st1 C k Q X pc i n a b c L st u g → st1 C' k Q' Y pc i n a b c L st u g := by
  cases i <;> simp only [st1]
  all_goals
    repeat first
      | exact id
      | exact hX _ _ _ _ _
      | exact hQ _ _
      | refine Exists.imp fun _ => ?_
      | refine or_mono ?_ ?_
      | refine pI_mono fun _ _ => ?_
      | refine pJ_mono fun _ _ => ?_
      | refine pD_mono fun _ _ => ?_
      | refine pR_mono fun _ _ => ?_
      | refine pV_mono fun _ _ => ?_
      | refine lI_mono fun _ => ?_
      | refine lJ_mono fun _ => ?_
      | refine lD_mono fun _ => ?_
      | refine lR_mono fun _ => ?_
      | refine hO_mono fun _ _ => ?_
      | refine hA_mono fun _ _ => ?_
      | refine hI_mono fun _ _ _ => ?_
      | refine hJ_mono fun _ _ _ => ?_
      | refine hQ_mono fun _ _ _ => ?_
      | refine And.imp_right ?_
      | refine bI_mono ?_ ?_
      | refine bC_mono ?_ ?_
      | refine ite_mono ?_ ?_
      | (refine hC _ _ _ _ _ fun o g' => And.imp_right (And.imp_right ?_); rcases o with (_ | v) | e)
      | split
theorem stp_mono {C C' : CT} (hC : CLe C C') {k : Nat} {Q Q' : Post} (hQ : ∀ o g', Q o g' → Q' o g') {X Y : XT} (hX : ∀ pc L st u g, X pc L st u g → Y pc L st u g) {pc : Nat} {L : Lc} {st : List Value} {u : Nat × Nat} {g : Gp} :
    stp C k Q X pc L st u g → stp C' k Q' Y pc L st u g := by
  unfold stp
  split
  · exact st1_mono hC hQ hX
  · exact id
theorem EX_in {C : CT} (hC : CLe C C) {k : Nat} {Q : Post} {pc : Nat} {L : Lc} {st : List Value} {u : Nat × Nat} {g : Gp} (h : stp C k Q (EX C k Q) pc L st u g) : EX C k Q pc L st u g :=
  fun X hX => hX _ _ _ _ _ (stp_mono hC (fun _ _ h => h) (fun _ _ _ _ _ h9 => h9 X hX) h)
theorem EX_unf {C : CT} (hC : CLe C C) {k : Nat} {Q : Post} {pc : Nat} {L : Lc} {st : List Value} {u : Nat × Nat} {g : Gp} : EX C k Q pc L st u g ↔ stp C k Q (EX C k Q) pc L st u g :=
  ⟨fun h => h (stp C k Q (EX C k Q)) fun _ _ _ _ _ h9 => stp_mono hC (fun _ _ h => h) (fun _ _ _ _ _ h8 => EX_in hC h8) h9, EX_in hC⟩
theorem EX_mono {C C' : CT} (hC : CLe C C') {k : Nat} {Q Q' : Post} (hQ : ∀ o g', Q o g' → Q' o g') {pc : Nat} {L : Lc} {st : List Value} {u : Nat × Nat} {g : Gp} (h : EX C k Q pc L st u g) : EX C' k Q' pc L st u g :=
  fun X hX => h X fun _ _ _ _ _ h9 => hX _ _ _ _ _ (stp_mono hC hQ (fun _ _ _ _ _ h8 => h8) h9)
theorem cal_le : ∀ d : Nat, CLe (cal d) (cal d) ∧ CLe (cal d) (cal (d + 1)) := by
  intro d
  induction d with
  | zero => exact ⟨fun _ _ _ _ _ _ h => h, fun _ _ _ _ _ _ h => h.elim⟩
  | succ d ih =>
    exact ⟨fun y vs g R R' hR h => ⟨h.1, h.2.1, EX_mono ih.1 hR h.2.2⟩, fun y vs g R R' hR h => ⟨h.1, h.2.1, EX_mono ih.2 hR h.2.2⟩⟩
theorem cal_mono (d : Nat) : CLe (cal d) (cal d) := (cal_le d).1
theorem cal_up (d n : Nat) : CLe (cal d) (cal (d + n)) := by
  induction n with
  | zero => exact cal_mono d
  | succ n ih => exact fun y vs g R R' hR h => (cal_le (d + n)).2 y vs g R' R' (fun _ _ h => h) (ih y vs g R R' hR h)
end
section
/-! ===== BEGIN a constructor that throws (launches without stack traces) ===== -/
section VXIA
variable {p : Program} {l : Launch} {e : Env} {R : Room} {s : State} {m : MethodId} {args : Array Value} {below : List Frame} {meth : Method} {c : Code} {T : State} {locs : List Loc} {cells slots : Nat}
theorem vx_callI (X : Stand p l e R s m args below meth c T locs cells slots) (hexec : p.tables.exec = Jvm.exec) {own : String} {index : Nat} {y : MethodName} {bytes : ByteArray} {maxL : Nat}
    (hown : s.vm.findClass own = some m.cls) (hy1 : y.name = "<init>") (hlink : (Cond.methodLink own index y).before args s = true) (hinst : (Cond.instanceMethod y).before args s = true)
    (hcode : (Cond.code y bytes maxL none).before args s = true) (hy : y.cls ≠ "java/lang/invoke/MethodHandle" ∧ y.cls ≠ "java/lang/invoke/VarHandle")
    {W9 : Nat} {Pre : Pt → Array Value → Prop} {Post : Pt → Array Value → Option Value → Pt → Prop} {PostX : Pt → Array Value → Addr → Pt → Prop} (hK : vx_Back l R p e below s args y 3 W9 Pre Post PostX)
    {g : JFrame} (hg : g.method = m) (hsize : g.locals.size = c.maxLocals) {a : Addr} {argsL rest : List Value} (hlen : ∀ sig, parseMethodDescriptor y.desc = some sig → argsL.length = sig.parameters.length)
    (hstack : g.stack = argsL.reverse ++ .ref a :: rest) (hW : 2 * g.monitorRoom + (rest.map fun v => v.category).sum ≤ W9) (hdg : decode c.code g.pc = .ok (.invokespecial index, 3))
    (hpre : ∀ vm₁, s.WarmedH vm₁ → Pre ⟨T.setVm vm₁, locs, cells, slots⟩ (Value.ref a :: argsL).toArray) :
    (∃ (v : Option Value) (vm₁ : Vm) (B : Pt), s.WarmedH vm₁ ∧ Stand p l e R s m args below meth c B.U B.locs B.cells B.slots ∧ Post ⟨T.setVm vm₁, locs, cells, slots⟩ (Value.ref a :: argsL).toArray v B ∧
      ∀ target, Steps p.tables e below (B.U.setTop { g with pc := g.pc + 3, stack := v.toList ++ rest }) target → Steps p.tables e below (T.setTop g) target) ∨
    (∃ (q : Addr) (vm₁ : Vm) (B : Pt), s.WarmedH vm₁ ∧ Stand p l e R s m args below meth c B.U B.locs B.cells B.slots ∧ PostX ⟨T.setVm vm₁, locs, cells, slots⟩ (Value.ref a :: argsL).toArray q B ∧
      Steps p.tables e below (T.setTop g) ((B.U.setTop { g with stack := rest }).pushFrame (.throwing q))) := by
  subst hg
  have hpl : e.platform.magicAccessors = ({} : Platform).magicAccessors := by rw [X.admits.platform]
  obtain ⟨mk, methM, cM, kP, vm₁, hnamed, hmethM, hcodeM, -, hlocalsM, -, hkP, -, hW₁, hstep₁⟩ := Steps.initColdArgs (e := e) X.here hexec X.warmed hpl hown hy1 hy hlink hinst hcode (f := g) rfl hlen hstack hdg
  have X₁ := X.noted hW₁
  rcases hK g.method meth c ⟨T.setVm vm₁, locs, cells, slots⟩ { g with stack := rest } (.invokespecial index) mk (Value.ref a :: argsL).toArray X₁ rfl hsize hdg hW (X₁.named hnamed) (hpre vm₁ X₁.warmed) with ⟨v, B, X', hpost, hsteps⟩ | ⟨q, B, X', hpost, hsteps⟩
  · exact Or.inl ⟨v, vm₁, B, X₁.warmed, X', hpost, fun target h => hstep₁ _ fun acts => by rw [doInvoke_state]; exact hsteps.trans h⟩
  · exact Or.inr ⟨q, vm₁, B, X₁.warmed, X', hpost, hstep₁ _ fun acts => by rw [doInvoke_state]; exact hsteps⟩
end VXIA
section VXIB
variable {p : Program} {l : Launch} {e : Env} {R : Room} {s : State} {m : MethodId} {args : Array Value} {below : List Frame} {meth : Method} {c : Code} {H : Heap} {locs : List Loc} {cells slots : Nat}
variable {y : MethodName} {bytes cc : ByteArray} {maxL nL mc ms n index : Nat} {ret : Option FieldType} {ws : List Cond} {rm : Room} {Pc : Array Value → State → Prop} {Qc : Array Value → State → Outcome → State → Prop} {XC : String → State → State → Prop} {free : Addr → Prop} {Ts : List Cond} {own C : String} {b : Addr} {As rest : List Value} {g : JFrame}
theorem vx_runI (S : CallFix p m c cc nL s args Ts own) (hM : vx_Met l y ws rm Pc Qc XC mc ms free) (cw : CallB R s args own index y bytes maxL none ws rm mc ms n ∧ y.name = "<init>" ∧ (Cond.instanceMethod y).before args s = true) (hp : PreS s H Pc (.ref b :: As))
    (hg : g.method = m) (hn : As.length = n) (hsize : g.locals.size = nL) (hstack : g.stack = As.reverse ++ .ref b :: rest) (hW : 2 * g.monitorRoom + (rest.map fun v => v.category).sum ≤ 8) (hdg : decode cc g.pc = .ok (.invokespecial index, 3)) (hf : cells + mc ≤ R.cells ∧ slots + ms ≤ R.slots) :
    vx_Run p l e R s m args below meth c H locs cells slots mc ms g rest (Qc (Value.ref b :: As).toArray) XC free := by
  have hK : vx_Back l R p e below s args y 3 8 (PreOf R mc ms Pc) (PostOf Qc mc ms free) (vx_Post XC mc ms free) := vx_callBack cw.1 hM hp.1
  obtain ⟨⟨-, -, -, -, -, -, hcode, -, hy, hlen, hl⟩, hy1, hin⟩ := cw
  obtain ⟨hx, hb, hml, ho, -⟩ := S
  have hPc := hp.2
  intro T hT X
  rcases vx_callI X hx (bytes := bytes) (maxL := maxL) ho hy1 hl hin hcode hy hK hg (hsize.trans hml.symm) (a := b) (argsL := As) (rest := rest) (fun sig h => hn.trans (hlen sig h)) hstack hW (by rw [hb]; exact hdg)
    (fun vm₁ hW₁ => ⟨hf.1, hf.2, hPc (T.setVm vm₁) hT hW₁⟩) with ⟨v, vm₁, ⟨U', l2, c2, s2⟩, hW₁, X', ⟨g', mk, t, L, e1, e2, hq, h1, hL, h2, h3⟩, st⟩ | ⟨q, vm₁, ⟨U', l2, c2, s2⟩, hW₁, X', ⟨g', mk, t, L, E, ce, e1, e2, hq, hce, hcv, hcl, h1, hL, h2, h3⟩, st⟩
  · dsimp only [Pt.U, Pt.locs, Pt.cells, Pt.slots] at X' e1 e2 h1 h2 h3 st
    subst h1; subst h2; subst h3
    exact Or.inl ⟨v, (T.setVm vm₁).calling g' mk (Value.ref b :: As).toArray, t, U', L, hT, X', hL, e1, e2, hq, st⟩
  · dsimp only [Pt.U, Pt.locs, Pt.cells, Pt.slots] at X' e1 e2 h1 h2 h3 st hcl
    subst h1; subst h2; subst h3
    exact Or.inr ⟨q, (T.setVm vm₁).calling g' mk (Value.ref b :: As).toArray, t, U', L, E, ce, hT, X', hL, e1, e2, hq, hce, hcv, vx_cls hW₁ hcl, st⟩
end VXIB
/-! ===== END ===== -/
/-! ===== BEGIN a private constructor of a nest mate that throws ===== -/
section VXIC
variable {p : Program} {l : Launch} {e : Env} {R : Room} {s : State} {m : MethodId} {args : Array Value} {below : List Frame} {meth : Method} {c : Code} {T : State} {locs : List Loc} {cells slots : Nat}
theorem vx_callIN (X : Stand p l e R s m args below meth c T locs cells slots) (hexec : p.tables.exec = Jvm.exec) {own : String} {index : Nat} {host : String} {y : MethodName} {bytes : ByteArray} {maxL : Nat}
    (hown : s.vm.findClass own = some m.cls) (hy1 : y.name = "<init>") (hlink : (Cond.methodLinkNest own index y host).before args s = true) (hinst : (Cond.instanceMethod y).before args s = true)
    (hcode : (Cond.code y bytes maxL none).before args s = true) (hy : y.cls ≠ "java/lang/invoke/MethodHandle" ∧ y.cls ≠ "java/lang/invoke/VarHandle")
    {W9 : Nat} {Pre : Pt → Array Value → Prop} {Post : Pt → Array Value → Option Value → Pt → Prop} {PostX : Pt → Array Value → Addr → Pt → Prop} (hK : vx_Back l R p e below s args y 3 W9 Pre Post PostX)
    {g : JFrame} (hg : g.method = m) (hsize : g.locals.size = c.maxLocals) {a : Addr} {argsL rest : List Value} (hlen : ∀ sig, parseMethodDescriptor y.desc = some sig → argsL.length = sig.parameters.length)
    (hstack : g.stack = argsL.reverse ++ .ref a :: rest) (hW : 2 * g.monitorRoom + (rest.map fun v => v.category).sum ≤ W9) (hdg : decode c.code g.pc = .ok (.invokespecial index, 3))
    (hpre : ∀ vm₁, s.WarmedH vm₁ → Pre ⟨T.setVm vm₁, locs, cells, slots⟩ (Value.ref a :: argsL).toArray) :
    (∃ (v : Option Value) (vm₁ : Vm) (B : Pt), s.WarmedH vm₁ ∧ Stand p l e R s m args below meth c B.U B.locs B.cells B.slots ∧ Post ⟨T.setVm vm₁, locs, cells, slots⟩ (Value.ref a :: argsL).toArray v B ∧
      ∀ target, Steps p.tables e below (B.U.setTop { g with pc := g.pc + 3, stack := v.toList ++ rest }) target → Steps p.tables e below (T.setTop g) target) ∨
    (∃ (q : Addr) (vm₁ : Vm) (B : Pt), s.WarmedH vm₁ ∧ Stand p l e R s m args below meth c B.U B.locs B.cells B.slots ∧ PostX ⟨T.setVm vm₁, locs, cells, slots⟩ (Value.ref a :: argsL).toArray q B ∧
      Steps p.tables e below (T.setTop g) ((B.U.setTop { g with stack := rest }).pushFrame (.throwing q))) := by
  subst hg
  have hpl : e.platform.magicAccessors = ({} : Platform).magicAccessors := by rw [X.admits.platform]
  obtain ⟨mk, methM, cM, kP, vm₁, hnamed, hmethM, hcodeM, -, hlocalsM, -, hkP, -, hW₁, hstep₁⟩ := Steps.initColdArgsNest (e := e) X.here hexec X.warmed hpl hown hy1 hy hlink hinst hcode (f := g) rfl hlen hstack hdg
  have X₁ := X.noted hW₁
  rcases hK g.method meth c ⟨T.setVm vm₁, locs, cells, slots⟩ { g with stack := rest } (.invokespecial index) mk (Value.ref a :: argsL).toArray X₁ rfl hsize hdg hW (X₁.named hnamed) (hpre vm₁ X₁.warmed) with ⟨v, B, X', hpost, hsteps⟩ | ⟨q, B, X', hpost, hsteps⟩
  · exact Or.inl ⟨v, vm₁, B, X₁.warmed, X', hpost, fun target h => hstep₁ _ fun acts => by rw [doInvoke_state]; exact hsteps.trans h⟩
  · exact Or.inr ⟨q, vm₁, B, X₁.warmed, X', hpost, hstep₁ _ fun acts => by rw [doInvoke_state]; exact hsteps⟩
end VXIC
section VXID
variable {p : Program} {l : Launch} {e : Env} {R : Room} {s : State} {m : MethodId} {args : Array Value} {below : List Frame} {meth : Method} {c : Code} {H : Heap} {locs : List Loc} {cells slots : Nat}
theorem vx_runIN {y : MethodName} {bytes cc : ByteArray} {maxL nL mc ms n index : Nat} {ws : List Cond} {rm : Room} {Pc : Array Value → State → Prop} {Qc : Array Value → State → Outcome → State → Prop} {XC : String → State → State → Prop} {free : Addr → Prop} {Ts : List Cond} {own host : String} {b : Addr} {As rest : List Value} {g : JFrame}
    (S : CallFix p m c cc nL s args Ts own) (hM : vx_Met l y ws rm Pc Qc XC mc ms free) (cw : va_CN R s args own index y host bytes maxL none ws rm mc ms n ∧ y.name = "<init>" ∧ (Cond.instanceMethod y).before args s = true) (hp : PreS s H Pc (.ref b :: As))
    (hg : g.method = m) (hn : As.length = n) (hsize : g.locals.size = nL) (hstack : g.stack = As.reverse ++ .ref b :: rest) (hW : 2 * g.monitorRoom + (rest.map fun v => v.category).sum ≤ 8) (hdg : decode cc g.pc = .ok (.invokespecial index, 3)) (hf : cells + mc ≤ R.cells ∧ slots + ms ≤ R.slots) :
    vx_Run p l e R s m args below meth c H locs cells slots mc ms g rest (Qc (Value.ref b :: As).toArray) XC free := by
  obtain ⟨⟨⟨hrc, hrs, hfr, hlo, hws, hcw⟩, hcode, hini, hy, hlen, hl⟩, hx1, hx2⟩ := cw
  have hK : vx_Back l R p e below s args y 3 8 (PreOf R mc ms Pc) (PostOf Qc mc ms free) (vx_Post XC mc ms free) := vx_back (bytes := bytes) (maxL := maxL) (ret := none) hM hp.1 hrc hrs hfr hlo hws hcw (fun a' U hW => word_at hW (Or.inl (by first | rfl | simp [Cond.onTables, Cond.keeps, Cond.steady])) hini)
  obtain ⟨hx, hb, hml, ho, -⟩ := S
  have hPc := hp.2
  intro T hT X
  rcases vx_callIN X hx (bytes := bytes) (maxL := maxL) ho hx1 hl hx2 hcode hy hK hg (hsize.trans hml.symm) (a := b) (argsL := As) (rest := rest) (fun sig h => hn.trans (hlen sig h)) hstack hW (by rw [hb]; exact hdg)
    (fun vm₁ hW₁ => ⟨hf.1, hf.2, hPc (T.setVm vm₁) hT hW₁⟩) with ⟨v, vm₁, ⟨U', l2, c2, s2⟩, hW₁, X', ⟨g', mk, t, L, e1, e2, hq, h1, hL, h2, h3⟩, st⟩ | ⟨q, vm₁, ⟨U', l2, c2, s2⟩, hW₁, X', ⟨g', mk, t, L, E, ce, e1, e2, hq, hce, hcv, hcl, h1, hL, h2, h3⟩, st⟩
  · dsimp only [Pt.U, Pt.locs, Pt.cells, Pt.slots] at X' e1 e2 h1 h2 h3 st
    subst h1; subst h2; subst h3
    exact Or.inl ⟨v, (T.setVm vm₁).calling g' mk (Value.ref b :: As).toArray, t, U', L, hT, X', hL, e1, e2, hq, st⟩
  · dsimp only [Pt.U, Pt.locs, Pt.cells, Pt.slots] at X' e1 e2 h1 h2 h3 st hcl
    subst h1; subst h2; subst h3
    exact Or.inr ⟨q, (T.setVm vm₁).calling g' mk (Value.ref b :: As).toArray, t, U', L, E, ce, hT, X', hL, e1, e2, hq, hce, hcv, vx_cls hW₁ hcl, st⟩
end VXID
/-! ===== END ===== -/
/-! ===== BEGIN a private method of a nest mate that may throw (follows va_callVN, va_callSN, va_runVN, va_runSN) ===== -/
section
variable {p : Program} {l : Launch} {e : Env} {R : Room} {s : State} {m : MethodId} {args : Array Value} {below : List Frame} {meth : Method} {c : Code} {H : Heap} {locs : List Loc} {cells slots : Nat}
variable {T : State}
theorem vx_callVN (X : Stand p l e R s m args below meth c T locs cells slots) (hexec : p.tables.exec = Jvm.exec) {own C : String} {index : Nat} {host : String} {y : MethodName} {bytes : ByteArray} {maxL : Nat} {ret : Option FieldType}
    (hown : s.vm.findClass own = some m.cls) (hlink : (Cond.methodLinkNest own index y host).before args s = true) (hinst : (Cond.instanceMethod y).before args s = true) (hsel : (Cond.selects C y y).before args s = true)
    (hcode : (Cond.code y bytes maxL ret).before args s = true) (hy : y.cls ≠ "java/lang/invoke/MethodHandle" ∧ y.cls ≠ "java/lang/invoke/VarHandle")
    {W : Nat} {Pre : Pt → Array Value → Prop} {Post : Pt → Array Value → Option Value → Pt → Prop} {PostX : Pt → Array Value → Addr → Pt → Prop} (hK : vx_Back l R p e below s args y 3 W Pre Post PostX)
    {b : Addr} {cellB : Cell} (hcell : T.heap[b]? = some cellB) (hobj : cellB.vm.isStatics = false) (hcls : s.vm.findClass C = some cellB.cls)
    {g : JFrame} (hg : g.method = m) (hsize : g.locals.size = c.maxLocals) {argsL rest : List Value} (hlen : ∀ sig, parseMethodDescriptor y.desc = some sig → argsL.length = sig.parameters.length)
    (hstack : g.stack = argsL.reverse ++ .ref b :: rest) (hW : 2 * g.monitorRoom + (rest.map fun v => v.category).sum ≤ W) (hdg : decode c.code g.pc = .ok (.invokevirtual index, 3))
    (hpre : ∀ vm₁, s.WarmedH vm₁ → Pre ⟨T.setVm vm₁, locs, cells, slots⟩ (Value.ref b :: argsL).toArray) :
    (∃ (v : Option Value) (vm₁ : Vm) (B : Pt), s.WarmedH vm₁ ∧ Stand p l e R s m args below meth c B.U B.locs B.cells B.slots ∧ Post ⟨T.setVm vm₁, locs, cells, slots⟩ (Value.ref b :: argsL).toArray v B ∧
      ∀ target, Steps p.tables e below (B.U.setTop { g with pc := g.pc + 3, stack := v.toList ++ rest }) target → Steps p.tables e below (T.setTop g) target) ∨
    (∃ (q : Addr) (vm₁ : Vm) (B : Pt), s.WarmedH vm₁ ∧ Stand p l e R s m args below meth c B.U B.locs B.cells B.slots ∧ PostX ⟨T.setVm vm₁, locs, cells, slots⟩ (Value.ref b :: argsL).toArray q B ∧
      Steps p.tables e below (T.setTop g) ((B.U.setTop { g with stack := rest }).pushFrame (.throwing q))) := by
  obtain ⟨mk, methM, hnamed, hmethM, hstM, habM⟩ := Cond.instanceMethod_spec hinst
  obtain ⟨methM', cM, hmethM', -, -, -, -, -, -, hsigM⟩ := Cond.code_spec hnamed hcode
  cases hmethM.symm.trans hmethM'
  obtain ⟨c2, r2, m2, q1, q2, q3, q4, kP, hkP, hkPi⟩ := Cond.selects_spec hsel
  cases hcls.symm.trans q1
  cases (State.methodFound?_of_named hnamed hy).symm.trans q2
  cases hnamed.symm.trans q3
  have hselP : selectMethod e.platform s.vm cellB.cls mk = .method mk := by rw [Launch.admits_selectMethod X.admits]; exact q4
  obtain ⟨vm₁, X₁, hstep₁⟩ := X.invokevirtualNest hexec hown hlink hnamed hmethM hstM hkP hkPi hy (a := b) (cell := cellB) hcell
    (fun z h => by rw [h] at hobj; cases hobj) hselP hmethM habM hkP hkPi (g := g) hg (argsL := argsL) (rest := rest) (hlen _ hsigM) hstack hdg
  rcases hK m meth c ⟨T.setVm vm₁, locs, cells, slots⟩ { g with stack := rest } (.invokevirtual index) mk (Value.ref b :: argsL).toArray X₁ hg hsize hdg hW (X₁.named hnamed) (hpre vm₁ X₁.warmed) with ⟨v, B, X', hpost, hsteps⟩ | ⟨q, B, X', hpost, hsteps⟩
  · exact Or.inl ⟨v, vm₁, B, X₁.warmed, X', hpost, fun target h => hstep₁ _ fun acts => by rw [doInvoke_state]; exact hsteps.trans h⟩
  · exact Or.inr ⟨q, vm₁, B, X₁.warmed, X', hpost, hstep₁ _ fun acts => by rw [doInvoke_state]; exact hsteps⟩
theorem vx_callSN (X : Stand p l e R s m args below meth c T locs cells slots) (hexec : p.tables.exec = Jvm.exec) {own : String} {index : Nat} {host : String} {y : MethodName} {bytes : ByteArray} {maxL : Nat} {ret : Option FieldType}
    (hown : s.vm.findClass own = some m.cls) (hlink : (Cond.methodLinkNest own index y host).before args s = true) (hstat : (Cond.static y).before args s = true) (hinit : (Cond.initialized y.cls).before args s = true)
    (hcode : (Cond.code y bytes maxL ret).before args s = true) (hy : y.cls ≠ "java/lang/invoke/MethodHandle" ∧ y.cls ≠ "java/lang/invoke/VarHandle")
    {W : Nat} {Pre : Pt → Array Value → Prop} {Post : Pt → Array Value → Option Value → Pt → Prop} {PostX : Pt → Array Value → Addr → Pt → Prop} (hK : vx_Back l R p e below s args y 3 W Pre Post PostX)
    {g : JFrame} (hg : g.method = m) (hsize : g.locals.size = c.maxLocals) {argsL rest : List Value} (hlen : ∀ sig, parseMethodDescriptor y.desc = some sig → argsL.length = sig.parameters.length)
    (hstack : g.stack = argsL.reverse ++ rest) (hW : 2 * g.monitorRoom + (rest.map fun v => v.category).sum ≤ W) (hdg : decode c.code g.pc = .ok (.invokestatic index, 3))
    (hpre : ∀ vm₁, s.WarmedH vm₁ → Pre ⟨T.setVm vm₁, locs, cells, slots⟩ argsL.toArray) :
    (∃ (v : Option Value) (vm₁ : Vm) (B : Pt), s.WarmedH vm₁ ∧ Stand p l e R s m args below meth c B.U B.locs B.cells B.slots ∧ Post ⟨T.setVm vm₁, locs, cells, slots⟩ argsL.toArray v B ∧
      ∀ target, Steps p.tables e below (B.U.setTop { g with pc := g.pc + 3, stack := v.toList ++ rest }) target → Steps p.tables e below (T.setTop g) target) ∨
    (∃ (q : Addr) (vm₁ : Vm) (B : Pt), s.WarmedH vm₁ ∧ Stand p l e R s m args below meth c B.U B.locs B.cells B.slots ∧ PostX ⟨T.setVm vm₁, locs, cells, slots⟩ argsL.toArray q B ∧
      Steps p.tables e below (T.setTop g) ((B.U.setTop { g with stack := rest }).pushFrame (.throwing q))) := by
  obtain ⟨mk, hnamed⟩ := Cond.code_named hcode
  obtain ⟨methM, cM, hmethM, -, -, -, -, -, -, hsigM⟩ := Cond.code_spec hnamed hcode
  have hstatic : methM.isStatic = true := Cond.static_spec hnamed hmethM hstat
  obtain ⟨kP, hkP, -⟩ := className_of_methodNamed hnamed
  have hinitP : kP.init = .initialized := Cond.initialized_spec (findClass_of_methodNamed hnamed) hkP hinit
  obtain ⟨vm₁, X₁, hstep₁⟩ := X.invokestaticNest hexec hown hlink hnamed hmethM hstatic hkP hinitP hy (g := g) hg (argsL := argsL) (rest := rest) (hlen _ hsigM) hstack hdg
  rcases hK m meth c ⟨T.setVm vm₁, locs, cells, slots⟩ { g with stack := rest } (.invokestatic index) mk argsL.toArray X₁ hg hsize hdg hW (X₁.named hnamed) (hpre vm₁ X₁.warmed) with ⟨v, B, X', hpost, hsteps⟩ | ⟨q, B, X', hpost, hsteps⟩
  · exact Or.inl ⟨v, vm₁, B, X₁.warmed, X', hpost, fun target h => hstep₁ _ fun acts => by rw [doInvoke_state]; exact hsteps.trans h⟩
  · exact Or.inr ⟨q, vm₁, B, X₁.warmed, X', hpost, hstep₁ _ fun acts => by rw [doInvoke_state]; exact hsteps⟩
theorem vx_runVN {y : MethodName} {bytes cc : ByteArray} {maxL nL mc ms n index : Nat} {ret : Option FieldType} {ws : List Cond} {rm : Room} {Pc : Array Value → State → Prop} {Qc : Array Value → State → Outcome → State → Prop} {XC : String → State → State → Prop} {free : Addr → Prop} {Ts : List Cond} {own C host : String} {b : Addr} {As rest : List Value} {g : JFrame}
    (S : CallFix p m c cc nL s args Ts own) (hM : vx_Met l y ws rm Pc Qc XC mc ms free) (cw : va_CN R s args own index y host bytes maxL ret ws rm mc ms n ∧ (Cond.instanceMethod y).before args s = true ∧ (Cond.selects C y y).before args s = true) (hp : PreV s H C b Pc As)
    (hg : g.method = m) (hn : As.length = n) (hsize : g.locals.size = nL) (hstack : g.stack = As.reverse ++ .ref b :: rest) (hW : 2 * g.monitorRoom + (rest.map fun v => v.category).sum ≤ 8) (hdg : decode cc g.pc = .ok (.invokevirtual index, 3)) (hf : cells + mc ≤ R.cells ∧ slots + ms ≤ R.slots) :
    vx_Run p l e R s m args below meth c H locs cells slots mc ms g rest (Qc (Value.ref b :: As).toArray) XC free := by
  obtain ⟨⟨⟨hrc, hrs, hfr, hlo, hws, hcw⟩, hcode, hini, hy, hlen, hl⟩, hx1, hx2⟩ := cw
  have hK : vx_Back l R p e below s args y 3 8 (PreOf R mc ms Pc) (PostOf Qc mc ms free) (vx_Post XC mc ms free) := vx_back (bytes := bytes) (maxL := maxL) (ret := ret) hM hp.1 hrc hrs hfr hlo hws hcw (fun a' U hW => word_at hW (Or.inl (by first | rfl | simp [Cond.onTables, Cond.keeps, Cond.steady])) hini)
  obtain ⟨hx, hb, hml, ho, -⟩ := S
  obtain ⟨-, ⟨cellB, hcB, hoB, hclB⟩, hPc⟩ := hp
  intro T hT X
  rcases vx_callVN X hx (C := C) (bytes := bytes) (maxL := maxL) (ret := ret) ho hl hx1 hx2 hcode hy hK (by rw [hT]; exact hcB) hoB hclB hg (hsize.trans hml.symm) (argsL := As) (rest := rest) (fun sig h => hn.trans (hlen sig h)) hstack hW (by rw [hb]; exact hdg)
    (fun vm₁ hW₁ => ⟨hf.1, hf.2, hPc (T.setVm vm₁) hT hW₁⟩) with ⟨v, vm₁, ⟨U', l2, c2, s2⟩, hW₁, X', ⟨g', mk, t, L, e1, e2, hq, h1, hL, h2, h3⟩, st⟩ | ⟨q, vm₁, ⟨U', l2, c2, s2⟩, hW₁, X', ⟨g', mk, t, L, E, ce, e1, e2, hq, hce, hcv, hcl, h1, hL, h2, h3⟩, st⟩
  · dsimp only [Pt.U, Pt.locs, Pt.cells, Pt.slots] at X' e1 e2 h1 h2 h3 st
    subst h1; subst h2; subst h3
    exact Or.inl ⟨v, (T.setVm vm₁).calling g' mk (Value.ref b :: As).toArray, t, U', L, hT, X', hL, e1, e2, hq, st⟩
  · dsimp only [Pt.U, Pt.locs, Pt.cells, Pt.slots] at X' e1 e2 h1 h2 h3 st hcl
    subst h1; subst h2; subst h3
    exact Or.inr ⟨q, (T.setVm vm₁).calling g' mk (Value.ref b :: As).toArray, t, U', L, E, ce, hT, X', hL, e1, e2, hq, hce, hcv, vx_cls hW₁ hcl, st⟩
theorem vx_runSN {y : MethodName} {bytes cc : ByteArray} {maxL nL mc ms n index : Nat} {ret : Option FieldType} {ws : List Cond} {rm : Room} {Pc : Array Value → State → Prop} {Qc : Array Value → State → Outcome → State → Prop} {XC : String → State → State → Prop} {free : Addr → Prop} {Ts : List Cond} {own host : String} {As rest : List Value} {g : JFrame}
    (S : CallFix p m c cc nL s args Ts own) (hM : vx_Met l y ws rm Pc Qc XC mc ms free) (cw : va_CN R s args own index y host bytes maxL ret ws rm mc ms n ∧ (Cond.static y).before args s = true ∧ True) (hp : PreS s H Pc As)
    (hg : g.method = m) (hn : As.length = n) (hsize : g.locals.size = nL) (hstack : g.stack = As.reverse ++ rest) (hW : 2 * g.monitorRoom + (rest.map fun v => v.category).sum ≤ 8) (hdg : decode cc g.pc = .ok (.invokestatic index, 3)) (hf : cells + mc ≤ R.cells ∧ slots + ms ≤ R.slots) :
    vx_Run p l e R s m args below meth c H locs cells slots mc ms g rest (Qc As.toArray) XC free := by
  obtain ⟨⟨⟨hrc, hrs, hfr, hlo, hws, hcw⟩, hcode, hini, hy, hlen, hl⟩, hx1, hx2⟩ := cw
  have hK : vx_Back l R p e below s args y 3 8 (PreOf R mc ms Pc) (PostOf Qc mc ms free) (vx_Post XC mc ms free) := vx_back (bytes := bytes) (maxL := maxL) (ret := ret) hM hp.1 hrc hrs hfr hlo hws hcw (fun a' U hW => word_at hW (Or.inl (by first | rfl | simp [Cond.onTables, Cond.keeps, Cond.steady])) hini)
  obtain ⟨hx, hb, hml, ho, -⟩ := S
  have hPc := hp.2
  intro T hT X
  rcases vx_callSN X hx (bytes := bytes) (maxL := maxL) (ret := ret) ho hl hx1 hini hcode hy hK hg (hsize.trans hml.symm) (argsL := As) (rest := rest) (fun sig h => hn.trans (hlen sig h)) hstack hW (by rw [hb]; exact hdg)
    (fun vm₁ hW₁ => ⟨hf.1, hf.2, hPc (T.setVm vm₁) hT hW₁⟩) with ⟨v, vm₁, ⟨U', l2, c2, s2⟩, hW₁, X', ⟨g', mk, t, L, e1, e2, hq, h1, hL, h2, h3⟩, st⟩ | ⟨q, vm₁, ⟨U', l2, c2, s2⟩, hW₁, X', ⟨g', mk, t, L, E, ce, e1, e2, hq, hce, hcv, hcl, h1, hL, h2, h3⟩, st⟩
  · dsimp only [Pt.U, Pt.locs, Pt.cells, Pt.slots] at X' e1 e2 h1 h2 h3 st
    subst h1; subst h2; subst h3
    exact Or.inl ⟨v, (T.setVm vm₁).calling g' mk As.toArray, t, U', L, hT, X', hL, e1, e2, hq, st⟩
  · dsimp only [Pt.U, Pt.locs, Pt.cells, Pt.slots] at X' e1 e2 h1 h2 h3 st hcl
    subst h1; subst h2; subst h3
    exact Or.inr ⟨q, (T.setVm vm₁).calling g' mk As.toArray, t, U', L, E, ce, hT, X', hL, e1, e2, hq, hce, hcv, vx_cls hW₁ hcl, st⟩
end
/-! ===== END ===== -/
end
section
/-! ===== from the interpreter to the machine, 1: addresses, cells, locals ===== -/
/-- addresses: from where on all is new, and of each cell -/
abbrev AM : Type := Nat × (Nat → Nat)
def ad (B : AM) (b o : Nat) : Nat := if o = 0 then b else B.2 (o - 1)
def tr (B : AM) (b : Nat) (v : Value) : Value := match v with
  | .ref o => .ref (ad B b o)
  | .int x => .int x
  | .long x => .long x
  | .float x => .float x
  | .double x => .double x
  | .null => .null
  | .retAddr x => .retAddr x
def cv (ca : Nat → ClassId) (B : AM) (b : Nat) (x : AE) : va_E := match x with
  | .inl (t, n, .inl f) => .inl (ca t, n, .inl f)
  | .inl (t, n, .inr (.inl f)) => .inl (ca t, n, .inr (.inl f))
  | .inl (t, n, .inr (.inr (.inl f))) => .inl (ca t, n, .inr (.inr (.inl f)))
  | .inl (t, n, .inr (.inr (.inr (.inl f)))) => .inl (ca t, n, .inr (.inr (.inr (.inl f))))
  | .inl (t, n, .inr (.inr (.inr (.inr f)))) => .inl (ca t, n, .inr (.inr (.inr (.inr fun j => (f j).map (ad B b)))))
  | .inr (ci, fs) => .inr (ci, fs.map (tr B b))
def wof (ca : Nat → ClassId) (B : AM) (b : Nat) (hs : List AE) : va_W := hs.tail.mapIdx fun i x => (B.2 i, cv ca B b x)
theorem wof_get (ca : Nat → ClassId) (B : AM) (b : Nat) (hs : List AE) (i : Nat) : (wof ca B b hs)[i]? = (hs[i + 1]?).map fun x => (B.2 i, cv ca B b x) := by
  simp [wof, List.getElem?_mapIdx]
theorem wof_len (ca : Nat → ClassId) (B : AM) (b : Nat) (hs : List AE) : (wof ca B b hs).length = hs.length - 1 := by
  simp [wof]
theorem wof_set (ca : Nat → ClassId) (B : AM) (b : Nat) (hs : List AE) (o : Nat) (x : AE) : wof ca B b (hs.set (o + 1) x) = (wof ca B b hs).set o (B.2 o, cv ca B b x) := by
  apply List.ext_getElem?
  intro i
  rw [wof_get, List.getElem?_set, List.getElem?_set, wof_get, wof_len]
  by_cases h : o = i
  · subst h
    by_cases h2 : o + 1 < hs.length
    · rw [if_pos rfl, if_pos h2, if_pos rfl, if_pos (by omega)]
      rfl
    · rw [if_pos rfl, if_neg h2, if_pos rfl, if_neg (by omega)]
      rfl
  · rw [if_neg (by omega), if_neg h]
theorem wof_push (ca : Nat → ClassId) (B : AM) (b : Nat) (hs : List AE) (hne : 0 < hs.length) (x : AE) : wof ca B b (hs ++ [x]) = wof ca B b hs ++ [(B.2 (hs.length - 1), cv ca B b x)] := by
  apply List.ext_getElem?
  intro i
  rw [wof_get]
  by_cases h : i < hs.length - 1
  · rw [List.getElem?_append_left (by omega), List.getElem?_append_left (by rw [wof_len]; exact h), wof_get]
  · rw [List.getElem?_append_right (by omega), List.getElem?_append_right (by rw [wof_len]; omega), wof_len]
    by_cases h2 : i = hs.length - 1
    · subst h2
      rw [show hs.length - 1 + 1 - hs.length = 0 by omega, Nat.sub_self]
      rfl
    · rw [List.getElem?_eq_none (by simp; omega), List.getElem?_eq_none (by simp; omega)]
      rfl
theorem tr_cat (B : AM) (b : Nat) (v : Value) : (tr B b v).category = v.category := by cases v <;> rfl
theorem ad_succ (B : AM) (b o : Nat) : ad B b (o + 1) = B.2 o := by simp [ad]
theorem ad_zero (B : AM) (b : Nat) : ad B b 0 = b := by simp [ad]
theorem narrow_tr {B : AM} {b : Nat} {t : FieldType} {v : Value} (h : narrow t v = v) : narrow t (tr B b v) = tr B b v := by
  cases v <;> first | exact h | (cases t <;> rfl)
theorem fits_tr {B : AM} {b : Nat} {t : FieldType} {v : Value} (h : fits t v = true) : fits t (tr B b v) = true := by
  cases v <;> first | exact h | (cases t <;> first | rfl | exact h)
def AB (B : Nat) : Nat → Prop := fun q => B ≤ q
/-- the addresses of the first n cells are apart, and new -/
def BI (B : AM) (n : Nat) : Prop := (∀ i j, i + 1 < n → j + 1 < n → B.2 i = B.2 j → i = j) ∧ ∀ i, i + 1 < n → B.1 ≤ B.2 i
theorem wof_D (ca : Nat → ClassId) {B : AM} (b : Nat) {hs : List AE} (hB : BI B hs.length) : va_D (AB B.1) (wof ca B b hs) := by
  refine ⟨fun i j p q hp hq e => ?_, fun k q hq => ?_⟩
  · have li := (List.getElem?_eq_some_iff.mp hp).1
    have lj := (List.getElem?_eq_some_iff.mp hq).1
    rw [wof_len] at li lj
    rw [wof_get] at hp hq
    obtain ⟨x, -, rfl⟩ := Option.map_eq_some_iff.mp hp
    obtain ⟨y, -, rfl⟩ := Option.map_eq_some_iff.mp hq
    exact hB.1 i j (by omega) (by omega) e
  · have lk' := (List.getElem?_eq_some_iff.mp hq).1
    rw [wof_len] at lk'
    rw [wof_get] at hq
    obtain ⟨y, -, rfl⟩ := Option.map_eq_some_iff.mp hq
    exact hB.2 k (by omega)
/-! locals -/
theorem lk_set (L : Lc) (i j : Nat) (x : Option Value) : lk (L.set i x) j = if j = i then (if i < L.length then x else none) else lk L j := by
  unfold lk
  rw [List.getElem?_set]
  by_cases h : i = j
  · subst h
    rw [if_pos rfl, if_pos rfl]
    by_cases h2 : i < L.length
    · rw [if_pos h2, if_pos h2]; cases x <;> rfl
    · rw [if_neg h2, if_neg h2]
  · rw [if_neg h, if_neg (fun e => h e.symm)]
theorem lk_clrP {L : Lc} {n j : Nat} {w : Value} (h : lk (clrP L n) j = some w) : lk L j = some w ∧ ¬ (j + 1 = n ∧ w.category = 2) := by
  unfold clrP at h
  cases n with
  | zero => exact ⟨h, by omega⟩
  | succ k =>
    dsimp only at h
    cases hk : lk L k with
    | none =>
      rw [hk] at h
      dsimp only at h
      refine ⟨h, fun ⟨e, _⟩ => ?_⟩
      have : j = k := by omega
      subst this
      rw [hk] at h
      cases h
    | some v =>
      rw [hk] at h
      dsimp only at h
      split at h
      · rw [lk_set] at h
        split at h
        · split at h <;> cases h
        · rename_i h3
          exact ⟨h, fun ⟨e, _⟩ => h3 (by omega)⟩
      · rename_i h3
        refine ⟨h, fun ⟨e, e2⟩ => ?_⟩
        have : j = k := by omega
        subst this
        rw [hk] at h
        cases h
        exact h3 e2
def LH (B : AM) (b : Nat) (ls : Array Slot) (n : Nat) (L : Lc) : Prop := ls.size = n ∧ lv_wf ls ∧ ∀ (i : Nat) (v : Value), lk L i = some v → ls[i]? = some (.val (tr B b v))
def lvl (B : AM) (b : Nat) (L : Lc) : List (Nat × Value) := (List.range L.length).filterMap fun i => (lk L i).map fun v => (i, tr B b v)
theorem lk_lt {L : Lc} {i : Nat} {v : Value} (h : lk L i = some v) : i < L.length := by
  unfold lk at h
  cases hx : L[i]? with
  | none => rw [hx] at h; cases h
  | some x => exact (List.getElem?_eq_some_iff.mp hx).1
theorem lvl_mem {B : AM} {b : Nat} {L : Lc} {i : Nat} {v : Value} (h : lk L i = some v) : (i, tr B b v) ∈ lvl B b L := by
  refine List.mem_filterMap.mpr ⟨i, List.mem_range.mpr (lk_lt h), ?_⟩
  rw [h]; rfl
theorem LH.has {B : AM} {b : Nat} {ls : Array Slot} {n : Nat} {L : Lc} (h : LH B b ls n L) : lv_has ls n (lvl B b L) := by
  refine ⟨h.1, h.2.1, fun q hq => ?_⟩
  obtain ⟨i, -, hi⟩ := List.mem_filterMap.mp hq
  obtain ⟨v, hv, rfl⟩ := Option.map_eq_some_iff.mp hi
  exact h.2.2 i v hv
theorem LH.of1 {B : AM} {b : Nat} {ls : Array Slot} {n : Nat} {L : Lc} {i : Nat} {v : Value} (h : lv_has ls n ((i, tr B b v) :: (lvl B b L).filter (fun q => !(q.1 == i) && !(q.1 + 1 == i && q.2.category == 2)))) : LH B b ls n (sto1 L i v) := by
  refine ⟨h.1, h.2.1, fun j w hj => ?_⟩
  refine h.2.2 (j, tr B b w) ?_
  unfold sto1 at hj
  rw [lk_set] at hj
  split at hj
  · rename_i e
    split at hj
    · cases hj
      rw [e]; exact List.mem_cons_self
    · cases hj
  · rename_i e
    obtain ⟨h1, h2⟩ := lk_clrP hj
    refine List.mem_cons_of_mem _ (List.mem_filter.mpr ⟨lvl_mem h1, ?_⟩)
    simp only [tr_cat, Bool.and_eq_true, Bool.not_eq_true', beq_eq_false_iff_ne, ne_eq, Bool.and_eq_false_iff]
    refine ⟨e, ?_⟩
    by_cases h3 : j + 1 = i
    · exact Or.inr fun h4 => h2 ⟨h3, h4⟩
    · exact Or.inl h3
theorem LH.of2 {B : AM} {b : Nat} {ls : Array Slot} {n : Nat} {L : Lc} {i : Nat} {v : Value} (h : lv_has ls n ((i, tr B b v) :: (lvl B b L).filter (fun q => !(q.1 == i) && (!(q.1 == i + 1) && !(q.1 + 1 == i && q.2.category == 2))))) : LH B b ls n (sto2 L i v) := by
  refine ⟨h.1, h.2.1, fun j w hj => ?_⟩
  refine h.2.2 (j, tr B b w) ?_
  unfold sto2 at hj
  rw [lk_set] at hj
  split at hj
  · split at hj <;> cases hj
  · rename_i e0
    rw [lk_set] at hj
    split at hj
    · rename_i e
      split at hj
      · cases hj
        rw [e]; exact List.mem_cons_self
      · cases hj
    · rename_i e
      obtain ⟨h1, h2⟩ := lk_clrP hj
      refine List.mem_cons_of_mem _ (List.mem_filter.mpr ⟨lvl_mem h1, ?_⟩)
      simp only [tr_cat, Bool.and_eq_true, Bool.not_eq_true', beq_eq_false_iff_ne, ne_eq, Bool.and_eq_false_iff]
      refine ⟨e, e0, ?_⟩
      by_cases h3 : j + 1 = i
      · exact Or.inr fun h4 => h2 ⟨h3, h4⟩
      · exact Or.inl h3
theorem LH.kill {B : AM} {b : Nat} {ls : Array Slot} {n : Nat} {L : Lc} (h : LH B b ls n L) (ks : List Nat) : LH B b ls n (killL L ks) := by
  induction ks generalizing L with
  | nil => exact h
  | cons k t ih =>
    refine ih (L := L.set k none) ⟨h.1, h.2.1, fun i v hi => ?_⟩
    rw [lk_set] at hi
    split at hi
    · split at hi <;> cases hi
    · exact h.2.2 i v hi
/-- the locals at a method's entry -/
theorem LH.ent {B : AM} {b n : Nat} {vs : List Value} (hlen : (entS vs).length ≤ n) : LH B b ((lg_sl (vs.map (tr B b)) ++ List.replicate (n - (lg_sl (vs.map (tr B b))).length) Slot.unset).toArray) n (entL n vs) := by
  have key : ∀ ws : List Value, lg_sl (ws.map (tr B b)) = (entS ws).map fun x => match x with
      | some v => Slot.val (tr B b v)
      | none => Slot.second := by
    intro ws
    induction ws with
    | nil => rfl
    | cons w t ih =>
      simp only [lg_sl, entS, List.map_cons, List.flatMap_cons, List.map_append, tr_cat] at ih ⊢
      rw [ih]
      split <;> rfl
  have hl : (lg_sl (vs.map (tr B b))).length = (entS vs).length := by rw [key, List.length_map]
  have hE := lv_entry (vs.map (tr B b)) (n := n) (by rw [hl]; exact hlen)
  refine ⟨hE.1, hE.2.1, fun i v hi => ?_⟩
  unfold lk entL at hi
  by_cases h : i < (entS vs).length
  · rw [List.getElem?_append_left h] at hi
    rw [List.getElem?_toArray, List.getElem?_append_left (by rw [hl]; exact h), key, List.getElem?_map]
    cases hx : (entS vs)[i]? with
    | none => rw [hx] at hi; cases hi
    | some x =>
      rw [hx] at hi
      cases x with
      | none => cases hi
      | some y => cases hi; rfl
  · rw [List.getElem?_append_right (by omega)] at hi
    rw [List.getElem?_replicate] at hi
    split at hi
    · rename_i z hz; split at hz
      · cases hz
      · cases hz
    · cases hi
end
section
/-! ===== from the interpreter to the machine, 2: what a frame knows, the instructions that make no call ===== -/
def NW : List Cond := flnT.map fwd ++ mlnT.map mwd
def tys (ca : Nat → ClassId) : List (ClassId × FieldType) := [(ca 0, .int), (ca 1, .long), (ca 2, .int), (ca 3, .object "RuneBands$Stone"), (ca 4, .object "RuneBands$Words")]
def SF (D : va_G) (ca : Nat → ClassId) (s : State) : Prop := va_K D vwCl (tys ca) s ∧ (∀ w ∈ NW, va_Nw w s) ∧ va_AO "RuneBands$Stone" s ∧ va_AO "RuneBands$Words" s
/-- the mark counted down from M0 -/
def tgm (m : Nat) : Nat := if m = 0 then M0 else m
/-- while nothing is frozen the cells lie one behind another -/
def Cg (B : AM) (g : Gp) (z : Nat) : Prop := g.1 = 0 → z = B.1 + (g.2.length - 1) ∧ ∀ i, B.2 i = B.1 + i
def Mk (ge m : Nat) : Prop := tgm m ≤ tgm ge ∧ (m = 0 → ge = 0)
def uc (ge : Nat) (u : Nat × Nat) (m : Nat) : Nat := u.1 + (tgm ge - tgm m)
def us (ge : Nat) (u : Nat × Nat) (m : Nat) : Nat := u.2 + 6 * (tgm ge - tgm m)
def FrC (k w : Nat) (p : Program) (R : Room) (s : State) (m : MethodId) (args : Array Value) (meth : Method) (c : Code) (D : va_G) (ca : Nat → ClassId) (B : AM) (b Ln : Nat) (xs : Nat → Int32) (d : Nat) : Prop :=
  p.tables.exec = Jvm.exec ∧ c.code = mB k ∧ c.maxLocals = mxl k ∧ s.vm.findClass (Rn (own k)) = some m.cls ∧ (∀ w ∈ GW, w.before args s = true) ∧ SF D ca s ∧ b < B.1 ∧ B.1 ≤ s.heap.size ∧ va_X b Ln xs s s.heap ∧
  d + 8 ≤ R.frames ∧ d * 64 + 200 ≤ R.locals ∧ bc k + w ≤ R.cells ∧ bs k + 6 * w ≤ R.slots ∧ ((mN k).name = "<init>" → meth.name = "<init>")
def WD (D : va_G) (ca : Nat → ClassId) (B : AM) (b Ln : Nat) (xs : Nat → Int32) (g : Gp) (H : Heap) : Prop :=
  (∃ tl, g.2 = .inl (9, Ln, .inl xs) :: tl) ∧ va_P D vwCl (wof ca B b g.2) H ∧ BI B g.2.length
def XS (k ge : Nat) (p : Program) (l : Launch) (e : Env) (R : Room) (s : State) (m : MethodId) (args : Array Value) (below : List Frame) (meth : Method) (c : Code) (D : va_G) (ca : Nat → ClassId) (B : AM) (b Ln : Nat) (xs : Nat → Int32) (QQ : State → Prop) : XT :=
  fun pc L st u g => ∀ (H : Heap) (locs : List Loc) (ls : Array Slot), LH B b ls (mxl k) L → WD D ca B b Ln xs g H → va_S (AB B.1) s.heap H locs → Cg B g (s.heap.size + u.1) → u.1 ≤ bc k → u.2 ≤ bs k → Mk ge g.1 →
    W p l e R s m args below meth c H locs (uc ge u g.1) (us ge u g.1) QQ (F0 m pc ls (st.map (tr B b)))
theorem pI_ex {st : List Value} {K : Int32 → List Value → Prop} (h : pI st K) : ∃ x r, st = .int x :: r ∧ K x r := by
  unfold pI at h; split at h
  · exact ⟨_, _, rfl, h⟩
  · exact h.elim
theorem pJ_ex {st : List Value} {K : Int64 → List Value → Prop} (h : pJ st K) : ∃ x r, st = .long x :: r ∧ K x r := by
  unfold pJ at h; split at h
  · exact ⟨_, _, rfl, h⟩
  · exact h.elim
theorem pD_ex {st : List Value} {K : UInt64 → List Value → Prop} (h : pD st K) : ∃ x r, st = .double x :: r ∧ K x r := by
  unfold pD at h; split at h
  · exact ⟨_, _, rfl, h⟩
  · exact h.elim
theorem pR_ex {st : List Value} {K : Nat → List Value → Prop} (h : pR st K) : ∃ x r, st = .ref x :: r ∧ K x r := by
  unfold pR at h; split at h
  · exact ⟨_, _, rfl, h⟩
  · exact h.elim
theorem pV_ex {st : List Value} {K : Value → List Value → Prop} (h : pV st K) : ∃ x r, st = x :: r ∧ K x r := by
  unfold pV at h; split at h
  · exact ⟨_, _, rfl, h⟩
  · exact h.elim
theorem lI_ex {L : Lc} {n : Nat} {K : Int32 → Prop} (h : lI L n K) : ∃ x, lk L n = some (.int x) ∧ K x := by
  unfold lI at h; split at h
  · exact ⟨_, ‹_›, h⟩
  · exact h.elim
theorem lJ_ex {L : Lc} {n : Nat} {K : Int64 → Prop} (h : lJ L n K) : ∃ x, lk L n = some (.long x) ∧ K x := by
  unfold lJ at h; split at h
  · exact ⟨_, ‹_›, h⟩
  · exact h.elim
theorem lD_ex {L : Lc} {n : Nat} {K : UInt64 → Prop} (h : lD L n K) : ∃ x, lk L n = some (.double x) ∧ K x := by
  unfold lD at h; split at h
  · exact ⟨_, ‹_›, h⟩
  · exact h.elim
theorem lR_ex {L : Lc} {n : Nat} {K : Nat → Prop} (h : lR L n K) : ∃ x, lk L n = some (.ref x) ∧ K x := by
  unfold lR at h; split at h
  · exact ⟨_, ‹_›, h⟩
  · exact h.elim
theorem hO_ex {g : Gp} {a : Nat} {K : Nat → List Value → Prop} (h : hO g a K) : ∃ ci fs, g.2[a]? = some (.inr (ci, fs)) ∧ K ci fs := by
  unfold hO at h; split at h
  · exact ⟨_, _, ‹_›, h⟩
  · exact h.elim
theorem hA_ex {g : Gp} {a : Nat} {K : Nat → Nat → Prop} (h : hA g a K) : ∃ t n f, g.2[a]? = some (.inl (t, n, f)) ∧ K t n := by
  unfold hA at h; split at h
  · exact ⟨_, _, _, ‹_›, h⟩
  · exact h.elim
theorem hI_ex {g : Gp} {a : Nat} {K : Nat → Nat → (Nat → Int32) → Prop} (h : hI g a K) : ∃ t n f, g.2[a]? = some (.inl (t, n, .inl f)) ∧ K t n f := by
  unfold hI at h; split at h
  · exact ⟨_, _, _, ‹_›, h⟩
  · exact h.elim
theorem hJ_ex {g : Gp} {a : Nat} {K : Nat → Nat → (Nat → Int64) → Prop} (h : hJ g a K) : ∃ t n f, g.2[a]? = some (.inl (t, n, .inr (.inl f))) ∧ K t n f := by
  unfold hJ at h; split at h
  · exact ⟨_, _, _, ‹_›, h⟩
  · exact h.elim
theorem hQ_ex {g : Gp} {a : Nat} {K : Nat → Nat → (Nat → Option Nat) → Prop} (h : hQ g a K) : ∃ t n f, g.2[a]? = some (.inl (t, n, .inr (.inr (.inr (.inr f))))) ∧ K t n f := by
  unfold hQ at h; split at h
  · exact ⟨_, _, _, ‹_›, h⟩
  · exact h.elim
/-- a cell that is no script: its number is a successor, it stands in the world -/
theorem WD.at {D : va_G} {ca : Nat → ClassId} {B : AM} {b Ln : Nat} {xs : Nat → Int32} {g : Gp} {H : Heap} (h : WD D ca B b Ln xs g H) {o : Nat} {x : AE} (ho : g.2[o]? = some x) (hx : x ≠ .inl (9, Ln, .inl xs)) : ∃ q, o = q + 1 ∧ (wof ca B b g.2)[q]? = some (B.2 q, cv ca B b x) ∧ ad B b o = B.2 q := by
  obtain ⟨⟨tl, ht⟩, -, -⟩ := h
  cases o with
  | zero =>
    rw [ht] at ho
    exact absurd (Option.some.inj ho).symm hx
  | succ q => exact ⟨q, rfl, by rw [wof_get, ho]; rfl, ad_succ B b q⟩
theorem WD.script {D : va_G} {ca : Nat → ClassId} {B : AM} {b Ln : Nat} {xs : Nat → Int32} {g : Gp} {H : Heap} (h : WD D ca B b Ln xs g H) {o : Nat} : (o = 0 ∧ g.2[o]? = some (.inl (9, Ln, .inl xs))) ∨ ∃ q, o = q + 1 := by
  obtain ⟨⟨tl, ht⟩, -, -⟩ := h
  cases o with
  | zero => exact Or.inl ⟨rfl, by rw [ht]; rfl⟩
  | succ q => exact Or.inr ⟨q, rfl⟩
theorem WD.D {D : va_G} {ca : Nat → ClassId} {B : AM} {b Ln : Nat} {xs : Nat → Int32} {g : Gp} {H : Heap} (h : WD D ca B b Ln xs g H) : va_D (AB B.1) (wof ca B b g.2) := wof_D ca b h.2.2
theorem WD.low {D : va_G} {ca : Nat → ClassId} {B : AM} {b Ln : Nat} {xs : Nat → Int32} {g : Gp} {H : Heap} (h : WD D ca B b Ln xs g H) (hB : B.1 ≤ H.size) (hc : ∀ i, B.2 i = B.1 + i) : B.1 + (g.2.length - 1) ≤ H.size := by
  by_cases h0 : g.2.length - 1 = 0
  · rw [h0]; exact hB
  · have hl := wof_len ca B b g.2
    have hi : g.2.length - 2 < (wof ca B b g.2).length := by omega
    have hg := List.getElem?_eq_getElem hi
    have h9 := (h.2.1 _ _ hg).lt
    rw [wof_get] at hg
    obtain ⟨y, -, hy⟩ := Option.map_eq_some_iff.mp hg
    rw [← hy] at h9
    have : B.2 (g.2.length - 2) < H.size := h9
    rw [hc] at this
    omega
theorem BI.of_seq {B : AM} (hc : ∀ i, B.2 i = B.1 + i) (n : Nat) : BI B n := ⟨fun i j _ _ e => by rw [hc, hc] at e; omega, fun i _ => by rw [hc]; omega⟩
/-- a cell is written: no other changes -/
theorem WD.put {D : va_G} {ca : Nat → ClassId} {B : AM} {b Ln : Nat} {xs : Nat → Int32} {g : Gp} {H H1 : Heap} (h : WD D ca B b Ln xs g H) {q : Nat} {x : AE} (hP : va_P D vwCl ((wof ca B b g.2).set q (B.2 q, cv ca B b x)) H1) : WD D ca B b Ln xs (wr g (q + 1) x) H1 := by
  obtain ⟨⟨tl, ht⟩, -, hB⟩ := h
  refine ⟨⟨tl.set q x, by simp only [wr, ht, List.set_cons_succ]⟩, ?_, ?_⟩
  · show va_P D vwCl (wof ca B b (g.2.set (q + 1) x)) H1
    rw [wof_set]
    exact hP
  · show BI B (g.2.set (q + 1) x).length
    rw [List.length_set]
    exact hB
theorem WD.push {D : va_G} {ca : Nat → ClassId} {B : AM} {b Ln : Nat} {xs : Nat → Int32} {g : Gp} {H H1 : Heap} (h : WD D ca B b Ln xs g H) (hc : ∀ i, B.2 i = B.1 + i) {x : AE} (hP : va_P D vwCl (wof ca B b g.2 ++ [(B.2 (g.2.length - 1), cv ca B b x)]) H1) : WD D ca B b Ln xs (nw g x) H1 := by
  obtain ⟨⟨tl, ht⟩, -, -⟩ := h
  refine ⟨⟨tl ++ [x], by simp only [nw, ht, List.cons_append]⟩, ?_, BI.of_seq hc _⟩
  show va_P D vwCl (wof ca B b (g.2 ++ [x])) H1
  rw [wof_push ca B b g.2 (by rw [ht]; simp) x]
  exact hP
/-- another map that says the same of the cells that are there -/
theorem tr_eq {B B' : AM} {b : Nat} {n : Nat} (h : ∀ i, i + 1 < n → B.2 i = B'.2 i) {v : Value} (hv : ∀ o, v = .ref o → o < n) : tr B b v = tr B' b v := by
  cases v with
  | ref o =>
    have := hv o rfl
    show Value.ref (ad B b o) = Value.ref (ad B' b o)
    unfold ad
    split
    · rfl
    · rename_i h0
      have h2 : Nat.lt o n := this
      have h3 : 0 < o := Nat.pos_of_ne_zero h0
      rw [h (o - 1) (by have := Nat.sub_add_cancel h3; show Nat.lt _ _; rw [this]; exact h2)]
  | _ => rfl
end
section
/-! ===== from the interpreter to the machine, 3: the instructions without heap and call (by program, wip/whole/gsnd.py) ===== -/
def grp (i : Instr) : Nat := match i with
  | .getfield _ | .putfield _ | .iaload | .baload | .laload | .aaload | .iastore | .bastore | .lastore | .aastore | .arraylength => 1
  | .new _ | .newarray _ | .anewarray _ => 2
  | .invokevirtual _ | .invokestatic _ | .invokespecial _ => 3
  | .ireturn | .lreturn | .dreturn | .areturn | .return_ => 4
  | _ => 0
def jOk (pc : Nat) (i : Instr) : Bool := match i with
  | .goto o => tgOk pc o
  | .ifCond _ o => tgOk pc o
  | .if_icmp _ o => tgOk pc o
  | .ifnull o => tgOk pc o
  | .tableswitch d _ _ offs => tgOk pc d && offs.all (tgOk pc)
  | _ => true
theorem tg_eq {pc : Nat} {o : Int} (h : tgOk pc o = true) : (pc : Int) + o = (tg pc o : Int) := by
  unfold tgOk at h
  have h1 : 0 ≤ (pc : Int) + o := of_decide_eq_true h
  unfold tg
  exact (Int.toNat_of_nonneg h1).symm
theorem if_t {b : Prop} [Decidable b] {x y : Prop} (h : if b then x else y) (hb : b) : x := by rwa [if_pos hb] at h
theorem if_f {b : Prop} [Decidable b] {x y : Prop} (h : if b then x else y) (hb : ¬ b) : y := by rwa [if_neg hb] at h
section SND1
variable {k ge w : Nat} {p : Program} {l : Launch} {e : Env} {R : Room} {s : State} {m : MethodId} {args : Array Value} {below : List Frame} {meth : Method} {c : Code} {D : va_G} {ca : Nat → ClassId} {B : AM} {b Ln : Nat} {xs : Nat → Int32} {d : Nat} {QQ : State → Prop}
variable {C : CT} {Q : Post} {pc n a9 b9 c9 : Nat} {L : Lc} {st : List Value} {u : Nat × Nat} {g : Gp}

set_option maxHeartbeats 4000000 in
theorem xs_simple {i : Instr} (F : FrC k w p R s m args meth c D ca B b Ln xs d) (hd : decode (mB k) pc = .ok (i, n)) (hn : isTS i = false → n = ilen i) (hj : jOk pc i = true) (hll : ∀ x, i = .ldc2_w x → Cond.constantLong (Rn (own k)) x (lcv a9) ∈ GW) (hic : ∀ x, i = .ldc x → Cond.constant (Rn (own k)) x (icv a9) ∈ GW) (hg : grp i = 0) (h : st1 C k Q (XS k ge p l e R s m args below meth c D ca B b Ln xs QQ) pc i n a9 b9 c9 L st u g) : XS k ge p l e R s m args below meth c D ca B b Ln xs QQ pc L st u g := by
  obtain ⟨hx, hb, hml, hown, hts, hSF, hbB, hBs, hX, hR1, hR2, hR3, hR4, hnm⟩ := F
  cases i with
  | iload_n j =>
    obtain rfl : n = 1 := hn rfl
    obtain ⟨x, hk, h⟩ := lI_ex h
    intro H locs ls hl hw hS hE h1 h2 hz0
    exact lv_iload_n hx hb hd rfl (hl.2.2 _ _ hk) (h H locs ls hl hw hS hE h1 h2 hz0)
  | iload j =>
    obtain rfl : n = 2 := hn rfl
    obtain ⟨x, hk, h⟩ := lI_ex h
    intro H locs ls hl hw hS hE h1 h2 hz0
    exact lv_iload hx hb hd (hl.2.2 _ _ hk) (h H locs ls hl hw hS hE h1 h2 hz0)
  | lload_n j =>
    obtain rfl : n = 1 := hn rfl
    obtain ⟨x, hk, h⟩ := lJ_ex h
    intro H locs ls hl hw hS hE h1 h2 hz0
    exact lv_lload_n hx hb hd rfl (hl.2.2 _ _ hk) (h H locs ls hl hw hS hE h1 h2 hz0)
  | lload j =>
    obtain rfl : n = 2 := hn rfl
    obtain ⟨x, hk, h⟩ := lJ_ex h
    intro H locs ls hl hw hS hE h1 h2 hz0
    exact lv_lload hx hb hd (hl.2.2 _ _ hk) (h H locs ls hl hw hS hE h1 h2 hz0)
  | aload_n j =>
    obtain rfl : n = 1 := hn rfl
    obtain ⟨x, hk, h⟩ := lR_ex h
    intro H locs ls hl hw hS hE h1 h2 hz0
    exact lv_aload_n hx hb hd rfl (hl.2.2 _ _ hk) (h H locs ls hl hw hS hE h1 h2 hz0)
  | aload j =>
    obtain rfl : n = 2 := hn rfl
    obtain ⟨x, hk, h⟩ := lR_ex h
    intro H locs ls hl hw hS hE h1 h2 hz0
    exact lv_aload hx hb hd (hl.2.2 _ _ hk) (h H locs ls hl hw hS hE h1 h2 hz0)
  | dload j =>
    obtain rfl : n = 2 := hn rfl
    obtain ⟨x, hk, h⟩ := lD_ex h
    intro H locs ls hl hw hS hE h1 h2 hz0
    exact lv_dload hx hb hd (hl.2.2 _ _ hk) (h H locs ls hl hw hS hE h1 h2 hz0)
  | istore_n j =>
    obtain rfl : n = 1 := hn rfl
    obtain ⟨x, r, he0, hj, h8⟩ := pI_ex h
    clear h
    subst he0
    have h := h8
    clear h8
    intro H locs ls hl hw hS hE h1 h2 hz0
    exact lv_istore_n hx hb hd rfl hl.has hj rfl (fun ls1 hl1 => h H locs ls1 (LH.of1 (v := .int x) hl1) hw hS hE h1 h2 hz0)
  | istore j =>
    obtain rfl : n = 2 := hn rfl
    obtain ⟨x, r, he0, hj, h8⟩ := pI_ex h
    clear h
    subst he0
    have h := h8
    clear h8
    intro H locs ls hl hw hS hE h1 h2 hz0
    exact lv_istore hx hb hd hl.has hj rfl (fun ls1 hl1 => h H locs ls1 (LH.of1 (v := .int x) hl1) hw hS hE h1 h2 hz0)
  | lstore_n j =>
    obtain rfl : n = 1 := hn rfl
    obtain ⟨x, r, he0, hj, h8⟩ := pJ_ex h
    clear h
    subst he0
    have h := h8
    clear h8
    intro H locs ls hl hw hS hE h1 h2 hz0
    exact lv_lstore_n hx hb hd rfl hl.has hj rfl (fun ls1 hl1 => h H locs ls1 (LH.of2 (v := .long x) hl1) hw hS hE h1 h2 hz0)
  | lstore j =>
    obtain rfl : n = 2 := hn rfl
    obtain ⟨x, r, he0, hj, h8⟩ := pJ_ex h
    clear h
    subst he0
    have h := h8
    clear h8
    intro H locs ls hl hw hS hE h1 h2 hz0
    exact lv_lstore hx hb hd hl.has hj rfl (fun ls1 hl1 => h H locs ls1 (LH.of2 (v := .long x) hl1) hw hS hE h1 h2 hz0)
  | astore_n j =>
    obtain rfl : n = 1 := hn rfl
    obtain ⟨x, r, he0, hj, h8⟩ := pR_ex h
    clear h
    subst he0
    have h := h8
    clear h8
    intro H locs ls hl hw hS hE h1 h2 hz0
    exact lv_astore_n hx hb hd rfl hl.has hj rfl (fun ls1 hl1 => h H locs ls1 (LH.of1 (v := .ref x) hl1) hw hS hE h1 h2 hz0)
  | astore j =>
    obtain rfl : n = 2 := hn rfl
    obtain ⟨x, r, he0, hj, h8⟩ := pR_ex h
    clear h
    subst he0
    have h := h8
    clear h8
    intro H locs ls hl hw hS hE h1 h2 hz0
    exact lv_astore hx hb hd hl.has hj rfl (fun ls1 hl1 => h H locs ls1 (LH.of1 (v := .ref x) hl1) hw hS hE h1 h2 hz0)
  | dstore j =>
    obtain rfl : n = 2 := hn rfl
    obtain ⟨x, r, he0, hj, h8⟩ := pD_ex h
    clear h
    subst he0
    have h := h8
    clear h8
    intro H locs ls hl hw hS hE h1 h2 hz0
    exact lv_dstore hx hb hd hl.has hj rfl (fun ls1 hl1 => h H locs ls1 (LH.of2 (v := .double x) hl1) hw hS hE h1 h2 hz0)
  | iinc j dl =>
    obtain rfl : n = 3 := hn rfl
    obtain ⟨x, hk, hj, h⟩ := lI_ex h
    intro H locs ls hl hw hS hE h1 h2 hz0
    obtain ⟨q, hq⟩ := List.getElem?_of_mem (lvl_mem (B := B) (b := b) hk)
    exact lv_iinc hx hb hd hl.has hq rfl hj rfl (fun ls1 hl1 => h H locs ls1 (LH.of1 (v := .int (x + Int32.ofInt dl)) hl1) hw hS hE h1 h2 hz0)
  | iconst dl =>
    obtain rfl : n = 1 := hn rfl
    intro H locs ls hl hw hS hE h1 h2 hz0
    exact lv_iconst hx hb hd rfl (h H locs ls hl hw hS hE h1 h2 hz0)
  | bipush dl =>
    obtain rfl : n = 2 := hn rfl
    intro H locs ls hl hw hS hE h1 h2 hz0
    exact lv_bipush hx hb hd rfl (h H locs ls hl hw hS hE h1 h2 hz0)
  | sipush dl =>
    obtain rfl : n = 3 := hn rfl
    intro H locs ls hl hw hS hE h1 h2 hz0
    exact lv_sipush hx hb hd rfl (h H locs ls hl hw hS hE h1 h2 hz0)
  | lconst dl =>
    obtain rfl : n = 1 := hn rfl
    intro H locs ls hl hw hS hE h1 h2 hz0
    exact lv_lconst hx hb hd rfl (h H locs ls hl hw hS hE h1 h2 hz0)
  | ldc2_w x =>
    obtain rfl : n = 3 := hn rfl
    intro H locs ls hl hw hS hE h1 h2 hz0
    exact lv_ldc2 hx hb hown (hts _ (hll x rfl)) hd (h H locs ls hl hw hS hE h1 h2 hz0)
  | dconst dl =>
    obtain rfl : n = 1 := hn rfl
    change (if dl = 1 then _ else _) at h
    split at h
    · rename_i e1
      subst e1
      intro H locs ls hl hw hS hE h1 h2 hz0
      exact lv_dconst1 hx hb hd (h H locs ls hl hw hS hE h1 h2 hz0)
    · split at h
      · rename_i e1
        subst e1
        intro H locs ls hl hw hS hE h1 h2 hz0
        exact lv_dconst0 hx hb hd (h H locs ls hl hw hS hE h1 h2 hz0)
      · exact h.elim
  | ldc x =>
    obtain rfl : n = 2 := hn rfl
    intro H locs ls hl hw hS hE h1 h2 hz0
    exact lv_ldc hx hb hown (hts _ (hic x rfl)) hd (h H locs ls hl hw hS hE h1 h2 hz0)
  | ineg =>
    obtain rfl : n = 1 := hn rfl
    obtain ⟨x, r, he0, h8⟩ := pI_ex h
    clear h
    subst he0
    have h := h8
    clear h8
    intro H locs ls hl hw hS hE h1 h2 hz0
    exact lv_ineg hx hb hd (h H locs ls hl hw hS hE h1 h2 hz0)
  | ixor =>
    obtain rfl : n = 1 := hn rfl
    obtain ⟨y, r, he0, h8⟩ := pI_ex h
    clear h
    subst he0
    have h := h8
    clear h8
    obtain ⟨x, r, he0, h8⟩ := pI_ex h
    clear h
    subst he0
    have h := h8
    clear h8
    intro H locs ls hl hw hS hE h1 h2 hz0
    exact lv_ixor hx hb hd (h H locs ls hl hw hS hE h1 h2 hz0)
  | ishr =>
    obtain rfl : n = 1 := hn rfl
    obtain ⟨y, r, he0, h8⟩ := pI_ex h
    clear h
    subst he0
    have h := h8
    clear h8
    obtain ⟨x, r, he0, h8⟩ := pI_ex h
    clear h
    subst he0
    have h := h8
    clear h8
    intro H locs ls hl hw hS hE h1 h2 hz0
    exact lv_ishr hx hb hd (h H locs ls hl hw hS hE h1 h2 hz0)
  | iushr =>
    obtain rfl : n = 1 := hn rfl
    obtain ⟨y, r, he0, h8⟩ := pI_ex h
    clear h
    subst he0
    have h := h8
    clear h8
    obtain ⟨x, r, he0, h8⟩ := pI_ex h
    clear h
    subst he0
    have h := h8
    clear h8
    intro H locs ls hl hw hS hE h1 h2 hz0
    exact lv_iushr hx hb hd rfl (h H locs ls hl hw hS hE h1 h2 hz0)
  | aconst_null =>
    obtain rfl : n = 1 := hn rfl
    intro H locs ls hl hw hS hE h1 h2 hz0
    exact lv_null hx hb hd (h H locs ls hl hw hS hE h1 h2 hz0)
  | iadd =>
    obtain rfl : n = 1 := hn rfl
    obtain ⟨y, r, he0, h8⟩ := pI_ex h
    clear h
    subst he0
    have h := h8
    clear h8
    obtain ⟨x, r, he0, h8⟩ := pI_ex h
    clear h
    subst he0
    have h := h8
    clear h8
    intro H locs ls hl hw hS hE h1 h2 hz0
    exact lv_iadd hx hb hd (h H locs ls hl hw hS hE h1 h2 hz0)
  | isub =>
    obtain rfl : n = 1 := hn rfl
    obtain ⟨y, r, he0, h8⟩ := pI_ex h
    clear h
    subst he0
    have h := h8
    clear h8
    obtain ⟨x, r, he0, h8⟩ := pI_ex h
    clear h
    subst he0
    have h := h8
    clear h8
    intro H locs ls hl hw hS hE h1 h2 hz0
    exact lv_isub hx hb hd (h H locs ls hl hw hS hE h1 h2 hz0)
  | imul =>
    obtain rfl : n = 1 := hn rfl
    obtain ⟨y, r, he0, h8⟩ := pI_ex h
    clear h
    subst he0
    have h := h8
    clear h8
    obtain ⟨x, r, he0, h8⟩ := pI_ex h
    clear h
    subst he0
    have h := h8
    clear h8
    intro H locs ls hl hw hS hE h1 h2 hz0
    exact lv_imul hx hb hd (h H locs ls hl hw hS hE h1 h2 hz0)
  | iand =>
    obtain rfl : n = 1 := hn rfl
    obtain ⟨y, r, he0, h8⟩ := pI_ex h
    clear h
    subst he0
    have h := h8
    clear h8
    obtain ⟨x, r, he0, h8⟩ := pI_ex h
    clear h
    subst he0
    have h := h8
    clear h8
    intro H locs ls hl hw hS hE h1 h2 hz0
    exact lv_iand hx hb hd (h H locs ls hl hw hS hE h1 h2 hz0)
  | idiv =>
    obtain rfl : n = 1 := hn rfl
    obtain ⟨y, r, he0, h8⟩ := pI_ex h
    clear h
    subst he0
    have h := h8
    clear h8
    obtain ⟨x, r, he0, hne, h8⟩ := pI_ex h
    clear h
    subst he0
    have h := h8
    clear h8
    intro H locs ls hl hw hS hE h1 h2 hz0
    exact lv_idiv hx hb hd hne (h H locs ls hl hw hS hE h1 h2 hz0)
  | irem =>
    obtain rfl : n = 1 := hn rfl
    obtain ⟨y, r, he0, h8⟩ := pI_ex h
    clear h
    subst he0
    have h := h8
    clear h8
    obtain ⟨x, r, he0, hne, h8⟩ := pI_ex h
    clear h
    subst he0
    have h := h8
    clear h8
    intro H locs ls hl hw hS hE h1 h2 hz0
    exact lv_irem hx hb hd hne (h H locs ls hl hw hS hE h1 h2 hz0)
  | ladd =>
    obtain rfl : n = 1 := hn rfl
    obtain ⟨y, r, he0, h8⟩ := pJ_ex h
    clear h
    subst he0
    have h := h8
    clear h8
    obtain ⟨x, r, he0, h8⟩ := pJ_ex h
    clear h
    subst he0
    have h := h8
    clear h8
    intro H locs ls hl hw hS hE h1 h2 hz0
    exact lv_ladd hx hb hd (h H locs ls hl hw hS hE h1 h2 hz0)
  | lsub =>
    obtain rfl : n = 1 := hn rfl
    obtain ⟨y, r, he0, h8⟩ := pJ_ex h
    clear h
    subst he0
    have h := h8
    clear h8
    obtain ⟨x, r, he0, h8⟩ := pJ_ex h
    clear h
    subst he0
    have h := h8
    clear h8
    intro H locs ls hl hw hS hE h1 h2 hz0
    exact lv_lsub hx hb hd (h H locs ls hl hw hS hE h1 h2 hz0)
  | lmul =>
    obtain rfl : n = 1 := hn rfl
    obtain ⟨y, r, he0, h8⟩ := pJ_ex h
    clear h
    subst he0
    have h := h8
    clear h8
    obtain ⟨x, r, he0, h8⟩ := pJ_ex h
    clear h
    subst he0
    have h := h8
    clear h8
    intro H locs ls hl hw hS hE h1 h2 hz0
    exact lv_lmul hx hb hd (h H locs ls hl hw hS hE h1 h2 hz0)
  | land =>
    obtain rfl : n = 1 := hn rfl
    obtain ⟨y, r, he0, h8⟩ := pJ_ex h
    clear h
    subst he0
    have h := h8
    clear h8
    obtain ⟨x, r, he0, h8⟩ := pJ_ex h
    clear h
    subst he0
    have h := h8
    clear h8
    intro H locs ls hl hw hS hE h1 h2 hz0
    exact lv_land hx hb hd (h H locs ls hl hw hS hE h1 h2 hz0)
  | lor =>
    obtain rfl : n = 1 := hn rfl
    obtain ⟨y, r, he0, h8⟩ := pJ_ex h
    clear h
    subst he0
    have h := h8
    clear h8
    obtain ⟨x, r, he0, h8⟩ := pJ_ex h
    clear h
    subst he0
    have h := h8
    clear h8
    intro H locs ls hl hw hS hE h1 h2 hz0
    exact lv_lor hx hb hd (h H locs ls hl hw hS hE h1 h2 hz0)
  | lxor =>
    obtain rfl : n = 1 := hn rfl
    obtain ⟨y, r, he0, h8⟩ := pJ_ex h
    clear h
    subst he0
    have h := h8
    clear h8
    obtain ⟨x, r, he0, h8⟩ := pJ_ex h
    clear h
    subst he0
    have h := h8
    clear h8
    intro H locs ls hl hw hS hE h1 h2 hz0
    exact lv_lxor hx hb hd (h H locs ls hl hw hS hE h1 h2 hz0)
  | lneg =>
    obtain rfl : n = 1 := hn rfl
    obtain ⟨x, r, he0, h8⟩ := pJ_ex h
    clear h
    subst he0
    have h := h8
    clear h8
    intro H locs ls hl hw hS hE h1 h2 hz0
    exact lv_lneg hx hb hd (h H locs ls hl hw hS hE h1 h2 hz0)
  | lshl =>
    obtain rfl : n = 1 := hn rfl
    obtain ⟨y, r, he0, h8⟩ := pI_ex h
    clear h
    subst he0
    have h := h8
    clear h8
    obtain ⟨x, r, he0, h8⟩ := pJ_ex h
    clear h
    subst he0
    have h := h8
    clear h8
    intro H locs ls hl hw hS hE h1 h2 hz0
    exact lv_lshl hx hb hd rfl (h H locs ls hl hw hS hE h1 h2 hz0)
  | lshr =>
    obtain rfl : n = 1 := hn rfl
    obtain ⟨y, r, he0, h8⟩ := pI_ex h
    clear h
    subst he0
    have h := h8
    clear h8
    obtain ⟨x, r, he0, h8⟩ := pJ_ex h
    clear h
    subst he0
    have h := h8
    clear h8
    intro H locs ls hl hw hS hE h1 h2 hz0
    exact lv_lshr hx hb hd rfl (h H locs ls hl hw hS hE h1 h2 hz0)
  | lushr =>
    obtain rfl : n = 1 := hn rfl
    obtain ⟨y, r, he0, h8⟩ := pI_ex h
    clear h
    subst he0
    have h := h8
    clear h8
    obtain ⟨x, r, he0, h8⟩ := pJ_ex h
    clear h
    subst he0
    have h := h8
    clear h8
    intro H locs ls hl hw hS hE h1 h2 hz0
    exact lv_lushr hx hb hd rfl (h H locs ls hl hw hS hE h1 h2 hz0)
  | i2l =>
    obtain rfl : n = 1 := hn rfl
    obtain ⟨x, r, he0, h8⟩ := pI_ex h
    clear h
    subst he0
    have h := h8
    clear h8
    intro H locs ls hl hw hS hE h1 h2 hz0
    exact lv_i2l hx hb hd rfl (h H locs ls hl hw hS hE h1 h2 hz0)
  | l2i =>
    obtain rfl : n = 1 := hn rfl
    obtain ⟨x, r, he0, h8⟩ := pJ_ex h
    clear h
    subst he0
    have h := h8
    clear h8
    intro H locs ls hl hw hS hE h1 h2 hz0
    exact lv_l2i hx hb hd rfl (h H locs ls hl hw hS hE h1 h2 hz0)
  | i2d =>
    obtain rfl : n = 1 := hn rfl
    obtain ⟨x, r, he0, h8⟩ := pI_ex h
    clear h
    subst he0
    have h := h8
    clear h8
    intro H locs ls hl hw hS hE h1 h2 hz0
    exact lv_i2d hx hb hd (h H locs ls hl hw hS hE h1 h2 hz0)
  | ddiv =>
    obtain rfl : n = 1 := hn rfl
    obtain ⟨y, r, he0, h8⟩ := pD_ex h
    clear h
    subst he0
    have h := h8
    clear h8
    obtain ⟨x, r, he0, hne, h8⟩ := pD_ex h
    clear h
    subst he0
    have h := h8
    clear h8
    intro H locs ls hl hw hS hE h1 h2 hz0
    exact lv_ddiv hx hb hd hne (h H locs ls hl hw hS hE h1 h2 hz0)
  | lcmp =>
    obtain rfl : n = 1 := hn rfl
    obtain ⟨y, r, he0, h8⟩ := pJ_ex h
    clear h
    subst he0
    have h := h8
    clear h8
    obtain ⟨x, r, he0, h8⟩ := pJ_ex h
    clear h
    subst he0
    have h := h8
    clear h8
    intro H locs ls hl hw hS hE h1 h2 hz0
    exact W.lcmp hx hb hd (h H locs ls hl hw hS hE h1 h2 hz0)
  | dcmp o =>
    obtain rfl : n = 1 := hn rfl
    obtain ⟨y, r, he0, h8⟩ := pD_ex h
    clear h
    subst he0
    have h := h8
    clear h8
    obtain ⟨x, r, he0, h8⟩ := pD_ex h
    clear h
    subst he0
    have h := h8
    clear h8
    intro H locs ls hl hw hS hE h1 h2 hz0
    exact lv_dcmp hx hb hd (h H locs ls hl hw hS hE h1 h2 hz0)
  | dup =>
    obtain rfl : n = 1 := hn rfl
    obtain ⟨v, r, he0, hv, h8⟩ := pV_ex h
    clear h
    subst he0
    have h := h8
    clear h8
    intro H locs ls hl hw hS hE h1 h2 hz0
    exact lv_dup hx hb hd (by rw [tr_cat]; exact hv) (h H locs ls hl hw hS hE h1 h2 hz0)
  | dup2 =>
    obtain rfl : n = 1 := hn rfl
    obtain ⟨v, r, he0, h8⟩ := pV_ex h
    clear h
    subst he0
    have h := h8
    clear h8
    obtain ⟨w, r, he0, hv, hw9, h8⟩ := pV_ex h
    clear h
    subst he0
    have h := h8
    clear h8
    intro H locs ls hl hw hS hE h1 h2 hz0
    exact lv_dup2_11 hx hb hd (by rw [tr_cat]; exact hv) (by rw [tr_cat]; exact hw9) (h H locs ls hl hw hS hE h1 h2 hz0)
  | goto o =>
    obtain rfl : n = 3 := hn rfl
    intro H locs ls hl hw hS hE h1 h2 hz0
    exact lv_goto hx hb hd (tg_eq hj) (h H locs ls hl hw hS hE h1 h2 hz0)
  | ifCond q o =>
    obtain rfl : n = 3 := hn rfl
    obtain ⟨x, r, he0, h8⟩ := pI_ex h
    clear h
    subst he0
    have h := h8
    clear h8
    intro H locs ls hl hw hS hE h1 h2 hz0
    cases q with
    | eq => exact lv_if_eq hx hb hd (tg_eq hj) (fun e1 => (if_t h e1) H locs ls hl hw hS hE h1 h2 hz0) (fun e1 => (if_f h e1) H locs ls hl hw hS hE h1 h2 hz0)
    | ne => exact lv_if_ne hx hb hd (tg_eq hj) (fun e1 => (if_f h e1) H locs ls hl hw hS hE h1 h2 hz0) (fun e1 => (if_t h e1) H locs ls hl hw hS hE h1 h2 hz0)
    | lt => exact lv_if_lt hx hb hd (tg_eq hj) (fun e1 => (if_t h e1) H locs ls hl hw hS hE h1 h2 hz0) (fun e1 => (if_f h e1) H locs ls hl hw hS hE h1 h2 hz0)
    | ge => exact lv_if_ge hx hb hd (tg_eq hj) (fun e1 => (if_t h e1) H locs ls hl hw hS hE h1 h2 hz0) (fun e1 => (if_f h e1) H locs ls hl hw hS hE h1 h2 hz0)
    | gt => exact lv_if_gt hx hb hd (tg_eq hj) (fun e1 => (if_t h e1) H locs ls hl hw hS hE h1 h2 hz0) (fun e1 => (if_f h e1) H locs ls hl hw hS hE h1 h2 hz0)
    | le => exact lv_if_le hx hb hd (tg_eq hj) (fun e1 => (if_t h e1) H locs ls hl hw hS hE h1 h2 hz0) (fun e1 => (if_f h e1) H locs ls hl hw hS hE h1 h2 hz0)
  | if_icmp q o =>
    obtain rfl : n = 3 := hn rfl
    obtain ⟨y, r, he0, h8⟩ := pI_ex h
    clear h
    subst he0
    have h := h8
    clear h8
    obtain ⟨x, r, he0, h8⟩ := pI_ex h
    clear h
    subst he0
    have h := h8
    clear h8
    intro H locs ls hl hw hS hE h1 h2 hz0
    cases q with
    | eq => exact lv_icmp_eq hx hb hd (tg_eq hj) (fun e1 => (if_t h e1) H locs ls hl hw hS hE h1 h2 hz0) (fun e1 => (if_f h e1) H locs ls hl hw hS hE h1 h2 hz0)
    | ne => exact lv_icmp_ne hx hb hd (tg_eq hj) (fun e1 => (if_f h e1) H locs ls hl hw hS hE h1 h2 hz0) (fun e1 => (if_t h e1) H locs ls hl hw hS hE h1 h2 hz0)
    | lt => exact lv_icmp_lt hx hb hd (tg_eq hj) (fun e1 => (if_t h e1) H locs ls hl hw hS hE h1 h2 hz0) (fun e1 => (if_f h e1) H locs ls hl hw hS hE h1 h2 hz0)
    | ge => exact lv_icmp_ge hx hb hd (tg_eq hj) (fun e1 => (if_t h e1) H locs ls hl hw hS hE h1 h2 hz0) (fun e1 => (if_f h e1) H locs ls hl hw hS hE h1 h2 hz0)
    | gt => exact lv_icmp_gt hx hb hd (tg_eq hj) (fun e1 => (if_t h e1) H locs ls hl hw hS hE h1 h2 hz0) (fun e1 => (if_f h e1) H locs ls hl hw hS hE h1 h2 hz0)
    | le => exact lv_icmp_le hx hb hd (tg_eq hj) (fun e1 => (if_t h e1) H locs ls hl hw hS hE h1 h2 hz0) (fun e1 => (if_f h e1) H locs ls hl hw hS hE h1 h2 hz0)
  | ifnull o =>
    obtain rfl : n = 3 := hn rfl
    obtain ⟨v, r, he0, h8⟩ := pV_ex h
    clear h
    subst he0
    have h := h8
    clear h8
    intro H locs ls hl hw hS hE h1 h2 hz0
    cases v with
    | null => exact lv_ifnullN hx hb hd (tg_eq hj) (h H locs ls hl hw hS hE h1 h2 hz0)
    | ref x => exact lv_ifnull hx hb hd (h H locs ls hl hw hS hE h1 h2 hz0)
    | _ => exact False.elim h
  | tableswitch df lo hi offs =>
    obtain ⟨x, r, he0, h8⟩ := pI_ex h
    clear h
    subst he0
    have h := h8
    clear h8
    intro H locs ls hl hw hS hE h1 h2 hz0
    have hj' : tgOk pc df = true ∧ offs.all (tgOk pc) = true := by
      have := hj
      simp only [jOk, Bool.and_eq_true] at this
      exact this
    split at h
    · rename_i e1
      exact lv_tableOut hx hb hd e1 (tg_eq hj'.1) (h H locs ls hl hw hS hE h1 h2 hz0)
    · rename_i e1
      split at h
      · rename_i o ho
        refine lv_tableIn hx hb hd (fun q => e1 (Or.inl q)) (fun q => e1 (Or.inr q)) ho (tg_eq ?_) (h H locs ls hl hw hS hE h1 h2 hz0)
        exact (Array.all_eq_true_iff_forall_mem.mp hj'.2) o (Array.mem_of_getElem? ho)
      · exact h.elim
  | _ => first | exact False.elim h | exact absurd hg (by simp [grp])
end SND1
end
section
/-! ===== from the interpreter to the machine, 4: the heap, allotting, the ends (by program, wip/whole/gsn2.py) ===== -/
theorem vwCl_at : ∀ a : Nat, a < 9 → vwCl[a]? = some (Rn a, TXf a, nf a)
  | 0, _ => rfl
  | 1, _ => rfl
  | 2, _ => rfl
  | 3, _ => rfl
  | 4, _ => rfl
  | 5, _ => rfl
  | 6, _ => rfl
  | 7, _ => rfl
  | 8, _ => rfl
  | n + 9, h => by omega
theorem fty_ok : ∀ a : Nat, a < 9 → ∀ j : Nat, j < nf a → parseFieldDescriptor (TXf a j).2.2.1 = some (fty a j)
  | 0, _ => tyX0_ok
  | 1, _ => tyX1_ok
  | 2, _ => tyX2_ok
  | 3, _ => tyX3_ok
  | 4, _ => tyX4_ok
  | 5, _ => tyX5_ok
  | 6, _ => tyX6_ok
  | 7, _ => tyX7_ok
  | 8, _ => tyX8_ok
  | n + 9, h => by omega
theorem fnm_ok : ∀ a : Nat, a < 9 → ∀ i, i < nf a → ∀ j, j < nf a → i ≠ j → (TXf a i).2.1 ≠ (TXf a j).2.1
  | 0, _ => nmX0
  | 1, _ => nmX1
  | 2, _ => nmX2
  | 3, _ => nmX3
  | 4, _ => nmX4
  | 5, _ => nmX5
  | 6, _ => nmX6
  | 7, _ => nmX7
  | 8, _ => nmX8
  | n + 9, h => by omega
theorem flg_bnd : ∀ q ∈ flgT, q.2.2.1 < 9 ∧ q.2.2.2.1 < nf q.2.2.1 := by decide +kernel
theorem fln_bnd : ∀ q ∈ flnT, q.2.2.1 < 9 ∧ q.2.2.2.1 < nf q.2.2.1 := by decide +kernel
theorem lay_all : ∀ a ∈ List.range 9, ∀ j ∈ List.range (nf a), (a, j) ∈ layT := by decide +kernel
theorem ws_in {a : Nat} (ha : a < 9) : ∀ w ∈ u_ws (Rn a) (TXf a) (nf a), w ∈ GW := by
  intro w hw
  unfold u_ws at hw
  obtain ⟨j, hj, rfl⟩ := List.mem_map.mp hw
  exact layT_in (a, j) (lay_all a (List.mem_range.mpr ha) j hj)
theorem tr_def (B : AM) (b : Nat) (t : FieldType) : tr B b (defaultValue t) = defaultValue t := by cases t <;> rfl
theorem fs0_tr (B : AM) (b a : Nat) : (fs0 a).map (tr B b) = fs0 a := by
  unfold fs0
  rw [List.map_map]
  exact List.map_congr_left fun j _ => tr_def B b _
theorem W_sz {p : Program} {l : Launch} {e : Env} {R : Room} {s : State} {m : MethodId} {args : Array Value} {below : List Frame} {meth : Method} {c : Code} {H : Heap} {locs : List Loc} {cells slots : Nat} {Q : State → Prop} {g : JFrame}
    (h : H.size ≤ s.heap.size + cells → W p l e R s m args below meth c H locs cells slots Q g) : W p l e R s m args below meth c H locs cells slots Q g := by
  intro T hT X
  have h1 : (T.setVm s.vm).heap.size ≤ s.heap.size + cells := X.same.2.2.1
  have h2 : T.heap.size ≤ s.heap.size + cells := h1
  rw [hT] at h2
  exact h h2 T hT X
theorem cv_set {ca : Nat → ClassId} {B : AM} {b ci j : Nat} {fs : List Value} {v : Value} : cv ca B b (.inr (ci, fs.set j v)) = .inr (ci, (fs.map (tr B b)).set j (tr B b v)) := by
  simp [cv, List.map_set]
theorem tys_name {ca : Nat → ClassId} {D : va_G} {s : State} {cA : ClassId} {ty : FieldType} {t : Nat} (hK : va_K D vwCl (tys ca) s) (h9 : va_K D vwCl (tys ca ++ [(cA, ty)]) s) (ht : (tys ca)[t]? = some (ca t, ty)) : cA = ca t := by
  have h1 := (hK.2 t _ ht).2
  have h2 := (h9.2 5 (cA, ty) rfl).2
  cases ty with
  | object C =>
    obtain ⟨-, -, -, -, -, f1⟩ := h1
    obtain ⟨-, -, -, -, -, f2⟩ := h2
    exact Option.some.inj (f2.symm.trans f1)
  | _ => exact Option.some.inj (Eq.trans (Eq.symm (h2 : s.vm.findClass _ = some cA)) h1)
theorem Cg.set {B : AM} {g : Gp} {z o : Nat} {x : AE} (h : Cg B g z) : Cg B (wr g o x) z := fun e => by
  have h1 := h e
  refine ⟨?_, h1.2⟩
  show z = B.1 + ((g.2.set o x).length - 1)
  rw [List.length_set]
  exact h1.1
section SND2
variable {k ge w : Nat} {p : Program} {l : Launch} {e : Env} {R : Room} {s : State} {m : MethodId} {args : Array Value} {below : List Frame} {meth : Method} {c : Code} {D : va_G} {ca : Nat → ClassId} {B : AM} {b Ln : Nat} {xs : Nat → Int32} {d : Nat} {QQ : State → Prop}
variable {C : CT} {Q : Post} {pc n a9 b9 c9 : Nat} {L : Lc} {st : List Value} {u : Nat × Nat} {g : Gp}

set_option maxHeartbeats 4000000 in
theorem xs_heap {i : Instr} {ks : List Nat} (F : FrC k w p R s m args meth c D ca B b Ln xs d) (hok : okB k (pc, i, n, a9, b9, c9, ks) = true) (hd : decode (mB k) pc = .ok (i, n)) (hn : isTS i = false → n = ilen i) (hg : grp i = 1) (h : st1 C k Q (XS k ge p l e R s m args below meth c D ca B b Ln xs QQ) pc i n a9 b9 c9 L st u g) : XS k ge p l e R s m args below meth c D ca B b Ln xs QQ pc L st u g := by
  obtain ⟨hx, hb, hml, hown, hts, hSF, hbB, hBs, hX, hR1, hR2, hR3, hR4, hnm⟩ := F
  have hK := hSF.1
  cases i with
  | getfield x =>
    obtain rfl : n = 3 := hn rfl
    obtain ⟨o, r, he0, h8⟩ := pR_ex h
    clear h
    subst he0
    have h := h8
    clear h8
    obtain ⟨ci, fs, ho, he0, h8⟩ := hO_ex h
    clear h
    subst he0
    have h := h8
    clear h8
    split at h
    · rename_i v hv
      intro H locs ls hl hw hS hE h1 h2 hz0
      obtain ⟨q, rfl, hq, had⟩ := hw.at ho (by simp)
      have h3 := h H locs ls hl hw hS hE h1 h2 hz0
      show W _ _ _ _ _ _ _ _ _ _ _ _ _ _ _ (F0 m pc ls (.ref (ad B b (q + 1)) :: r.map (tr B b)))
      rw [had]
      have hv1 : (fs.map (tr B b))[b9]? = some (tr B b v) := by rw [List.getElem?_map, hv]; rfl
      simp only [okB, Bool.and_eq_true] at hok
      have hok := hok.2
      split at hok
      · have hm := List.contains_iff_mem.mp hok
        have hbd := flg_bnd _ hm
        have hwd : Cond.fieldLink (Rn (own k)) x (TXf ci b9).1 (TXf ci b9).2.1 (TXf ci b9).2.2.1 ∈ GW := flgT_in _ hm
        exact va_get (D := D) (ci := ci) (v := tr B b v) (C := Rn ci) (T := TXf ci) (N := nf ci) hx hb hts (ws_in hbd.1) hown hK hw.2.1 q hq (vwCl_at ci hbd.1) b9 hbd.2 (hts _ hwd) (fun _ h9 => h9) hv1 hd h3
      · have hm := List.contains_iff_mem.mp hok
        have hbd := fln_bnd _ hm
        have hwd : Cond.fieldLinkNest (Rn (own k)) x (TXf ci b9).1 (TXf ci b9).2.1 (TXf ci b9).2.2.1 "RuneBands" ∈ NW := List.mem_append_left _ (List.mem_map.mpr ⟨_, hm, rfl⟩)
        exact va_getN (D := D) (ci := ci) (v := tr B b v) (C := Rn ci) (T := TXf ci) (N := nf ci) hx hb hts (ws_in hbd.1) hown hK hw.2.1 q hq (vwCl_at ci hbd.1) b9 hbd.2 (va_Nw.use rfl (hSF.2.1 _ hwd)) (fun _ h9 => h9) hv1 hd h3
    · exact h.elim
  | putfield x =>
    obtain rfl : n = 3 := hn rfl
    obtain ⟨v, r, he0, h8⟩ := pV_ex h
    clear h
    subst he0
    have h := h8
    clear h8
    obtain ⟨o, r, he0, h8⟩ := pR_ex h
    clear h
    subst he0
    have h := h8
    clear h8
    obtain ⟨ci, fs, ho, he0, hbl, hnr, hft, h8⟩ := hO_ex h
    clear h
    subst he0
    have h := h8
    clear h8
    intro H locs ls hl hw hS hE h1 h2 hz0
    obtain ⟨q, rfl, hq, had⟩ := hw.at ho (by simp)
    show W _ _ _ _ _ _ _ _ _ _ _ _ _ _ _ (F0 m pc ls (tr B b v :: .ref (ad B b (q + 1)) :: r.map (tr B b)))
    rw [had]
    have hlen : b9 < (fs.map (tr B b)).length := by rw [List.length_map]; exact hbl
    have kk : ∀ (H1 : Heap) (locs1 : List Loc), va_P D vwCl ((wof ca B b g.2).set q (B.2 q, .inr (ci, (fs.map (tr B b)).set b9 (tr B b v)))) H1 → va_D (AB B.1) ((wof ca B b g.2).set q (B.2 q, .inr (ci, (fs.map (tr B b)).set b9 (tr B b v)))) → va_S (AB B.1) s.heap H1 locs1 → W p l e R s m args below meth c H1 locs1 (uc ge u g.1) (us ge u g.1) QQ (F0 m (pc + 3) ls (r.map (tr B b))) := by
      intro H1 locs1 hP1 _ hS1
      rw [← cv_set (ca := ca)] at hP1
      exact h H1 locs1 ls hl (hw.put hP1) hS1 (Cg.set hE) h1 h2 hz0
    simp only [okB, Bool.and_eq_true] at hok
    have hok2 := hok.2.2
    have hok := hok.2.1
    split at hok
    · rename_i hc0
      have hm := List.contains_iff_mem.mp hok
      have hbd := flg_bnd _ hm
      have hwd : Cond.fieldLink (Rn (own k)) x (TXf ci b9).1 (TXf ci b9).2.1 (TXf ci b9).2.2.1 ∈ GW := flgT_in _ hm
      cases hfin : (TXf ci b9).2.2.2 with
      | false => exact va_put (D := D) (ci := ci) (v := tr B b v) (ty := fty ci b9) (C := Rn ci) (T := TXf ci) (N := nf ci) hx hb hts (ws_in hbd.1) (fty ci) (fty_ok ci hbd.1) (fnm_ok ci hbd.1) hown hK hw.2.1 (hw.D) hS q hq (vwCl_at ci hbd.1) b9 hbd.2 (hts _ hwd) (fun _ h9 => h9) hfin (fty_ok ci hbd.1 b9 hbd.2) (narrow_tr hnr) (fits_tr hft) hlen hd kk
      | true =>
        rw [hfin] at hok2
        simp only [Bool.not_true, Bool.false_or, Bool.and_eq_true, beq_iff_eq] at hok2
        exact va_putF (D := D) (ci := ci) (v := tr B b v) (ty := fty ci b9) (C := Rn ci) (T := TXf ci) (N := nf ci) hx hb hts (ws_in hbd.1) (fty ci) (fty_ok ci hbd.1) (fnm_ok ci hbd.1) hown hK hw.2.1 (hw.D) hS q hq (vwCl_at ci hbd.1) b9 hbd.2 (hts _ hwd) (fun _ h9 => h9) hfin (hnm hok2.1.2) hok2.2 (fty_ok ci hbd.1 b9 hbd.2) (narrow_tr hnr) (fits_tr hft) hlen hd kk
    · rename_i hc0
      have hm := List.contains_iff_mem.mp hok
      have hbd := fln_bnd _ hm
      have hwd : Cond.fieldLinkNest (Rn (own k)) x (TXf ci b9).1 (TXf ci b9).2.1 (TXf ci b9).2.2.1 "RuneBands" ∈ NW := List.mem_append_left _ (List.mem_map.mpr ⟨_, hm, rfl⟩)
      have hfin : (TXf ci b9).2.2.2 = false := by
        cases hfin : (TXf ci b9).2.2.2 with
        | false => rfl
        | true =>
          rw [hfin] at hok2
          simp only [Bool.not_true, Bool.false_or, Bool.and_eq_true] at hok2
          exact absurd hok2.1.1 hc0
      exact va_putN (D := D) (ci := ci) (v := tr B b v) (ty := fty ci b9) (C := Rn ci) (T := TXf ci) (N := nf ci) hx hb hts (ws_in hbd.1) (fty ci) (fty_ok ci hbd.1) (fnm_ok ci hbd.1) hown hK hw.2.1 (hw.D) hS q hq (vwCl_at ci hbd.1) b9 hbd.2 (va_Nw.use rfl (hSF.2.1 _ hwd)) (fun _ h9 => h9) hfin (fty_ok ci hbd.1 b9 hbd.2) (narrow_tr hnr) (fits_tr hft) hlen hd kk
  | iaload =>
    obtain rfl : n = 1 := hn rfl
    obtain ⟨i, r, he0, h8⟩ := pI_ex h
    clear h
    subst he0
    have h := h8
    clear h8
    obtain ⟨o, r, he0, h8⟩ := pR_ex h
    clear h
    subst he0
    have h := h8
    clear h8
    obtain ⟨t, n', f, ho, ht, hin, h⟩ := hI_ex h
    intro H locs ls hl hw hS hE h1 h2 hz0
    have h3 := h H locs ls hl hw hS hE h1 h2 hz0
    show W _ _ _ _ _ _ _ _ _ _ _ _ _ _ _ (F0 m pc ls (.int i :: .ref (ad B b o) :: r.map (tr B b)))
    rcases hw.script (o := o) with ⟨rfl, hs0⟩ | ⟨q, rfl⟩
    · rw [hs0] at ho
      cases ho
      rw [ad_zero]
      exact va_sld (A := AB B.1) hx hb hX (Nat.lt_of_lt_of_le hbB hBs) (Nat.not_le.mpr hbB) hS hin hd h3
    · rcases ht with rfl | ⟨-, h0⟩
      · obtain ⟨q', e1, hq, had⟩ := hw.at ho (by simp)
        rw [had]
        exact va_iald (D := D) hx hb hK hw.2.1 q' 0 hq rfl hin hd h3
      · exact absurd h0 (Nat.succ_ne_zero q)
  | laload =>
    obtain rfl : n = 1 := hn rfl
    obtain ⟨i, r, he0, h8⟩ := pI_ex h
    clear h
    subst he0
    have h := h8
    clear h8
    obtain ⟨o, r, he0, h8⟩ := pR_ex h
    clear h
    subst he0
    have h := h8
    clear h8
    obtain ⟨t, n', f, ho, he0, hin, h8⟩ := hJ_ex h
    clear h
    subst he0
    have h := h8
    clear h8
    intro H locs ls hl hw hS hE h1 h2 hz0
    have h3 := h H locs ls hl hw hS hE h1 h2 hz0
    obtain ⟨q, rfl, hq, had⟩ := hw.at ho (by simp)
    show W _ _ _ _ _ _ _ _ _ _ _ _ _ _ _ (F0 m pc ls (.int i :: .ref (ad B b (q + 1)) :: r.map (tr B b)))
    rw [had]
    exact va_lald (D := D) hx hb hK hw.2.1 q 1 hq rfl hin hd h3
  | aaload =>
    obtain rfl : n = 1 := hn rfl
    obtain ⟨i, r, he0, h8⟩ := pI_ex h
    clear h
    subst he0
    have h := h8
    clear h8
    obtain ⟨o, r, he0, h8⟩ := pR_ex h
    clear h
    subst he0
    have h := h8
    clear h8
    obtain ⟨t, n', f, ho, ht, hin, h⟩ := hQ_ex h
    intro H locs ls hl hw hS hE h1 h2 hz0
    have h3 := h H locs ls hl hw hS hE h1 h2 hz0
    obtain ⟨q, rfl, hq, had⟩ := hw.at ho (by simp)
    show W _ _ _ _ _ _ _ _ _ _ _ _ _ _ _ (F0 m pc ls (.int i :: .ref (ad B b (q + 1)) :: r.map (tr B b)))
    rw [had]
    have e1 : tr B b (va_rf (f i.toNatClampNeg)) = va_rf ((f i.toNatClampNeg).map (ad B b)) := by cases f i.toNatClampNeg <;> rfl
    have h4 : W p l e R s m args below meth c H locs (uc ge u g.1) (us ge u g.1) QQ (F0 m (pc + 1) ls (va_rf ((f i.toNatClampNeg).map (ad B b)) :: r.map (tr B b))) := by
      rw [← e1]; exact h3
    rcases ht with rfl | rfl
    · exact va_aldq (D := D) hx hb hK hw.2.1 q 3 hq rfl hin hd h4
    · exact va_aldq (D := D) hx hb hK hw.2.1 q 4 hq rfl hin hd h4
  | iastore =>
    obtain rfl : n = 1 := hn rfl
    obtain ⟨x, r, he0, h8⟩ := pI_ex h
    clear h
    subst he0
    have h := h8
    clear h8
    obtain ⟨i, r, he0, h8⟩ := pI_ex h
    clear h
    subst he0
    have h := h8
    clear h8
    obtain ⟨o, r, he0, h8⟩ := pR_ex h
    clear h
    subst he0
    have h := h8
    clear h8
    obtain ⟨t, n', f, ho, he0, hin, h8⟩ := hI_ex h
    clear h
    subst he0
    have h := h8
    clear h8
    intro H locs ls hl hw hS hE h1 h2 hz0
    obtain ⟨q, rfl, hq, had⟩ := hw.at ho (by simp)
    show W _ _ _ _ _ _ _ _ _ _ _ _ _ _ _ (F0 m pc ls (.int x :: .int i :: .ref (ad B b (q + 1)) :: r.map (tr B b)))
    rw [had]
    exact va_iast (D := D) hx hb hK hw.2.1 (hw.D) hS q 0 hq rfl hin hd fun H1 locs1 hP1 _ hS1 => h H1 locs1 ls hl (hw.put (x := .inl (0, n', .inl (upd f i.toNatClampNeg x))) hP1) hS1 (Cg.set hE) h1 h2 hz0
  | lastore =>
    obtain rfl : n = 1 := hn rfl
    obtain ⟨x, r, he0, h8⟩ := pJ_ex h
    clear h
    subst he0
    have h := h8
    clear h8
    obtain ⟨i, r, he0, h8⟩ := pI_ex h
    clear h
    subst he0
    have h := h8
    clear h8
    obtain ⟨o, r, he0, h8⟩ := pR_ex h
    clear h
    subst he0
    have h := h8
    clear h8
    obtain ⟨t, n', f, ho, he0, hin, h8⟩ := hJ_ex h
    clear h
    subst he0
    have h := h8
    clear h8
    intro H locs ls hl hw hS hE h1 h2 hz0
    obtain ⟨q, rfl, hq, had⟩ := hw.at ho (by simp)
    show W _ _ _ _ _ _ _ _ _ _ _ _ _ _ _ (F0 m pc ls (.long x :: .int i :: .ref (ad B b (q + 1)) :: r.map (tr B b)))
    rw [had]
    exact va_last (D := D) hx hb hK hw.2.1 (hw.D) hS q 1 hq rfl hin hd fun H1 locs1 hP1 _ hS1 => h H1 locs1 ls hl (hw.put (x := .inl (1, n', .inr (.inl (vp_updL f i.toNatClampNeg x)))) hP1) hS1 (Cg.set hE) h1 h2 hz0
  | aastore =>
    obtain rfl : n = 1 := hn rfl
    obtain ⟨x, r, he0, h8⟩ := pR_ex h
    clear h
    subst he0
    have h := h8
    clear h8
    obtain ⟨i, r, he0, h8⟩ := pI_ex h
    clear h
    subst he0
    have h := h8
    clear h8
    obtain ⟨o, r, he0, h8⟩ := pR_ex h
    clear h
    subst he0
    have h := h8
    clear h8
    obtain ⟨t, n', f, ho, h⟩ := hQ_ex h
    obtain ⟨ci, vs, hox, ht, hin, h⟩ := hO_ex h
    intro H locs ls hl hw hS hE h1 h2 hz0
    obtain ⟨q, rfl, hq, had⟩ := hw.at ho (by simp)
    obtain ⟨qx, rfl, hqx, hadx⟩ := hw.at hox (by simp)
    show W _ _ _ _ _ _ _ _ _ _ _ _ _ _ _ (F0 m pc ls (.ref (ad B b (qx + 1)) :: .int i :: .ref (ad B b (q + 1)) :: r.map (tr B b)))
    have e1 : cv ca B b (.inl (t, n', .inr (.inr (.inr (.inr (va_up f i.toNatClampNeg (some (qx + 1)))))))) = .inl (ca t, n', .inr (.inr (.inr (.inr (va_up (fun j => (f j).map (ad B b)) i.toNatClampNeg (some (ad B b (qx + 1)))))))) := by
      simp only [cv]
      congr 7
      funext j
      unfold va_up
      split <;> rfl
    rw [had]
    rw [hadx] at e1 ⊢
    have kk : ∀ (H1 : Heap) (locs1 : List Loc), va_P D vwCl ((wof ca B b g.2).set q (B.2 q, .inl (ca t, n', .inr (.inr (.inr (.inr (va_up (fun j => (f j).map (ad B b)) i.toNatClampNeg (some (B.2 qx))))))))) H1 → va_D (AB B.1) ((wof ca B b g.2).set q (B.2 q, .inl (ca t, n', .inr (.inr (.inr (.inr (va_up (fun j => (f j).map (ad B b)) i.toNatClampNeg (some (B.2 qx))))))))) → va_S (AB B.1) s.heap H1 locs1 → W p l e R s m args below meth c H1 locs1 (uc ge u g.1) (us ge u g.1) QQ (F0 m (pc + 1) ls (r.map (tr B b))) := by
      intro H1 locs1 hP1 _ hS1
      rw [← e1] at hP1
      exact h H1 locs1 ls hl (hw.put hP1) hS1 (Cg.set hE) h1 h2 hz0
    rcases ht with ⟨rfl, rfl⟩ | ⟨rfl, rfl⟩
    · exact va_astq (D := D) (r := (Rn 5, TXf 5, nf 5)) hx hb hK hw.2.1 (hw.D) hS q 3 qx 5 hq rfl hqx rfl hin hd kk
    · exact va_astq (D := D) (r := (Rn 7, TXf 7, nf 7)) hx hb hK hw.2.1 (hw.D) hS q 4 qx 7 hq rfl hqx rfl hin hd kk
  | arraylength =>
    obtain rfl : n = 1 := hn rfl
    obtain ⟨o, r, he0, h8⟩ := pR_ex h
    clear h
    subst he0
    have h := h8
    clear h8
    obtain ⟨t, n', f, ho, ht, h⟩ := hA_ex h
    intro H locs ls hl hw hS hE h1 h2 hz0
    have h3 := h H locs ls hl hw hS hE h1 h2 hz0
    show W _ _ _ _ _ _ _ _ _ _ _ _ _ _ _ (F0 m pc ls (.ref (ad B b o) :: r.map (tr B b)))
    rcases hw.script (o := o) with ⟨rfl, hs0⟩ | ⟨q, rfl⟩
    · rw [hs0] at ho
      cases ho
      rw [ad_zero]
      exact va_slen (A := AB B.1) hx hb hX (Nat.lt_of_lt_of_le hbB hBs) (Nat.not_le.mpr hbB) hS hd h3
    · have ht : t < 5 := ht.resolve_right (Nat.succ_ne_zero q)
      obtain ⟨q', e1, hq, had⟩ := hw.at ho (by intro e9; cases e9; omega)
      rw [had]
      have hcv : ∃ x : vp_A, x.1 = n' ∧ cv ca B b (.inl (t, n', f)) = .inl (ca t, x) := by
        rcases f with f | f | f | f | f <;> exact ⟨_, rfl, rfl⟩
      obtain ⟨x, hx1, hx2⟩ := hcv
      rw [hx2] at hq
      subst hx1
      match t, ht with
      | 0, _ => exact va_alen (D := D) hx hb hK hw.2.1 q' 0 hq rfl rfl hd h3
      | 1, _ => exact va_alen (D := D) hx hb hK hw.2.1 q' 1 hq rfl rfl hd h3
      | 2, _ => exact va_alen (D := D) hx hb hK hw.2.1 q' 2 hq rfl rfl hd h3
      | 3, _ => exact va_alen (D := D) hx hb hK hw.2.1 q' 3 hq rfl rfl hd h3
      | 4, _ => exact va_alen (D := D) hx hb hK hw.2.1 q' 4 hq rfl rfl hd h3
  | _ => first | exact False.elim h | exact absurd hg (by simp [grp])
end SND2
end
section
/-! ===== from the interpreter to the machine, 5: allotting, the ends (by program, wip/whole/gsn3.py) ===== -/
theorem cl_bnd : ∀ q ∈ clgT, q.2.2 < 9 := by decide +kernel
theorem al_bnd : ∀ q ∈ algT, q.2.2 = 3 ∨ q.2.2 = 4 := by decide +kernel
theorem ins_all : ∀ a ∈ List.range 9, a ∈ insT := by decide +kernel
theorem ini_all : ∀ a ∈ List.range 14, a ∈ iniT := by decide +kernel
theorem sp_at {j : Nat} {w : Cond} (h : spL[j]? = some w) : w ∈ GW := spL_in w (List.mem_of_getElem? h)
/-- the address of what is new -/
theorem new_q {ca : Nat → ClassId} {B : AM} {b Ln : Nat} {xs : Nat → Int32} {D : va_G} {hs : List AE} {H1 : Heap} {q : Nat} {x : va_E} {sz : Nat} (hc : ∀ i, B.2 i = B.1 + i) (hl : 0 < hs.length) (hP : va_P D vwCl (wof ca B b hs ++ [(q, x)]) H1) (hD : va_D (AB B.1) (wof ca B b hs ++ [(q, x)])) (hz : H1.size ≤ sz) (hsz : sz = B.1 + hs.length) : q = B.2 (hs.length - 1) := by
  rw [hc]
  have hlen := wof_len ca B b hs
  have e1 : (wof ca B b hs ++ [(q, x)])[hs.length - 1]? = some (q, x) := by
    rw [List.getElem?_append_right (by omega), hlen, Nat.sub_self]; rfl
  have h1 : B.1 ≤ q := hD.2 _ _ e1
  have h2 : q < H1.size := (hP _ _ e1).lt
  by_cases h3 : q = B.1 + (hs.length - 1)
  · exact h3
  · have h4 : q - B.1 < hs.length - 1 := by omega
    have h5 : q - B.1 < (wof ca B b hs).length := by omega
    have e2 : (wof ca B b hs ++ [(q, x)])[q - B.1]? = some ((wof ca B b hs)[q - B.1]) := by
      rw [List.getElem?_append_left h5, List.getElem?_eq_getElem h5]
    have e3 := List.getElem?_eq_getElem h5
    rw [wof_get] at e3
    obtain ⟨y, -, hy⟩ := Option.map_eq_some_iff.mp e3
    have h6 := hD.1 (q - B.1) (hs.length - 1) _ _ e2 e1 (by rw [← hy]; show B.2 (q - B.1) = q; rw [hc]; omega)
    omega
def rI (v : Option Value) : Instr := match v with
  | none => .return_
  | some (.int _) => .ireturn
  | some (.long _) => .lreturn
  | some (.double _) => .dreturn
  | _ => .areturn
def rOk (r : Nat) (v : Option Value) : Prop := match v with
  | none => r = 0
  | some (.int x) => r = 1 ∨ (r = 2 ∧ (x = 0 ∨ x = 1))
  | some (.long _) => r = 3
  | some (.double _) => r = 4
  | some .null => r = 5
  | some (.ref _) => r = 5
  | _ => False
section SND3
variable {k ge w : Nat} {p : Program} {l : Launch} {e : Env} {R : Room} {s : State} {m : MethodId} {args : Array Value} {below : List Frame} {meth : Method} {c : Code} {D : va_G} {ca : Nat → ClassId} {B : AM} {b Ln : Nat} {xs : Nat → Int32} {d : Nat} {QQ : State → Prop}
variable {C : CT} {Q : Post} {pc n a9 b9 c9 : Nat} {L : Lc} {st : List Value} {u : Nat × Nat} {g : Gp}

set_option maxHeartbeats 4000000 in
theorem xs_new {i : Instr} {ks : List Nat} (F : FrC k w p R s m args meth c D ca B b Ln xs d) (hok : okB k (pc, i, n, a9, b9, c9, ks) = true) (hd : decode (mB k) pc = .ok (i, n)) (hn : isTS i = false → n = ilen i) (hg : grp i = 2) (hc9 : ∀ x, i = .new x → c9 ≠ 1) (hz9 : ∀ t, i = .newarray t → g.1 = 0) (hcj : tgm ge ≤ tgm g.1 + w) (h : st1 C k Q (XS k ge p l e R s m args below meth c D ca B b Ln xs QQ) pc i n a9 b9 c9 L st u g) : XS k ge p l e R s m args below meth c D ca B b Ln xs QQ pc L st u g := by
  obtain ⟨hx, hb, hml, hown, hts, hSF, hbB, hBs, hX, hR1, hR2, hR3, hR4, hnm⟩ := F
  have hK := hSF.1
  have hAll : ∀ q, s.heap.size ≤ q → AB B.1 q := fun q hq => Nat.le_trans hBs hq
  cases i with
  | new x =>
    obtain rfl : n = 3 := hn rfl
    change (if c9 = 1 then _ else _) at h
    rw [if_neg (hc9 x rfl)] at h
    obtain ⟨hfz, hb1, hb2, h⟩ := h
    intro H locs ls hl hw hS hE h1 h2 hz0
    have hge := hz0.2 hfz
    have hc := (hE hfz).2
    have hE1 := (hE hfz).1
    have hsq : u.1 + 1 ≤ R.cells ∧ u.2 + nf a9 ≤ R.slots := by omega
    have hu0 : uc ge u g.1 = u.1 ∧ us ge u g.1 = u.2 := by unfold uc us; rw [hge, hfz]; omega
    rw [hu0.1, hu0.2]
    have hlen : 0 < g.2.length := by obtain ⟨⟨tl, ht⟩, -⟩ := hw; rw [ht]; simp
    simp only [okB, Bool.and_eq_true, Bool.or_eq_true, beq_iff_eq] at hok
    have hm := List.contains_iff_mem.mp (hok.2.resolve_left (hc9 x rfl))
    have ha : a9 < 9 := cl_bnd _ hm
    have hcl : Cond.classLink (Rn (own k)) x (Rn a9) ∈ GW := clgT_in _ hm
    have hin : Cond.instantiable (Rn a9) (nf a9) ∈ GW := insT_in a9 (ins_all a9 (List.mem_range.mpr ha))
    have hii : Cond.initialized (Rn a9) ∈ GW := iniT_in a9 (ini_all a9 (List.mem_range.mpr (by omega)))
    refine va_new (D := D) (ci := a9) (C := Rn a9) (T := TXf a9) (N := nf a9) (fs := fs0 a9) hx hb hts (ws_in ha) (fty a9) (fty_ok a9 ha) hown (hts _ hcl) (hts _ hin) (hts _ hii) hK hw.2.1 (hw.D) hS hAll (vwCl_at a9 ha) (fun j hj => ?_) (by omega) (by omega) hd fun q H1 hP1 hD1 hS1 => W_sz fun hz => ?_
    · simp [vp_V, fs0, hj]
    · have hq : q = B.2 (g.2.length - 1) := new_q (xs := xs) (Ln := Ln) hc hlen hP1 hD1 hz (by omega)
      subst hq
      have e1 : tr B b (.ref g.2.length) = .ref (B.2 (g.2.length - 1)) := by show Value.ref (ad B b _) = _; unfold ad; rw [if_neg (by omega)]
      have h3 := h H1 locs ls hl (hw.push hc (x := .inr (a9, fs0 a9)) (by show va_P D vwCl (wof ca B b g.2 ++ [(_, .inr (a9, (fs0 a9).map (tr B b)))]) H1; rw [fs0_tr]; exact hP1)) hS1 (fun e9 => ⟨by show s.heap.size + (u.1 + 1) = B.1 + ((g.2 ++ [_]).length - 1); rw [List.length_append]; simp; omega, hc⟩) hb1 hb2 hz0
      have hu1 : ∀ a c : Nat, uc ge (a, c) g.1 = a ∧ us ge (a, c) g.1 = c := fun a c => by unfold uc us; rw [hge, hfz]; omega
      rw [List.map_cons, e1] at h3
      have h3 : W p l e R s m args below meth c H1 locs (uc ge (_, _) g.1) (us ge (_, _) g.1) QQ _ := h3
      rw [(hu1 _ _).1, (hu1 _ _).2] at h3
      exact h3
  | newarray t =>
    obtain rfl : n = 2 := hn rfl
    obtain ⟨z, r, he0, hzz, hzn, ht, h8⟩ := pI_ex h
    clear h
    subst he0
    have hfz := hz9 t rfl
    rw [if_pos hfz] at h8
    obtain ⟨hb1, hb2, h⟩ := h8
    intro H locs ls hl hw hS hE h1 h2 hz0
    have hge := hz0.2 hfz
    have hc := (hE hfz).2
    have hE1 := (hE hfz).1
    have hsq : u.1 + 1 ≤ R.cells ∧ u.2 + z.toNatClampNeg ≤ R.slots := by omega
    have hu0 : uc ge u g.1 = u.1 ∧ us ge u g.1 = u.2 := by unfold uc us; rw [hge, hfz]; omega
    rw [hu0.1, hu0.2]
    have hlen : 0 < g.2.length := by obtain ⟨⟨tl, ht⟩, -⟩ := hw; rw [ht]; simp
    have e1 : tr B b (.ref g.2.length) = .ref (B.2 (g.2.length - 1)) := by show Value.ref (ad B b _) = _; unfold ad; rw [if_neg (by omega)]
    have hneg : ¬ z < 0 := fun q => Int32.lt_irrefl (Int32.lt_of_lt_of_le q hzz)
    cases t with
    | int =>
      refine va_newa (D := D) (a0 := (z.toNatClampNeg, .inl fun _ => 0)) hx hb (hts _ (sp_at (j := 7) rfl)) (ty := .int) rfl hK hw.2.1 (hw.D) hS hAll (fun cA => rfl) hneg rfl (by show z.toNatClampNeg * 4 ≤ _; omega) (by omega) (by omega) hd fun q cA H1 hK1 hP1 hD1 hS1 => W_sz fun hz => ?_
      obtain rfl := tys_name (t := 0) hK hK1 rfl
      have hq : q = B.2 (g.2.length - 1) := new_q (xs := xs) (Ln := Ln) hc hlen hP1 hD1 hz (by omega)
      subst hq
      have h3 := h H1 locs ls hl (hw.push hc (x := atNew .int z.toNatClampNeg) hP1) hS1 (fun e9 => ⟨by show s.heap.size + (u.1 + 1) = B.1 + ((g.2 ++ [_]).length - 1); rw [List.length_append]; simp; omega, hc⟩) hb1 hb2 hz0
      have hu1 : ∀ a c : Nat, uc ge (a, c) g.1 = a ∧ us ge (a, c) g.1 = c := fun a c => by unfold uc us; rw [hge, hfz]; omega
      rw [List.map_cons, e1] at h3
      have h3 : W p l e R s m args below meth c H1 locs (uc ge (_, _) g.1) (us ge (_, _) g.1) QQ _ := h3
      rw [(hu1 _ _).1, (hu1 _ _).2] at h3
      exact h3
    | long =>
      refine va_newa (D := D) (a0 := (z.toNatClampNeg, .inr (.inl fun _ => 0))) hx hb (hts _ (sp_at (j := 8) rfl)) (ty := .long) rfl hK hw.2.1 (hw.D) hS hAll (fun cA => rfl) hneg rfl (by show z.toNatClampNeg * 8 ≤ _; omega) (by omega) (by omega) hd fun q cA H1 hK1 hP1 hD1 hS1 => W_sz fun hz => ?_
      obtain rfl := tys_name (t := 1) hK hK1 rfl
      have hq : q = B.2 (g.2.length - 1) := new_q (xs := xs) (Ln := Ln) hc hlen hP1 hD1 hz (by omega)
      subst hq
      have h3 := h H1 locs ls hl (hw.push hc (x := atNew .long z.toNatClampNeg) hP1) hS1 (fun e9 => ⟨by show s.heap.size + (u.1 + 1) = B.1 + ((g.2 ++ [_]).length - 1); rw [List.length_append]; simp; omega, hc⟩) hb1 hb2 hz0
      have hu1 : ∀ a c : Nat, uc ge (a, c) g.1 = a ∧ us ge (a, c) g.1 = c := fun a c => by unfold uc us; rw [hge, hfz]; omega
      rw [List.map_cons, e1] at h3
      have h3 : W p l e R s m args below meth c H1 locs (uc ge (_, _) g.1) (us ge (_, _) g.1) QQ _ := h3
      rw [(hu1 _ _).1, (hu1 _ _).2] at h3
      exact h3
    | _ => exact absurd ht (by simp [atTag])
  | anewarray x =>
    obtain rfl : n = 3 := hn rfl
    obtain ⟨z, r, he0, hfz, hzz, hzn, hb1, hb2, h8⟩ := pI_ex h
    clear h
    subst he0
    have h := h8
    clear h8
    intro H locs ls hl hw hS hE h1 h2 hz0
    have hge := hz0.2 hfz
    have hc := (hE hfz).2
    have hE1 := (hE hfz).1
    have hsq : u.1 + 1 ≤ R.cells ∧ u.2 + z.toNatClampNeg ≤ R.slots := by omega
    have hu0 : uc ge u g.1 = u.1 ∧ us ge u g.1 = u.2 := by unfold uc us; rw [hge, hfz]; omega
    rw [hu0.1, hu0.2]
    have hlen : 0 < g.2.length := by obtain ⟨⟨tl, ht⟩, -⟩ := hw; rw [ht]; simp
    have e1 : tr B b (.ref g.2.length) = .ref (B.2 (g.2.length - 1)) := by show Value.ref (ad B b _) = _; unfold ad; rw [if_neg (by omega)]
    have hneg : ¬ z < 0 := fun q => Int32.lt_irrefl (Int32.lt_of_lt_of_le q hzz)
    simp only [okB, Bool.and_eq_true] at hok
    have hm := List.contains_iff_mem.mp hok.2
    have hcl := algT_in _ hm
    rcases al_bnd _ hm with e9 | e9
    · obtain rfl : a9 = 3 := e9
      refine va_newq (D := D) (C := "RuneBands$Stone") hx hb hown (hts _ hcl) hSF.2.2.1 hK hw.2.1 (hw.D) hS hAll hneg rfl (by omega) (by omega) (by omega) hd fun q cA H1 hK1 hP1 hD1 hS1 => W_sz fun hz => ?_
      obtain rfl := tys_name (t := 3) hK hK1 rfl
      have hq : q = B.2 (g.2.length - 1) := new_q (xs := xs) (Ln := Ln) hc hlen hP1 hD1 hz (by omega)
      subst hq
      have h3 := h H1 locs ls hl (hw.push hc (x := .inl (3, z.toNatClampNeg, .inr (.inr (.inr (.inr fun _ => none))))) hP1) hS1 (fun e9 => ⟨by show s.heap.size + (u.1 + 1) = B.1 + ((g.2 ++ [_]).length - 1); rw [List.length_append]; simp; omega, hc⟩) hb1 hb2 hz0
      have hu1 : ∀ a c : Nat, uc ge (a, c) g.1 = a ∧ us ge (a, c) g.1 = c := fun a c => by unfold uc us; rw [hge, hfz]; omega
      rw [List.map_cons, e1] at h3
      have h3 : W p l e R s m args below meth c H1 locs (uc ge (_, _) g.1) (us ge (_, _) g.1) QQ _ := h3
      rw [(hu1 _ _).1, (hu1 _ _).2] at h3
      exact h3
    · obtain rfl : a9 = 4 := e9
      refine va_newq (D := D) (C := "RuneBands$Words") hx hb hown (hts _ hcl) hSF.2.2.2 hK hw.2.1 (hw.D) hS hAll hneg rfl (by omega) (by omega) (by omega) hd fun q cA H1 hK1 hP1 hD1 hS1 => W_sz fun hz => ?_
      obtain rfl := tys_name (t := 4) hK hK1 rfl
      have hq : q = B.2 (g.2.length - 1) := new_q (xs := xs) (Ln := Ln) hc hlen hP1 hD1 hz (by omega)
      subst hq
      have h3 := h H1 locs ls hl (hw.push hc (x := .inl (4, z.toNatClampNeg, .inr (.inr (.inr (.inr fun _ => none))))) hP1) hS1 (fun e9 => ⟨by show s.heap.size + (u.1 + 1) = B.1 + ((g.2 ++ [_]).length - 1); rw [List.length_append]; simp; omega, hc⟩) hb1 hb2 hz0
      have hu1 : ∀ a c : Nat, uc ge (a, c) g.1 = a ∧ us ge (a, c) g.1 = c := fun a c => by unfold uc us; rw [hge, hfz]; omega
      rw [List.map_cons, e1] at h3
      have h3 : W p l e R s m args below meth c H1 locs (uc ge (_, _) g.1) (us ge (_, _) g.1) QQ _ := h3
      rw [(hu1 _ _).1, (hu1 _ _).2] at h3
      exact h3
  | _ => first | exact False.elim h | exact absurd hg (by simp [grp])
/-- what the end of a method asks of its surroundings -/
abbrev HRet (k ge : Nat) (p : Program) (l : Launch) (e : Env) (R : Room) (s : State) (m : MethodId) (args : Array Value) (below : List Frame) (meth : Method) (c : Code) (D : va_G) (ca : Nat → ClassId) (B : AM) (b Ln : Nat) (xs : Nat → Int32) (QQ : State → Prop) (Q : Post) : Prop :=
  ∀ (v : Option Value) (pc : Nat) (ls : Array Slot) (g : Gp) (H : Heap) (locs : List Loc) (u : Nat × Nat), Q (.inl v) g → rOk (rk k) v → decode (mB k) pc = .ok (rI v, 1) → WD D ca B b Ln xs g H → va_S (AB B.1) s.heap H locs → Cg B g (s.heap.size + u.1) → u.1 ≤ bc k → u.2 ≤ bs k → Mk ge g.1 →
    W p l e R s m args below meth c H locs (uc ge u g.1) (us ge u g.1) QQ (F0 m pc ls (v.toList.map (tr B b)))
/-- the same of a method that gives a row back -/
abbrev HRet6 (k ge : Nat) (p : Program) (l : Launch) (e : Env) (R : Room) (s : State) (m : MethodId) (args : Array Value) (below : List Frame) (meth : Method) (c : Code) (D : va_G) (ca : Nat → ClassId) (B : AM) (b Ln : Nat) (xs : Nat → Int32) (QQ : State → Prop) (Q : Post) : Prop :=
  ∀ (x : Int32) (pc : Nat) (ls : Array Slot) (g : Gp) (H : Heap) (locs : List Loc) (u : Nat × Nat), rk k = 6 → (x = 0 ∨ x = 1) → 0 < g.1 → 59 ≤ g.2.length → clo 59 (g.2.take 59) → Q (.inl (some (.int x))) (g.1, g.2.take 59) → decode (mB k) pc = .ok (.ireturn, 1) → WD D ca B b Ln xs g H → va_S (AB B.1) s.heap H locs → u.1 ≤ bc k → u.2 ≤ bs k → Mk ge g.1 →
    W p l e R s m args below meth c H locs (uc ge u g.1) (us ge u g.1) QQ (F0 m pc ls [.int x])
theorem xs_ret {i : Instr} (hret : HRet k ge p l e R s m args below meth c D ca B b Ln xs QQ Q) (hret6 : HRet6 k ge p l e R s m args below meth c D ca B b Ln xs QQ Q) (hd : decode (mB k) pc = .ok (i, n)) (hn : isTS i = false → n = ilen i) (hg : grp i = 4) (h : st1 C k Q (XS k ge p l e R s m args below meth c D ca B b Ln xs QQ) pc i n a9 b9 c9 L st u g) : XS k ge p l e R s m args below meth c D ca B b Ln xs QQ pc L st u g := by
  cases i with
  | ireturn =>
    obtain rfl : n = 1 := hn rfl
    obtain ⟨x, r, he0, he1, h8⟩ := pI_ex h
    clear h
    subst he0
    subst he1
    intro H locs ls hl hw hS hE h1 h2 hz0
    rcases h8 with ⟨hr, h⟩ | ⟨r6, r01, r0, r59, rc, h⟩
    · exact hret (some (.int x)) pc ls g H locs u h hr hd hw hS hE h1 h2 hz0
    · exact hret6 x pc ls g H locs u r6 r01 r0 r59 rc h hd hw hS h1 h2 hz0
  | lreturn =>
    obtain rfl : n = 1 := hn rfl
    obtain ⟨x, r, he0, he1, hr, h8⟩ := pJ_ex h
    clear h
    subst he0
    subst he1
    have h := h8
    clear h8
    intro H locs ls hl hw hS hE h1 h2 hz0
    exact hret (some (.long x)) pc ls g H locs u h hr hd hw hS hE h1 h2 hz0
  | dreturn =>
    obtain rfl : n = 1 := hn rfl
    obtain ⟨x, r, he0, he1, hr, h8⟩ := pD_ex h
    clear h
    subst he0
    subst he1
    have h := h8
    clear h8
    intro H locs ls hl hw hS hE h1 h2 hz0
    exact hret (some (.double x)) pc ls g H locs u h hr hd hw hS hE h1 h2 hz0
  | areturn =>
    obtain rfl : n = 1 := hn rfl
    obtain ⟨v, r, he0, he1, hr, hv, h8⟩ := pV_ex h
    clear h
    subst he0
    subst he1
    have h := h8
    clear h8
    intro H locs ls hl hw hS hE h1 h2 hz0
    rcases hv with rfl | ⟨x, rfl⟩
    · exact hret (some .null) pc ls g H locs u h hr hd hw hS hE h1 h2 hz0
    · exact hret (some (.ref x)) pc ls g H locs u h hr hd hw hS hE h1 h2 hz0
  | return_ =>
    obtain rfl : n = 1 := hn rfl
    obtain ⟨rfl, hr, h⟩ := h
    intro H locs ls hl hw hS hE h1 h2 hz0
    exact hret none pc ls g H locs u h hr hd hw hS hE h1 h2 hz0
  | _ => first | exact False.elim h | exact absurd hg (by simp [grp])
end SND3
end
section
/-! ===== from the interpreter to the machine, 6: the calls, the contracts by depth (by program, wip/whole/gsn4.py) ===== -/
def exn (e : Nat) : String := ["java/lang/IllegalArgumentException", "java/lang/IndexOutOfBoundsException", "java/lang/IllegalStateException"].getD e ""
def stT : List (Nat × String) := [(71, "a side is out of range"), (92, "no such cell"), (98, "not the byte of a cell"), (137, "the text is no word that can be added"), (147, "no such word"), (160, "nothing is told by this number"), (169, "no such word or letter"), (177, "no such gate"), (185, "no such gate, or the band is shorter"), (190, "no such gate or byte"), (207, "so many choices cannot be asked for"), (222, "an index is not negative"), (250, "not a byte of a text"), (253, "the text is full"), (267, "no state is saved")]
def CW : List Cond := [.castable (exn 0) (exn 0), .castable (exn 1) (exn 1), .castable (exn 2) (exn 2), .declares ⟨"java/lang/RuntimeException", "<init>", "(Ljava/lang/String;)V"⟩, .declares ⟨"java/lang/Exception", "<init>", "(Ljava/lang/String;)V"⟩, .declares ⟨"java/lang/Throwable", "<init>", "(Ljava/lang/String;)V"⟩]
def EXF (B : Nat) (U : State) : Prop := vx_Zq Bundle.tN "UNASSIGNED_STACK" Bundle.steD (AB B) U U.heap ∧ vx_Zq Bundle.tN "SUPPRESSED_SENTINEL" Bundle.listD (AB B) U U.heap ∧
  (∀ w ∈ CW, va_Nw w U) ∧ (∀ q ∈ stT, ∃ sa, vk_R RX8 q.1 q.2 sa U) ∧ va_Nc (exn 0) (exn 1) U ∧ va_Nc (exn 2) (exn 0) U
def EN (D : va_G) (ca : Nat → ClassId) (B : AM) (b Ln : Nat) (xs : Nat → Int32) (g : Gp) (U : State) : Prop :=
  SF D ca U ∧ EXF B.1 U ∧ b < B.1 ∧ B.1 ≤ U.heap.size ∧ va_X b Ln xs U U.heap ∧ WD D ca B b Ln xs g U.heap ∧ Cg B g U.heap.size
theorem fln_c : ∀ q ∈ flnT, q.2.2.2.2 = 1 := by decide +kernel
theorem mln_c : ∀ q ∈ mlnT, q.2.2.2.2 = 1 ∨ q.2.2.2.2 = 3 ∨ q.2.2.2.2 = 5 := by decide +kernel
theorem NW_form : ∀ w ∈ NW, (∃ a i r n d h, w = .fieldLinkNest a i r n d h) ∨ (∃ a i x h, w = .methodLinkNest a i x h) := by
  intro w hw
  rcases List.mem_append.mp hw with h | h
  · obtain ⟨q, hq, rfl⟩ := List.mem_map.mp h
    have hc := fln_c q hq
    obtain ⟨o, i, a, b, c⟩ := q
    obtain rfl : c = 1 := hc
    exact Or.inl ⟨_, _, _, _, _, _, rfl⟩
  · obtain ⟨q, hq, rfl⟩ := List.mem_map.mp h
    have hc := mln_c q hq
    obtain ⟨o, i, a, b, c⟩ := q
    rcases hc with hc | hc | hc
    · obtain rfl : c = 1 := hc
      exact Or.inr ⟨_, _, _, _, rfl⟩
    · obtain rfl : c = 3 := hc
      exact Or.inr ⟨_, _, _, _, rfl⟩
    · obtain rfl : c = 5 := hc
      exact Or.inr ⟨_, _, _, _, rfl⟩
theorem SF.warm {D : va_G} {ca : Nat → ClassId} {s U : State} (hW : s.WarmedH U.vm) (h : SF D ca s) : SF D ca U := by
  refine ⟨va_K.moved hW.alike h.1, fun w hw => ?_, h.2.2.1.moved hW.alike, h.2.2.2.moved hW.alike⟩
  have h1 := h.2.1 w hw
  rcases NW_form w hw with ⟨a, i, r, n, d, hh, rfl⟩ | ⟨a, i, x, hh, rfl⟩
  · exact va_Nw.warmF hW h1
  · exact va_Nw.warmM hW h1
theorem EXF.warm {B : Nat} {s U : State} (hW : s.WarmedH U.vm) (hH : ∀ q : Nat, q < s.heap.size → ¬ AB B q → U.heap[q]? = s.heap[q]?) (h : EXF B s) : EXF B U := by
  obtain ⟨h1, h2, h3, h4, h5, h6⟩ := h
  refine ⟨(vx_Zq.moved hW.alike h1).kept hH, (vx_Zq.moved hW.alike h2).kept hH, fun w hw => ?_, fun q hq => ?_, h5.moved hW.alike, h6.moved hW.alike⟩
  · have h9 := h3 w hw
    simp only [CW, List.mem_cons, List.not_mem_nil, or_false] at hw
    rcases hw with rfl | rfl | rfl | rfl | rfl | rfl <;> first | exact va_Nw.warmC hW h9 | exact va_Nw.warmD hW h9
  · obtain ⟨sa, hs⟩ := h4 q hq
    exact ⟨sa, vk_R.warm hW hs⟩
/-- what holds at a call's entry: from what the caller's frame knows -/
theorem EN.of {D : va_G} {ca : Nat → ClassId} {B : AM} {b Ln : Nat} {xs : Nat → Int32} {g : Gp} {s U : State} {locs : List Loc} (hSF : SF D ca s) (hEX : EXF B.1 s) (hbB : b < B.1) (hBs : B.1 ≤ s.heap.size) (hX : va_X b Ln xs s s.heap) (hW : s.WarmedH U.vm) (hS : va_S (AB B.1) s.heap U.heap locs) (hw : WD D ca B b Ln xs g U.heap) (hE : Cg B g U.heap.size) : EN D ca B b Ln xs g U :=
  ⟨hSF.warm hW, hEX.warm hW hS.2.1, hbB, Nat.le_trans hBs hS.1, (va_X.moved hW.alike hX).kept (hS.2.1 b (Nat.lt_of_lt_of_le hbB hBs) (Nat.not_le.mpr hbB)), hw, hE⟩
theorem EN.blind {D : va_G} {ca : Nat → ClassId} {B : AM} {b Ln : Nat} {xs : Nat → Int32} {g : Gp} {U : State} {fr : JFrame} {mk : MethodId} {a : Array Value} (h : EN D ca B b Ln xs g U) : EN D ca B b Ln xs g (U.calling fr mk a) := by
  obtain ⟨h1, h2, h3, h4, h5, h6, h7⟩ := h
  have hW : U.WarmedH (U.calling fr mk a).vm := State.WarmedH.refl U
  exact ⟨h1.warm hW, h2.warm hW fun _ _ _ => rfl, h3, h4, va_X.moved (Vm.Alike.refl U.vm) h5, h6, h7⟩
def PcM (D : va_G) (ca : Nat → ClassId) (B : AM) (b Ln : Nat) (xs : Nat → Int32) (vs : List Value) (g : Gp) : Array Value → State → Prop := fun v U => v = (vs.map (tr B b)).toArray ∧ EN D ca B b Ln xs g U
def QcM (D : va_G) (ca : Nat → ClassId) (B : AM) (b Ln : Nat) (xs : Nat → Int32) (Q : Post) : Array Value → State → Outcome → State → Prop := fun _ st o t => (∃ (v : Option Value) (g : Gp), o = .returned (v.map (tr B b)) ∧ Q (.inl v) g ∧ WD D ca B b Ln xs g t.heap) ∧ va_F (AB B.1) st t
def XcM (D : va_G) (ca : Nat → ClassId) (B : AM) (b Ln : Nat) (xs : Nat → Int32) (Q : Post) : String → State → State → Prop := fun E st t => (∃ (e : Nat) (g : Gp), E = exn e ∧ Q (.inr e) g ∧ WD D ca B b Ln xs g t.heap) ∧ va_F (AB B.1) st t
def wsM (y : Nat) : List Cond := kwd y :: GW
def rmM (y d w : Nat) : Room := { frames := d + 8, cells := bc y + w, slots := bs y + 6 * w, locals := d * 64 + 200 }
abbrev HCal (l : Launch) (C : CT) (d : Nat) : Prop := ∀ (y : Nat), y < 202 → ∀ (vs : List Value) (g : Gp) (w : Nat) (Q : Post), (w = 0 ∨ w < g.1) → (∀ o g', Q o g' → g.1 ≤ g'.1 + w ∧ g'.1 ≤ g.1) → C y vs g Q → ∀ (D : va_G) (ca : Nat → ClassId) (B : AM) (b Ln : Nat) (xs : Nat → Int32),
  vx_Met l (mN y) (wsM y) (rmM y d w) (PcM D ca B b Ln xs vs g) (QcM D ca B b Ln xs Q) (XcM D ca B b Ln xs Q) (bc y + w) (bs y + 6 * w) (AB B.1)
theorem kod_all : ∀ y ∈ List.range 202, y ∈ kodT := by decide +kernel
theorem mxl_all : ∀ y ∈ List.range 202, mxl y ≤ 40 := by decide +kernel
theorem GW_good : ∀ w ∈ GW, goodWord w = true := fun w hw => (List.mem_filter.mp hw).2
theorem GW_in {y : Nat} (hy : y < 202) : GoodIn GW (wsM y) := by
  intro w hw
  have h1 : w ∈ GW := (List.mem_cons.mp hw).elim (fun e => e ▸ kodT_in y (kod_all y (List.mem_range.mpr hy))) id
  exact ⟨h1, good_of_word (GW_good w h1)⟩
theorem wsM_code {y : Nat} (h : hhs y = []) : wsM y = Cond.code (mN y) (mB y) (mxl y) (mR y) :: GW := by unfold wsM kwd; rw [if_pos h]
theorem wsM_with {y : Nat} (h : hhs y ≠ []) : wsM y = Cond.codeWith (mN y) (mB y) (mxl y) (mR y) (hhs y) :: GW := by unfold wsM kwd; rw [if_neg h]
theorem mok_at {y : Nat} (hy : y < 203) : plainName (mN y).cls = true ∧ (mN y).cls ≠ "java/lang/invoke/MethodHandle" ∧ (mN y).cls ≠ "java/lang/invoke/VarHandle" ∧ (mN y).cls = Rn (own y) := by
  have h := mok_all y (List.mem_range.mpr hy)
  simp only [mokB, Bool.and_eq_true, decide_eq_true_eq] at h
  exact ⟨h.1.1.1.1, h.1.1.1.2, h.1.1.2, h.1.2⟩
theorem own_lt : ∀ y ∈ List.range 203, own y < 14 := by decide +kernel
theorem sel_own : ∀ y ∈ selT, own y < 9 := by decide +kernel
theorem mR_none : ∀ y ∈ List.range 202, rk y = 0 → mR y = none := by decide +kernel
theorem tg_sub {m w : Nat} (h : w = 0 ∨ w < m) : tgm (m - w) = tgm m - w ∧ w ≤ tgm m := by
  unfold tgm
  rcases h with rfl | h
  · simp
  · rw [if_neg (by omega), if_neg (by omega)]
    omega
section SND4
variable {k ge w : Nat} {p : Program} {l : Launch} {e : Env} {R : Room} {s : State} {m : MethodId} {args : Array Value} {below : List Frame} {meth : Method} {c : Code} {D : va_G} {ca : Nat → ClassId} {B : AM} {b Ln : Nat} {xs : Nat → Int32} {d : Nat} {QQ : State → Prop}
variable {C : CT} {Q : Post} {pc n a9 b9 c9 : Nat} {L : Lc} {st : List Value} {u : Nat × Nat} {g : Gp}

/-- a call that has run: by the callee's end -/
theorem my_call {Qp : Post} {locs : List Loc} {H : Heap} {ls : Array Slot} {st0 rest : List Value} {pc mc mz cells slots : Nat} {QS : State → Prop} {av : Array Value}
    (hr : vx_Run p l e R s m args below meth c H locs cells slots mc mz (F0 m pc ls st0) rest (QcM D ca B b Ln xs Qp av) (XcM D ca B b Ln xs Qp) (AB B.1)) (hS : va_S (AB B.1) s.heap H locs)
    (kx : ∀ (e9 : Nat) (g2 : Gp) (H1 : Heap) (locs1 : List Loc) (q : Addr) (ce : Cell), Qp (.inr e9) g2 → WD D ca B b Ln xs g2 H1 → va_S (AB B.1) s.heap H1 locs1 → H1[q]? = some ce → ce.vm = .none → s.vm.findClass (exn e9) = some ce.cls → vx_W p l e R s m args below meth c H1 locs1 (cells + mc) (slots + mz) QS (F0 m pc ls rest) q)
    (kk : ∀ (v : Option Value) (g2 : Gp) (H1 : Heap) (locs1 : List Loc), Qp (.inl v) g2 → WD D ca B b Ln xs g2 H1 → va_S (AB B.1) s.heap H1 locs1 → W p l e R s m args below meth c H1 locs1 (cells + mc) (slots + mz) QS (F0 m (pc + 3) ls ((v.map (tr B b)).toList ++ rest))) :
    W p l e R s m args below meth c H locs cells slots QS (F0 m pc ls st0) := by
  intro T hT X
  rcases hr T hT X with ⟨v, st₀, t, T', L, h0, X', hL, e1, e2, ⟨⟨v', g2, hv, hq, hw⟩, hF⟩, st⟩ | ⟨q, st₀, t, T', L, E, ce, h0, X', hL, e1, e2, ⟨⟨e9, g2, hE, hq, hw⟩, hF⟩, hce, hcv, hcl, st⟩
  · obtain rfl : v = v'.map (tr B b) := by injection hv
    obtain ⟨k1, k2, k3⟩ := vx_keep h0 e1 hS (fun _ _ h => h) (fun _ h => h) hL hF
    obtain ⟨t2, a1, b1⟩ := kk v' g2 T'.heap (locs ++ L) hq (by rw [e1]; exact hw) k3 T' rfl X'
    exact ⟨t2, st t2 a1, b1⟩
  · subst hE
    obtain ⟨k1, k2, k3⟩ := vx_keep h0 e1 hS (fun _ _ h => h) (fun _ h => h) hL hF
    obtain ⟨t2, a1, b1⟩ := kx e9 g2 T'.heap (locs ++ L) q ce hq (by rw [e1]; exact hw) k3 (by rw [e1]; exact hce) hcv hcl T' rfl X'
    exact ⟨t2, st.trans a1, b1⟩
abbrev HExc (k ge : Nat) (p : Program) (l : Launch) (e : Env) (R : Room) (s : State) (m : MethodId) (args : Array Value) (below : List Frame) (meth : Method) (c : Code) (D : va_G) (ca : Nat → ClassId) (B : AM) (b Ln : Nat) (xs : Nat → Int32) (QQ : State → Prop) (Q : Post) : Prop :=
  ∀ (pc : Nat) (i : Instr) (n a9 b9 c9 : Nat) (ks : List Nat), cd k pc = some (i, n, a9, b9, c9, ks) → grp i = 3 → ∀ (e9 : Nat) (r9 : Int32), hnd k e9 = some r9 →
    ∀ (g : Gp) (H : Heap) (locs : List Loc) (L : Lc) (ls : Array Slot) (rest : List Value) (q : Addr) (ce : Cell) (u : Nat × Nat), Q (.inl (some (.int r9))) g → LH B b ls (mxl k) L → WD D ca B b Ln xs g H → va_S (AB B.1) s.heap H locs → Cg B g (s.heap.size + u.1) → u.1 ≤ bc k → u.2 ≤ bs k → Mk ge g.1 →
      H[q]? = some ce → ce.vm = .none → s.vm.findClass (exn e9) = some ce.cls → vx_W p l e R s m args below meth c H locs (uc ge u g.1) (us ge u g.1) QQ (F0 m pc ls rest) q
theorem cat_sum (r : List Value) : (r.map fun v => v.category).sum ≤ 2 * r.length := by
  induction r with
  | nil => simp
  | cons v t ih =>
    have : v.category ≤ 2 := by cases v <;> simp [Value.category]
    simp only [List.map_cons, List.sum_cons, List.length_cons]
    omega
theorem cat_tr (r : List Value) (B : AM) (b : Nat) : (((r.map (tr B b)).map fun v => v.category).sum) = (r.map fun v => v.category).sum := by
  rw [List.map_map]
  congr 1
  exact List.map_congr_left fun v _ => tr_cat B b v
set_option maxHeartbeats 8000000 in
theorem xs_call {i : Instr} {ks : List Nat} (F : FrC k w p R s m args meth c D ca B b Ln xs (d + 1)) (hEX : EXF B.1 s) (hC : HCal l C d) (hNe : ∀ y vs g R, C y vs g R → ∃ o g', R o g') (hcQ : ∀ o g', Q o g' → tgm ge ≤ tgm g'.1 + w) (hex : HExc k ge p l e R s m args below meth c D ca B b Ln xs QQ Q) (hcd : cd k pc = some (i, n, a9, b9, c9, ks)) (hok : okB k (pc, i, n, a9, b9, c9, ks) = true) (hd : decode (mB k) pc = .ok (i, n)) (hn : isTS i = false → n = ilen i) (hg : grp i = 3) (h : st1 C k Q (fun pc L st u g => tgm ge ≤ tgm g.1 + w ∧ XS k ge p l e R s m args below meth c D ca B b Ln xs QQ pc L st u g) pc i n a9 b9 c9 L st u g) : XS k ge p l e R s m args below meth c D ca B b Ln xs QQ pc L st u g := by
  obtain ⟨hx, hb, hml, hown, hts, hSF, hbB, hBs, hX, hR1, hR2, hR3, hR4, hnm⟩ := F
  have hK := hSF.1
  obtain ⟨x, h3⟩ : ∃ x, i = .invokevirtual x ∨ i = .invokestatic x ∨ i = .invokespecial x := by
    cases i <;> first | exact ⟨_, Or.inl rfl⟩ | exact ⟨_, Or.inr (Or.inl rfl)⟩ | exact ⟨_, Or.inr (Or.inr rfl)⟩ | exact absurd hg (by simp [grp])
  have hn3 : n = 3 := by
    rcases h3 with rfl | rfl | rfl <;> exact hn rfl
  subst hn3
  have hh : if c9 = 6 then pR st fun _ r => r.length ≤ 4 ∧ tgm ge ≤ tgm g.1 + w ∧ XS k ge p l e R s m args below meth c D ca B b Ln xs QQ (pc + 3) L r u g
      else if c9 = 8 then pI st fun y r => pI r fun x r => r.length ≤ 4 ∧ tgm ge ≤ tgm g.1 + w ∧ XS k ge p l e R s m args below meth c D ca B b Ln xs QQ (pc + 3) L (.int (if x < y then y else x) :: r) u g
      else if c9 = 9 then pI st fun y r => pI r fun x r => r.length ≤ 4 ∧ tgm ge ≤ tgm g.1 + w ∧ XS k ge p l e R s m args below meth c D ca B b Ln xs QQ (pc + 3) L (.int (if y < x then y else x) :: r) u g else
      b9 ≤ st.length ∧ (st.drop b9).length ≤ 4 ∧ u.1 + bc a9 ≤ bc k ∧ u.2 + bs a9 ≤ bs k ∧ rcK c9 a9 g (st.take b9).reverse ∧
        ∃ w9 : Nat, (w9 = 0 ∨ w9 < g.1) ∧ C a9 (st.take b9).reverse g fun o g' => (g.1 ≤ g'.1 + w9 ∧ g'.1 ≤ g.1) ∧ (g'.1 = 0 → g.1 = 0 ∧ g'.2.length = g.2.length + bc a9) ∧ match o with
          | .inl none => tgm ge ≤ tgm (g.1 - w9) + w ∧ XS k ge p l e R s m args below meth c D ca B b Ln xs QQ (pc + 3) L (st.drop b9) (u.1 + bc a9, u.2 + bs a9) (g.1 - w9, g'.2)
          | .inl (some v) => tgm ge ≤ tgm (g.1 - w9) + w ∧ XS k ge p l e R s m args below meth c D ca B b Ln xs QQ (pc + 3) L (v :: st.drop b9) (u.1 + bc a9, u.2 + bs a9) (g.1 - w9, g'.2)
          | .inr e => match hnd k e with
            | some r => Q (.inl (some (.int r))) (g.1 - w9, g'.2)
            | none => False := by
    rcases h3 with rfl | rfl | rfl <;> exact h
  clear h
  have h := hh
  clear hh
  intro H locs ls hl hw hS hE h1 h2 hz0
  by_cases c6 : c9 = 6
  · rw [if_pos c6] at h
    subst c6
    obtain ⟨o, r, he0, hr4, h8⟩ := pR_ex h
    clear h
    subst he0
    have h := h8
    clear h8
    have hi : i = .invokespecial x ∧ mlgT.contains (own k, x, a9, b9, 6) = true := by
      rcases h3 with rfl | rfl | rfl
      · simp [okB] at hok
      · simp [okB] at hok
      · simp only [okB, Bool.and_eq_true] at hok
        exact ⟨rfl, hok.2⟩
    obtain ⟨rfl, hm⟩ := hi
    have hm := List.contains_iff_mem.mp hm
    have hlk : Cond.methodLink (Rn (own k)) x Lib.objectInit ∈ GW := mlgT_in _ hm
    refine W.objInit (g := F0 m pc ls (.ref (ad B b o) :: r.map (tr B b))) hx hb hown (hts _ hlk) (hts _ (sp_at (j := 0) rfl)) (hts _ (sp_at (j := 1) rfl)) rfl (by rw [hml]; exact hl.1) rfl hd (by omega) ?_ (h.2 H locs ls hl hw hS hE h1 h2 hz0)
    show 2 * 0 + ((r.map (tr B b)).map fun v => v.category).sum + 12 ≤ R.locals
    rw [cat_tr]
    have := cat_sum r
    omega
  rw [if_neg c6] at h
  by_cases c8 : c9 = 8
  · rw [if_pos c8] at h
    subst c8
    obtain ⟨y, r, he0, h8⟩ := pI_ex h
    clear h
    subst he0
    have h := h8
    clear h8
    obtain ⟨z, r, he0, hr4, h8⟩ := pI_ex h
    clear h
    subst he0
    have h := h8
    clear h8
    have hi : i = .invokestatic x ∧ mlgT.contains (own k, x, a9, b9, 8) = true := by
      rcases h3 with rfl | rfl | rfl
      · simp [okB] at hok
      · simp only [okB, Bool.and_eq_true] at hok
        exact ⟨rfl, hok.2⟩
      · simp [okB] at hok
    obtain ⟨rfl, hm⟩ := hi
    have hm := List.contains_iff_mem.mp hm
    have hlk : Cond.methodLink (Rn (own k)) x Lib.Math.max.name ∈ GW := mlgT_in _ hm
    refine va_mmax hx hb (by rw [hml]; exact hl.1.symm) hown (hts _ hlk) (hts _ (sp_at (j := 2) rfl)) (hts _ (sp_at (j := 4) rfl)) (hts _ (sp_at (j := 5) rfl)) (by omega) ?_ (by have := h.1; unfold uc; have := hz0.1; omega) (by have := h.1; unfold us; have := hz0.1; omega) hd (h.2 H locs ls hl hw hS hE h1 h2 hz0)
    show ((r.map (tr B b)).map fun v => v.category).sum + 13 ≤ R.locals
    rw [cat_tr]
    have := cat_sum r
    omega
  rw [if_neg c8] at h
  by_cases c10 : c9 = 9
  · rw [if_pos c10] at h
    subst c10
    obtain ⟨y, r, he0, h8⟩ := pI_ex h
    clear h
    subst he0
    have h := h8
    clear h8
    obtain ⟨z, r, he0, hr4, h8⟩ := pI_ex h
    clear h
    subst he0
    have h := h8
    clear h8
    have hi : i = .invokestatic x ∧ mlgT.contains (own k, x, a9, b9, 9) = true := by
      rcases h3 with rfl | rfl | rfl
      · simp [okB] at hok
      · simp only [okB, Bool.and_eq_true] at hok
        exact ⟨rfl, hok.2⟩
      · simp [okB] at hok
    obtain ⟨rfl, hm⟩ := hi
    have hm := List.contains_iff_mem.mp hm
    have hlk : Cond.methodLink (Rn (own k)) x Lib.Math.min.name ∈ GW := mlgT_in _ hm
    refine va_mmin hx hb (by rw [hml]; exact hl.1.symm) hown (hts _ hlk) (hts _ (sp_at (j := 3) rfl)) (hts _ (sp_at (j := 4) rfl)) (hts _ (sp_at (j := 6) rfl)) (by omega) ?_ (by have := h.1; unfold uc; have := hz0.1; omega) (by have := h.1; unfold us; have := hz0.1; omega) hd (h.2 H locs ls hl hw hS hE h1 h2 hz0)
    show ((r.map (tr B b)).map fun v => v.category).sum + 13 ≤ R.locals
    rw [cat_tr]
    have := cat_sum r
    omega
  rw [if_neg c10] at h
  obtain ⟨hbl, hr4, hb1, hb2, hrc, w9, hw9, hcal⟩ := h
  have htw : tgm (g.1 - w9) = tgm g.1 - w9 ∧ w9 ≤ tgm g.1 := tg_sub hw9
  have hcj : tgm ge ≤ tgm (g.1 - w9) + w := by
    obtain ⟨o, g', -, -, h8⟩ := hNe _ _ _ _ hcal
    cases o with
    | inl v => cases v with
      | none => exact h8.1
      | some v => exact h8.1
    | inr e =>
      dsimp only at h8
      split at h8
      · exact hcQ _ _ h8
      · exact h8.elim
  have hmk9 : Mk ge (g.1 - w9) := ⟨by rw [htw.1]; have := hz0.1; omega, fun e9 => hz0.2 (by omega)⟩
  have huc : ∀ a b : Nat, uc ge (u.1 + a, u.2 + b) (g.1 - w9) = uc ge u g.1 + (a + w9) ∧ us ge (u.1 + a, u.2 + b) (g.1 - w9) = us ge u g.1 + (b + 6 * w9) := by
    intro a b
    have := hz0.1
    unfold uc us
    rw [htw.1]
    omega
  refine W_sz fun hz => ?_
  have hEH : Cg B g H.size := fun e9 => by
    have hlow := hw.low (Nat.le_trans hBs hS.1) (hE e9).2
    have h8 := (hE e9).1
    have hu0 : uc ge u g.1 = u.1 := by unfold uc; rw [hz0.2 e9, e9]; omega
    rw [hu0] at hz
    exact ⟨by omega, (hE e9).2⟩
  have hpos : 0 < g.2.length := by obtain ⟨⟨tl, ht⟩, -⟩ := hw; rw [ht]; simp
  have hMet0 := fun h9 => hC a9 h9 (st.take b9).reverse g w9 _ hw9 (fun o g' h8 => h8.1) hcal D ca B b Ln xs
  have hent : ∀ U : State, U.heap = H → s.WarmedH U.vm → EN D ca B b Ln xs g U := fun U hU hW => EN.of hSF hEX hbB hBs hX hW (by rw [hU]; exact hS) (by rw [hU]; exact hw) (by rw [hU]; exact hEH)
  have hbld : FrameBlind (PcM D ca B b Ln xs (st.take b9).reverse g) := fun a U fr mk hq => ⟨hq.1, hq.2.blind⟩
  have hst : st.map (tr B b) = ((st.take b9).reverse.map (tr B b)).reverse ++ (st.drop b9).map (tr B b) := by
    rw [List.map_reverse, List.reverse_reverse, ← List.map_append, List.take_append_drop]
  have hW8 : 2 * (F0 m pc ls (st.map (tr B b))).monitorRoom + (((st.drop b9).map (tr B b)).map fun v => v.category).sum ≤ 8 := by
    show 2 * 0 + _ ≤ 8
    rw [cat_tr]
    have := cat_sum (st.drop b9)
    omega
  have hfin : ∀ av : Array Value, vx_Run p l e R s m args below meth c H locs (uc ge u g.1) (us ge u g.1) (bc a9 + w9) (bs a9 + 6 * w9) (F0 m pc ls (st.map (tr B b))) ((st.drop b9).map (tr B b)) (QcM D ca B b Ln xs (fun o g' => (g.1 ≤ g'.1 + w9 ∧ g'.1 ≤ g.1) ∧ (g'.1 = 0 → g.1 = 0 ∧ g'.2.length = g.2.length + bc a9) ∧ match o with
          | .inl none => tgm ge ≤ tgm (g.1 - w9) + w ∧ XS k ge p l e R s m args below meth c D ca B b Ln xs QQ (pc + 3) L (st.drop b9) (u.1 + bc a9, u.2 + bs a9) (g.1 - w9, g'.2)
          | .inl (some v) => tgm ge ≤ tgm (g.1 - w9) + w ∧ XS k ge p l e R s m args below meth c D ca B b Ln xs QQ (pc + 3) L (v :: st.drop b9) (u.1 + bc a9, u.2 + bs a9) (g.1 - w9, g'.2)
          | .inr e => match hnd k e with
            | some r => Q (.inl (some (.int r))) (g.1 - w9, g'.2)
            | none => False) av) (XcM D ca B b Ln xs (fun o g' => (g.1 ≤ g'.1 + w9 ∧ g'.1 ≤ g.1) ∧ (g'.1 = 0 → g.1 = 0 ∧ g'.2.length = g.2.length + bc a9) ∧ match o with
          | .inl none => tgm ge ≤ tgm (g.1 - w9) + w ∧ XS k ge p l e R s m args below meth c D ca B b Ln xs QQ (pc + 3) L (st.drop b9) (u.1 + bc a9, u.2 + bs a9) (g.1 - w9, g'.2)
          | .inl (some v) => tgm ge ≤ tgm (g.1 - w9) + w ∧ XS k ge p l e R s m args below meth c D ca B b Ln xs QQ (pc + 3) L (v :: st.drop b9) (u.1 + bc a9, u.2 + bs a9) (g.1 - w9, g'.2)
          | .inr e => match hnd k e with
            | some r => Q (.inl (some (.int r))) (g.1 - w9, g'.2)
            | none => False)) (AB B.1) → W p l e R s m args below meth c H locs (uc ge u g.1) (us ge u g.1) QQ (F0 m pc ls (st.map (tr B b))) := by
    intro av hr
    have hCg : ∀ g2 : Gp, ((g.1 ≤ g2.1 + w9 ∧ g2.1 ≤ g.1) ∧ (g2.1 = 0 → g.1 = 0 ∧ g2.2.length = g.2.length + bc a9)) → Cg B (g.1 - w9, g2.2) (s.heap.size + (u.1 + bc a9)) := by
      intro g2 hq e8
      have e8 : g.1 - w9 = 0 := e8
      have e7 : g.1 = 0 := by omega
      have e6 : g2.1 = 0 := by omega
      have h6 := (hq.2 e6).2
      have h5 := hE e7
      refine ⟨?_, h5.2⟩
      show s.heap.size + (u.1 + bc a9) = B.1 + (g2.2.length - 1)
      omega
    refine my_call hr hS (fun e9 g2 H1 locs1 q ce hq hw1 hS1 hce hcv hcl => ?_) (fun v g2 H1 locs1 hq hw1 hS1 => ?_)
    · obtain ⟨hq0, hq1, hq2⟩ := hq
      dsimp only at hq2
      split at hq2
      · rename_i r9 hr9
        have h9 := hex pc i 3 a9 b9 c9 ks hcd hg e9 r9 hr9 (g.1 - w9, g2.2) H1 locs1 L ls ((st.drop b9).map (tr B b)) q ce (u.1 + bc a9, u.2 + bs a9) hq2 hl hw1 hS1 (hCg g2 ⟨hq0, hq1⟩) hb1 hb2 hmk9 hce hcv hcl
        have h9 : vx_W p l e R s m args below meth c H1 locs1 (uc ge (u.1 + bc a9, u.2 + bs a9) (g.1 - w9)) (us ge (u.1 + bc a9, u.2 + bs a9) (g.1 - w9)) QQ (F0 m pc ls ((st.drop b9).map (tr B b))) q := h9
        rw [(huc _ _).1, (huc _ _).2] at h9
        exact h9
      · exact hq2.elim
    · obtain ⟨hq0, hq1, hq2⟩ := hq
      have hgo : ∀ st', XS k ge p l e R s m args below meth c D ca B b Ln xs QQ (pc + 3) L st' (u.1 + bc a9, u.2 + bs a9) (g.1 - w9, g2.2) → W p l e R s m args below meth c H1 locs1 (uc ge u g.1 + (bc a9 + w9)) (us ge u g.1 + (bs a9 + 6 * w9)) QQ (F0 m (pc + 3) ls (st'.map (tr B b))) := by
        intro st' h8
        have h9 := h8 H1 locs1 ls hl hw1 hS1 (hCg g2 ⟨hq0, hq1⟩) hb1 hb2 hmk9
        have h9 : W p l e R s m args below meth c H1 locs1 (uc ge (u.1 + bc a9, u.2 + bs a9) (g.1 - w9)) (us ge (u.1 + bc a9, u.2 + bs a9) (g.1 - w9)) QQ (F0 m (pc + 3) ls (st'.map (tr B b))) := h9
        rw [(huc _ _).1, (huc _ _).2] at h9
        exact h9
      cases v with
      | none => exact hgo _ hq2.2
      | some v => exact hgo _ hq2.2
  clear hcal hex hC
  have hword : (c9 ≠ 1 → c9 ≠ 3 → c9 ≠ 5 → (own k, x, a9, b9, c9) ∈ mlgT) ∧ (c9 = 1 ∨ c9 = 3 ∨ c9 = 5 → (own k, x, a9, b9, c9) ∈ mlnT) ∧ ((c9 = 0 ∨ c9 = 1) ∧ i = .invokevirtual x ∨ (c9 = 2 ∨ c9 = 3 ∨ c9 = 7) ∧ i = .invokestatic x ∨ (c9 = 4 ∨ c9 = 5) ∧ i = .invokespecial x) := by
    rcases h3 with rfl | rfl | rfl
    · simp only [okB, Bool.and_eq_true] at hok
      replace hok := hok.2
      split at hok
      · rename_i e1
        obtain rfl : c9 = 0 := by simpa using e1
        exact ⟨fun _ _ _ => List.contains_iff_mem.mp hok, by omega, Or.inl ⟨Or.inl rfl, rfl⟩⟩
      · simp only [Bool.and_eq_true, beq_iff_eq] at hok
        obtain ⟨rfl, hok⟩ := hok
        exact ⟨by omega, fun _ => List.contains_iff_mem.mp hok, Or.inl ⟨Or.inr rfl, rfl⟩⟩
    · simp only [okB, Bool.and_eq_true] at hok
      replace hok := hok.2
      split at hok
      · rename_i e1
        obtain rfl : c9 = 2 := by simpa using e1
        exact ⟨fun _ _ _ => List.contains_iff_mem.mp hok, by omega, Or.inr (Or.inl ⟨Or.inl rfl, rfl⟩)⟩
      · split at hok
        · rename_i e1
          exact absurd (by simpa using e1) c8
        · split at hok
          · rename_i e1
            exact absurd (by simpa using e1) c10
          · split at hok
            · rename_i e1
              obtain rfl : c9 = 7 := by simpa using e1
              exact ⟨fun _ _ _ => List.contains_iff_mem.mp hok, by omega, Or.inr (Or.inl ⟨Or.inr (Or.inr rfl), rfl⟩)⟩
            · simp only [Bool.and_eq_true, beq_iff_eq] at hok
              obtain ⟨rfl, hok⟩ := hok
              exact ⟨by omega, fun _ => List.contains_iff_mem.mp hok, Or.inr (Or.inl ⟨Or.inr (Or.inl rfl), rfl⟩)⟩
    · simp only [okB, Bool.and_eq_true] at hok
      replace hok := hok.2
      split at hok
      · rename_i e1
        exact absurd (by simpa using e1) c6
      · split at hok
        · rename_i e1
          obtain rfl : c9 = 4 := by simpa using e1
          exact ⟨fun _ _ _ => List.contains_iff_mem.mp hok, by omega, Or.inr (Or.inr ⟨Or.inl rfl, rfl⟩)⟩
        · simp only [Bool.and_eq_true, beq_iff_eq] at hok
          obtain ⟨rfl, hok⟩ := hok
          exact ⟨by omega, fun _ => List.contains_iff_mem.mp hok, Or.inr (Or.inr ⟨Or.inr rfl, rfl⟩)⟩
  clear hok h3
  obtain ⟨hg1, hn1, hkind⟩ := hword
  have hcB : calB (own k, x, a9, b9, c9) = true := by
    by_cases e1 : c9 = 1 ∨ c9 = 3 ∨ c9 = 5
    · exact caln_all _ (hn1 e1)
    · exact calg_all _ (hg1 (fun e => e1 (Or.inl e)) (fun e => e1 (Or.inr (Or.inl e))) (fun e => e1 (Or.inr (Or.inr e))))
  simp only [calB, beq_eq_false_iff_ne.mpr c6, beq_eq_false_iff_ne.mpr c8, beq_eq_false_iff_ne.mpr c10, Bool.false_or, Bool.and_eq_true, decide_eq_true_eq, beq_iff_eq] at hcB
  obtain ⟨⟨⟨⟨hlt, hnar⟩, hpar⟩, hhh⟩, hini⟩ := hcB
  have hMet := hMet0 hlt
  clear hMet0
  have hG := GW_in hlt
  have hmx := mxl_all a9 (List.mem_range.mpr hlt)
  have hmk := mok_at (Nat.lt_succ_of_lt hlt)
  have hzi : (Cond.initialized (mN a9).cls).before args s = true := by rw [hmk.2.2.2]; exact hts _ (iniT_in (own a9) (ini_all _ (List.mem_range.mpr (own_lt a9 (List.mem_range.mpr (Nat.lt_succ_of_lt hlt))))))
  have hR : (rmM a9 d w9).frames + 1 ≤ R.frames ∧ 8 + (mxl a9 + 11) + (rmM a9 d w9).locals ≤ R.locals := by
    constructor
    · show d + 8 + 1 ≤ _; omega
    · show 8 + (mxl a9 + 11) + (d * 64 + 200) ≤ _; omega
  have hf : uc ge u g.1 + (bc a9 + w9) ≤ R.cells ∧ us ge u g.1 + (bs a9 + 6 * w9) ≤ R.slots := by
    have := hz0.1
    rw [htw.1] at hcj
    unfold uc us
    omega
  have hlen9 : (st.take b9).length = b9 := by rw [List.length_take]; omega
  have hCF : CallFix p m c (mB k) (mxl k) s args GW (Rn (own k)) := ⟨hx, hb, hml, hown, hts⟩
  rcases hkind with ⟨hc01, rfl⟩ | ⟨hc237, rfl⟩ | ⟨hc45, rfl⟩
  · have hrv : rcv (st.take b9).reverse fun o => hO g o fun ci _ => ci = own a9 := by rcases hc01 with rfl | rfl <;> exact hrc
    have hex2 : ∃ o vs', (st.take b9).reverse = .ref o :: vs' ∧ hO g o fun ci _ => ci = own a9 := by
      unfold rcv at hrv
      split at hrv
      · exact ⟨_, _, ‹_›, hrv⟩
      · exact hrv.elim
    obtain ⟨o, vs', hvs, hob⟩ := hex2
    obtain ⟨ci, fs, ho, rfl⟩ := hO_ex hob
    obtain ⟨q, rfl, hq, had⟩ := hw.at ho (by simp)
    rw [hvs] at hst hMet hbld
    have hst2 : st.map (tr B b) = (vs'.map (tr B b)).reverse ++ .ref (B.2 q) :: (st.drop b9).map (tr B b) := by
      rw [hst]
      simp [tr, had]
    have hp9 : b9 ≥ 1 ∧ parB a9 (b9 - 1) = true ∧ ismT.contains a9 = true ∧ selT.contains a9 = true := by
      rcases hc01 with rfl | rfl <;> simpa [and_assoc] using hpar
    have hsel : (Cond.selects (Rn (own a9)) (mN a9) (mN a9)).before args s = true := hts _ (selT_in a9 (List.contains_iff_mem.mp hp9.2.2.2))
    have hism : (Cond.instanceMethod (mN a9)).before args s = true := hts _ (ismT_in a9 (List.contains_iff_mem.mp hp9.2.2.1))
    have hpn : (parseMethodDescriptor (mN a9).desc).map (fun d => d.parameters.length) = some (b9 - 1) := of_decide_eq_true hp9.2.1
    have ho10 : own a9 < 9 := sel_own a9 (List.contains_iff_mem.mp hp9.2.2.2)
    have hlen : (vs'.map (tr B b)).length = b9 - 1 := by
      have := congrArg List.length hvs
      rw [List.length_reverse, hlen9, List.length_cons] at this
      rw [List.length_map]; omega
    have hcode : wsM a9 = Cond.code (mN a9) (mB a9) (mxl a9) (mR a9) :: GW := wsM_code (by rcases hc01 with rfl | rfl <;> simpa using hhh)
    have hPre : PreV s H (Rn (own a9)) (B.2 q) (PcM D ca B b Ln xs (.ref (q + 1) :: vs') g) (vs'.map (tr B b)) :=
      ⟨hbld, va_recv hK hw.2.1 (vwCl_at _ ho10) hq, fun U hU hW => ⟨by simp [tr, had], hent U hU hW⟩⟩
    rcases hc01 with rfl | rfl
    · have hlk : (Cond.methodLink (Rn (own k)) x (mN a9)).before args s = true := hts _ (mlgT_in _ (hg1 (by omega) (by omega) (by omega)))
      exact hfin _ (vx_runV hCF hMet ⟨callB_of (b9 - 1) hts hG hcode rfl rfl hzi hlk ⟨hmk.2.1, hmk.2.2.1, hpn⟩ hR, hism, hsel⟩ hPre rfl hlen hl.1 hst2 hW8 hd hf)
    · have hlk : va_Nw (.methodLinkNest (Rn (own k)) x (mN a9) "RuneBands") s := hSF.2.1 _ (List.mem_append_right _ (List.mem_map.mpr ⟨_, hn1 (by omega), rfl⟩))
      exact hfin _ (vx_runVN hCF hMet ⟨va_cnB (b9 - 1) hts hG hcode rfl rfl hlk hzi ⟨hmk.2.1, hmk.2.2.1, hpn⟩ hR, hism, hsel⟩ hPre rfl hlen hl.1 hst2 hW8 hd hf)
  · have hp9 : parB a9 b9 = true ∧ staT.contains a9 = true := by
      rcases hc237 with rfl | rfl | rfl <;> simpa using hpar
    have hsta : (Cond.static (mN a9)).before args s = true := hts _ (staT_in a9 (List.contains_iff_mem.mp hp9.2))
    have hpn : (parseMethodDescriptor (mN a9).desc).map (fun d => d.parameters.length) = some b9 := of_decide_eq_true hp9.1
    have hlen : ((st.take b9).reverse.map (tr B b)).length = b9 := by rw [List.length_map, List.length_reverse, hlen9]
    have hPre : PreS s H (PcM D ca B b Ln xs (st.take b9).reverse g) ((st.take b9).reverse.map (tr B b)) :=
      ⟨hbld, fun U hU hW => ⟨rfl, hent U hU hW⟩⟩
    rcases hc237 with rfl | rfl | rfl
    · have hcode : wsM a9 = Cond.code (mN a9) (mB a9) (mxl a9) (mR a9) :: GW := wsM_code (by simpa using hhh)
      have hlk : (Cond.methodLink (Rn (own k)) x (mN a9)).before args s = true := hts _ (mlgT_in _ (hg1 (by omega) (by omega) (by omega)))
      exact hfin _ (vx_runS hCF hMet ⟨callB_of b9 hts hG hcode rfl rfl hzi hlk ⟨hmk.2.1, hmk.2.2.1, hpn⟩ hR, hsta⟩ hPre rfl hlen hl.1 hst hW8 hd hf)
    · have hcode : wsM a9 = Cond.code (mN a9) (mB a9) (mxl a9) (mR a9) :: GW := wsM_code (by simpa using hhh)
      have hlk : va_Nw (.methodLinkNest (Rn (own k)) x (mN a9) "RuneBands") s := hSF.2.1 _ (List.mem_append_right _ (List.mem_map.mpr ⟨_, hn1 (by omega), rfl⟩))
      exact hfin _ (vx_runSN hCF hMet ⟨va_cnB b9 hts hG hcode rfl rfl hlk hzi ⟨hmk.2.1, hmk.2.2.1, hpn⟩ hR, hsta, trivial⟩ hPre rfl hlen hl.1 hst hW8 hd hf)
    · have hcode : wsM a9 = Cond.codeWith (mN a9) (mB a9) (mxl a9) (mR a9) (hhs a9) :: GW := wsM_with (by simp at hhh; intro e; exact absurd e (by simpa using hhh.1))
      have hT : GoodIn GW (va_wsS (Rn (own k)) x (mN a9) (wsM a9)) := by
        intro w hw9
        unfold va_wsS at hw9
        rcases List.mem_append.mp hw9 with h9 | h9
        · simp only [List.mem_cons, List.not_mem_nil, or_false] at h9
          have hin : w ∈ GW := by
            rcases h9 with rfl | rfl | rfl
            · exact mlgT_in _ (hg1 (by omega) (by omega) (by omega))
            · exact staT_in a9 (List.contains_iff_mem.mp hp9.2)
            · rw [hmk.2.2.2]; exact iniT_in (own a9) (ini_all _ (List.mem_range.mpr (own_lt a9 (List.mem_range.mpr (Nat.lt_succ_of_lt hlt)))))
          exact ⟨hin, good_of_word (GW_good w hin)⟩
        · exact hG w h9
      exact hfin _ (vx_runSX hCF hMet (vx_cwSW b9 hts hT hcode rfl rfl ⟨hmk.2.1, hmk.2.2.1, hpn⟩ hR) hPre rfl hlen hl.1 hst hW8 hd hf)
  · have hrv : rcv (st.take b9).reverse fun _ => True := by rcases hc45 with rfl | rfl <;> exact hrc
    have hex2 : ∃ o vs', (st.take b9).reverse = .ref o :: vs' := by
      unfold rcv at hrv
      split at hrv
      · exact ⟨_, _, ‹_›⟩
      · exact hrv.elim
    obtain ⟨o, vs', hvs⟩ := hex2
    rw [hvs] at hst hMet hbld
    have hst2 : st.map (tr B b) = (vs'.map (tr B b)).reverse ++ .ref (ad B b o) :: (st.drop b9).map (tr B b) := by
      rw [hst]
      simp [tr]
    have hp9 : b9 ≥ 1 ∧ parB a9 (b9 - 1) = true ∧ ismT.contains a9 = true := by
      rcases hc45 with rfl | rfl <;> simpa [and_assoc] using hpar
    have hi9 : (mN a9).name = "<init>" ∧ rk a9 = 0 := by
      rcases hc45 with rfl | rfl <;> simpa using hini
    have hism : (Cond.instanceMethod (mN a9)).before args s = true := hts _ (ismT_in a9 (List.contains_iff_mem.mp hp9.2.2))
    have hpn : (parseMethodDescriptor (mN a9).desc).map (fun d => d.parameters.length) = some (b9 - 1) := of_decide_eq_true hp9.2.1
    have hlen : (vs'.map (tr B b)).length = b9 - 1 := by
      have := congrArg List.length hvs
      rw [List.length_reverse, hlen9, List.length_cons] at this
      rw [List.length_map]; omega
    have hcode : wsM a9 = Cond.code (mN a9) (mB a9) (mxl a9) none :: GW := by
      rw [← mR_none a9 (List.mem_range.mpr hlt) hi9.2]
      exact wsM_code (by rcases hc45 with rfl | rfl <;> simpa using hhh)
    have hPre : PreS s H (PcM D ca B b Ln xs (.ref o :: vs') g) (.ref (ad B b o) :: vs'.map (tr B b)) :=
      ⟨hbld, fun U hU hW => ⟨rfl, hent U hU hW⟩⟩
    rcases hc45 with rfl | rfl
    · have hlk : (Cond.methodLink (Rn (own k)) x (mN a9)).before args s = true := hts _ (mlgT_in _ (hg1 (by omega) (by omega) (by omega)))
      exact hfin _ (vx_runI hCF hMet ⟨callB_of (b9 - 1) hts hG hcode rfl rfl hzi hlk ⟨hmk.2.1, hmk.2.2.1, hpn⟩ hR, hi9.1, hism⟩ hPre rfl hlen hl.1 hst2 hW8 hd hf)
    · have hlk : va_Nw (.methodLinkNest (Rn (own k)) x (mN a9) "RuneBands") s := hSF.2.1 _ (List.mem_append_right _ (List.mem_map.mpr ⟨_, hn1 (by omega), rfl⟩))
      exact hfin _ (vx_runIN hCF hMet ⟨va_cnB (b9 - 1) hts hG hcode rfl rfl hlk hzi ⟨hmk.2.1, hmk.2.2.1, hpn⟩ hR, hi9.1, hism⟩ hPre rfl hlen hl.1 hst2 hW8 hd hf)
end SND4
end
section
/-! ===== from the interpreter to the machine, 7: throws, handlers, the contracts by depth (by program, wip/whole/gsn5.py) ===== -/
/-- throws: method, place, the class' link, the exception, the text's entry, the constructor's link, ldc_w -/
def thT : List (Nat × Nat × Nat × Nat × Nat × Nat × Nat) := [(81, 14, 69, 0, 71, 73, 0), (82, 11, 90, 1, 92, 94, 0), (82, 28, 69, 0, 98, 73, 0), (85, 46, 135, 2, 137, 139, 0), (86, 11, 90, 1, 147, 94, 0), (87, 11, 90, 1, 92, 94, 0), (87, 30, 69, 0, 160, 73, 0), (88, 10, 69, 0, 160, 73, 0), (89, 15, 90, 1, 169, 94, 0), (90, 11, 90, 1, 177, 94, 0), (90, 31, 69, 0, 160, 73, 0), (91, 27, 90, 1, 185, 94, 0), (92, 15, 90, 1, 190, 94, 0), (93, 11, 90, 1, 177, 94, 0), (94, 11, 90, 1, 177, 94, 0), (95, 10, 69, 0, 207, 73, 0), (96, 10, 69, 0, 207, 73, 0), (97, 4, 90, 1, 222, 94, 0), (101, 10, 69, 0, 250, 73, 0), (101, 30, 135, 2, 253, 139, 0), (104, 10, 135, 2, 267, 139, 1)]
theorem xw_0 : ∀ w ∈ (vx_atS RX8 73 (exn 0) ["java/lang/RuntimeException", "java/lang/Exception"]).filter goodWord, w ∈ lw_tbl := by decide +kernel
theorem xn_0 : ∀ w ∈ (vx_atS RX8 73 (exn 0) ["java/lang/RuntimeException", "java/lang/Exception"]).filter (fun w => !goodWord w), w ∈ CW := by decide +kernel
theorem xg_0 : ∀ w ∈ vx_atS RX8 73 (exn 0) ["java/lang/RuntimeException", "java/lang/Exception"], vx_ot w = true := by decide +kernel
theorem xw_1 : ∀ w ∈ (vx_atS RX8 94 (exn 1) ["java/lang/RuntimeException", "java/lang/Exception"]).filter goodWord, w ∈ lw_tbl := by decide +kernel
theorem xn_1 : ∀ w ∈ (vx_atS RX8 94 (exn 1) ["java/lang/RuntimeException", "java/lang/Exception"]).filter (fun w => !goodWord w), w ∈ CW := by decide +kernel
theorem xg_1 : ∀ w ∈ vx_atS RX8 94 (exn 1) ["java/lang/RuntimeException", "java/lang/Exception"], vx_ot w = true := by decide +kernel
theorem xw_2 : ∀ w ∈ (vx_atS RX8 139 (exn 2) ["java/lang/RuntimeException", "java/lang/Exception"]).filter goodWord, w ∈ lw_tbl := by decide +kernel
theorem xn_2 : ∀ w ∈ (vx_atS RX8 139 (exn 2) ["java/lang/RuntimeException", "java/lang/Exception"]).filter (fun w => !goodWord w), w ∈ CW := by decide +kernel
theorem xg_2 : ∀ w ∈ vx_atS RX8 139 (exn 2) ["java/lang/RuntimeException", "java/lang/Exception"], vx_ot w = true := by decide +kernel
def thB (t : Nat × Nat × Nat × Nat × Nat × Nat × Nat) : Bool := match t with
  | (k, pc, x, e, is, ic, w) => decide (own k = 8) && decide (rk k ≠ 6) && decide (e < 3) && decide (ic = [73, 94, 139].getD e 0) && decide (x = [69, 90, 135].getD e 0) && decide (decode (mB k) pc = .ok (.new x, 3)) && decide (decode (mB k) (pc + 3) = .ok (.dup, 1)) && (stT.any fun q => q.1 == is) && (hhs k).isEmpty &&
    (if w = 0 then decide (decode (mB k) (pc + 4) = .ok (.ldc is, 2)) && decide (decode (mB k) (pc + 6) = .ok (.invokespecial ic, 3)) && decide (decode (mB k) (pc + 9) = .ok (.athrow, 1))
     else decide (decode (mB k) (pc + 4) = .ok (.ldc_w is, 3)) && decide (decode (mB k) (pc + 7) = .ok (.invokespecial ic, 3)) && decide (decode (mB k) (pc + 10) = .ok (.athrow, 1)))
theorem th_all : ∀ t ∈ thT, thB t = true := by decide +kernel
def isTh (q : Nat × Instr × Nat × Nat × Nat × Nat × List Nat) : Bool := match q with
  | (_, .new _, _, _, _, 1, _) => true
  | _ => false
def AllTh : Nat → List (List (Nat × Instr × Nat × Nat × Nat × Nat × List Nat)) → Bool
  | _, [] => true
  | k, l :: t => l.all (fun q => match q with
    | (pc, .new x, _, e, _, 1, _) => thT.any fun t => t.1 == k && t.2.1 == pc && t.2.2.1 == x && t.2.2.2.1 == e
    | _ => true) && AllTh (k + 1) t
theorem thA : AllTh 0 cdL = true := by decide +kernel
theorem AllTh_at {k : Nat} {ls : List (List (Nat × Instr × Nat × Nat × Nat × Nat × List Nat))} (h : AllTh k ls = true) (j : Nat) : ∀ q ∈ ls.getD j [], (match q with
    | (pc, .new x, _, e, _, 1, _) => thT.any fun t => t.1 == (k + j) && t.2.1 == pc && t.2.2.1 == x && t.2.2.2.1 == e
    | _ => true) = true := by
  induction ls generalizing k j with
  | nil => intro q hq; simp at hq
  | cons l t ih =>
    simp only [AllTh, Bool.and_eq_true] at h
    cases j with
    | zero => exact fun q hq => List.all_eq_true.mp h.1 q hq
    | succ j =>
      have := ih h.2 j
      rw [show k + 1 + j = k + (j + 1) by omega] at this
      simpa using this
theorem cd_mem {k pc : Nat} {x : Instr × Nat × Nat × Nat × Nat × List Nat} (h : cd k pc = some x) : (pc, x) ∈ cdL.getD k [] := by
  unfold cd at h
  obtain ⟨q, hq, rfl⟩ := Option.map_eq_some_iff.mp h
  have h1 := List.mem_of_find?_eq_some hq
  have h2 := List.find?_some hq
  have h4 : q.1 = pc := by simpa using h2
  subst h4
  exact h1
theorem th_at {k pc x n e b : Nat} {ks : List Nat} (h : cd k pc = some (.new x, n, e, b, 1, ks)) : ∃ is ic w, (k, pc, x, e, is, ic, w) ∈ thT := by
  have h1 : (thT.any fun t => t.1 == (0 + k) && t.2.1 == pc && t.2.2.1 == x && t.2.2.2.1 == e) = true := AllTh_at thA k _ (cd_mem h)
  obtain ⟨t, ht, h2⟩ := List.any_eq_true.mp h1
  obtain ⟨k', pc', x', e', is, ic, w⟩ := t
  simp only [Bool.and_eq_true, beq_iff_eq, Nat.zero_add] at h2
  obtain ⟨⟨⟨rfl, rfl⟩, rfl⟩, rfl⟩ := h2
  exact ⟨is, ic, w, ht⟩
theorem xs_low {k ge : Nat} {p : Program} {l : Launch} {e : Env} {R : Room} {s : State} {m : MethodId} {args : Array Value} {below : List Frame} {meth : Method} {c : Code} {D : va_G} {ca : Nat → ClassId} {B : AM} {b Ln : Nat} {xs : Nat → Int32} {QQ : State → Prop} {pc : Nat} {L : Lc} {st : List Value} {u : Nat × Nat} {g : Gp} {ks : List Nat} {fr : Prop} [Decidable fr]
    (h : XS k ge p l e R s m args below meth c D ca B b Ln xs QQ pc (killL L ks) st u (if fr then frz g else g)) : XS k ge p l e R s m args below meth c D ca B b Ln xs QQ pc L st u g := by
  intro H locs ls hl hw hS hE h1 h2 hz0
  by_cases hf : fr
  · rw [if_pos hf] at h
    by_cases g0 : g.1 = 0
    · have e1 : frz g = (M0, g.2) := by unfold frz; rw [if_pos g0]
      rw [e1] at h
      have e2 : tgm M0 = tgm g.1 := by rw [g0]; rfl
      have h9 := h H locs ls (hl.kill ks) hw hS (fun e9 => absurd e9 (by show ¬ M0 = 0; unfold M0; omega)) h1 h2 ⟨by show tgm M0 ≤ tgm ge; rw [e2]; exact hz0.1, fun e9 => absurd e9 (by show ¬ M0 = 0; unfold M0; omega)⟩
      have h9 : W p l e R s m args below meth c H locs (uc ge u M0) (us ge u M0) QQ (F0 m pc ls (st.map (tr B b))) := h9
      unfold uc us at h9 ⊢
      rw [e2] at h9
      exact h9
    · have e1 : frz g = g := by unfold frz; rw [if_neg g0]
      rw [e1] at h
      exact h H locs ls (hl.kill ks) hw hS hE h1 h2 hz0
  · rw [if_neg hf] at h
    exact h H locs ls (hl.kill ks) hw hS hE h1 h2 hz0
/-- what a throw asks of its surroundings -/
abbrev HThr (k ge : Nat) (p : Program) (l : Launch) (e : Env) (R : Room) (s : State) (m : MethodId) (args : Array Value) (below : List Frame) (meth : Method) (c : Code) (D : va_G) (ca : Nat → ClassId) (B : AM) (b Ln : Nat) (xs : Nat → Int32) (QQ : State → Prop) (Q : Post) : Prop :=
  ∀ (pc x n e9 b9 : Nat) (ks : List Nat), cd k pc = some (.new x, n, e9, b9, 1, ks) → ∀ (g : Gp) (H : Heap) (locs : List Loc) (L : Lc) (ls : Array Slot) (st : List Value) (u : Nat × Nat), Q (.inr e9) (g.1 - 1, g.2) → 2 ≤ g.1 → st.length ≤ 4 → LH B b ls (mxl k) L → WD D ca B b Ln xs g H → va_S (AB B.1) s.heap H locs → u.1 ≤ bc k → u.2 ≤ bs k → Mk ge g.1 →
    W p l e R s m args below meth c H locs (uc ge u g.1) (us ge u g.1) QQ (F0 m pc ls (st.map (tr B b)))
/-! what every end of a step has, its beginning has (of the mark) -/
theorem pI_el {P : Prop} {st : List Value} {K : Int32 → List Value → Prop} (h : ∀ x r, K x r → P) : pI st K → P := by
  unfold pI; split <;> first | exact h _ _ | exact False.elim
theorem pJ_el {P : Prop} {st : List Value} {K : Int64 → List Value → Prop} (h : ∀ x r, K x r → P) : pJ st K → P := by
  unfold pJ; split <;> first | exact h _ _ | exact False.elim
theorem pD_el {P : Prop} {st : List Value} {K : UInt64 → List Value → Prop} (h : ∀ x r, K x r → P) : pD st K → P := by
  unfold pD; split <;> first | exact h _ _ | exact False.elim
theorem pR_el {P : Prop} {st : List Value} {K : Nat → List Value → Prop} (h : ∀ x r, K x r → P) : pR st K → P := by
  unfold pR; split <;> first | exact h _ _ | exact False.elim
theorem pV_el {P : Prop} {st : List Value} {K : Value → List Value → Prop} (h : ∀ x r, K x r → P) : pV st K → P := by
  unfold pV; split <;> first | exact h _ _ | exact False.elim
theorem lI_el {P : Prop} {L : Lc} {n : Nat} {K : Int32 → Prop} (h : ∀ x, K x → P) : lI L n K → P := by
  unfold lI; split <;> first | exact h _ | exact False.elim
theorem lJ_el {P : Prop} {L : Lc} {n : Nat} {K : Int64 → Prop} (h : ∀ x, K x → P) : lJ L n K → P := by
  unfold lJ; split <;> first | exact h _ | exact False.elim
theorem lD_el {P : Prop} {L : Lc} {n : Nat} {K : UInt64 → Prop} (h : ∀ x, K x → P) : lD L n K → P := by
  unfold lD; split <;> first | exact h _ | exact False.elim
theorem lR_el {P : Prop} {L : Lc} {n : Nat} {K : Nat → Prop} (h : ∀ x, K x → P) : lR L n K → P := by
  unfold lR; split <;> first | exact h _ | exact False.elim
theorem hO_el {P : Prop} {g : Gp} {a : Nat} {K : Nat → List Value → Prop} (h : ∀ x y, K x y → P) : hO g a K → P := by
  unfold hO; split <;> first | exact h _ _ | exact False.elim
theorem hA_el {P : Prop} {g : Gp} {a : Nat} {K : Nat → Nat → Prop} (h : ∀ x y, K x y → P) : hA g a K → P := by
  unfold hA; split <;> first | exact h _ _ | exact False.elim
theorem hI_el {P : Prop} {g : Gp} {a : Nat} {K : Nat → Nat → (Nat → Int32) → Prop} (h : ∀ x y z, K x y z → P) : hI g a K → P := by
  unfold hI; split <;> first | exact h _ _ _ | exact False.elim
theorem hJ_el {P : Prop} {g : Gp} {a : Nat} {K : Nat → Nat → (Nat → Int64) → Prop} (h : ∀ x y z, K x y z → P) : hJ g a K → P := by
  unfold hJ; split <;> first | exact h _ _ _ | exact False.elim
theorem hQ_el {P : Prop} {g : Gp} {a : Nat} {K : Nat → Nat → (Nat → Option Nat) → Prop} (h : ∀ x y z, K x y z → P) : hQ g a K → P := by
  unfold hQ; split <;> first | exact h _ _ _ | exact False.elim
theorem ite_el {P b : Prop} [Decidable b] {x y : Prop} (h1 : x → P) (h2 : y → P) : (if b then x else y) → P := by
  split <;> assumption
theorem bI_el {P : Prop} {x : Int32} {o : ClassFile.Cond} {A B : Prop} (h1 : A → P) (h2 : B → P) : bI x o A B → P := by
  cases o <;> simp only [bI] <;> split <;> assumption
theorem bC_el {P : Prop} {x y : Int32} {o : ClassFile.Cond} {A B : Prop} (h1 : A → P) (h2 : B → P) : bC x y o A B → P := by
  cases o <;> simp only [bC] <;> split <;> assumption
theorem and_el {P a b : Prop} (h : b → P) : a ∧ b → P := fun q => h q.2
theorem or_el {P a b : Prop} (h1 : a → P) (h2 : b → P) : a ∨ b → P := fun q => q.elim h1 h2
theorem st1_call_el {C : CT} {k : Nat} {Q : Post} {P : Nat → Prop} (hC : ∀ y vs g R, C y vs g R → ∃ o g', R o g') (hQ : ∀ o g', Q o g' → P g'.1) (hm : ∀ m x, (x = 0 ∨ x < m) → P (m - x) → P m) {b c a : Nat} {st : List Value} {u : Nat × Nat} {g : Gp}
    (h : if c = 6 then pR st fun _ r => r.length ≤ 4 ∧ P g.1
      else if c = 8 then pI st fun y r => pI r fun x r => r.length ≤ 4 ∧ P g.1
      else if c = 9 then pI st fun y r => pI r fun x r => r.length ≤ 4 ∧ P g.1 else
      b ≤ st.length ∧ (st.drop b).length ≤ 4 ∧ u.1 + bc a ≤ bc k ∧ u.2 + bs a ≤ bs k ∧ rcK c a g (st.take b).reverse ∧
        ∃ w : Nat, (w = 0 ∨ w < g.1) ∧ C a (st.take b).reverse g fun o g' => (g.1 ≤ g'.1 + w ∧ g'.1 ≤ g.1) ∧ (g'.1 = 0 → g.1 = 0 ∧ g'.2.length = g.2.length + bc a) ∧ match o with
          | .inl none => P (g.1 - w)
          | .inl (some v) => P (g.1 - w)
          | .inr e => match hnd k e with
            | some r => Q (.inl (some (.int r))) (g.1 - w, g'.2)
            | none => False) : P g.1 := by
  split at h
  · exact pR_el (fun _ _ q => q.2) h
  · split at h
    · exact pI_el (fun _ _ q => pI_el (fun _ _ q => q.2) q) h
    · split at h
      · exact pI_el (fun _ _ q => pI_el (fun _ _ q => q.2) q) h
      · obtain ⟨-, -, -, -, -, w, hw, hc⟩ := h
        obtain ⟨o, g', -, -, h8⟩ := hC _ _ _ _ hc
        cases o with
        | inl v => cases v with
          | none => exact hm _ _ hw h8
          | some v => exact hm _ _ hw h8
        | inr e =>
          dsimp only at h8
          split at h8
          · exact hm _ _ hw (hQ _ _ h8)
          · exact h8.elim
set_option maxHeartbeats 4000000 in
theorem st1_el {C : CT} {k : Nat} {Q : Post} {P : Nat → Prop} (hC : ∀ y vs g R, C y vs g R → ∃ o g', R o g') (hQ : ∀ o g', Q o g' → P g'.1) (hm : ∀ m x, (x = 0 ∨ x < m) → P (m - x) → P m) {pc : Nat} {i : Instr} {n a b c : Nat} {L : Lc} {st : List Value} {u : Nat × Nat} {g : Gp} :
    st1 C k Q (fun _ _ _ _ g => P g.1) pc i n a b c L st u g → P g.1 := by
  cases i with
  | new x =>
    intro h
    unfold st1 at h
    dsimp only at h
    split at h
    · exact hm _ 1 (Or.inr (by omega)) (hQ _ _ h.2.2)
    · exact h.2.2.2
  | newarray t =>
    simp only [st1]
    refine pI_el fun z r h => ?_
    obtain ⟨-, -, -, h⟩ := h
    split at h
    · exact h.2.2
    · exact hm _ 9 (Or.inr (by omega)) h.2.2.2.2.2.2.2.2
  | invokevirtual x => exact st1_call_el hC hQ hm
  | invokestatic x => exact st1_call_el hC hQ hm
  | invokespecial x => exact st1_call_el hC hQ hm
  | _ =>
    simp only [st1]
    repeat first
      | exact fun h => h
      | exact hQ _ _
      | exact False.elim
      | refine pI_el fun _ _ => ?_
      | refine pJ_el fun _ _ => ?_
      | refine pD_el fun _ _ => ?_
      | refine pR_el fun _ _ => ?_
      | refine pV_el fun _ _ => ?_
      | refine lI_el fun _ => ?_
      | refine lJ_el fun _ => ?_
      | refine lD_el fun _ => ?_
      | refine lR_el fun _ => ?_
      | refine hO_el fun _ _ => ?_
      | refine hA_el fun _ _ => ?_
      | refine hI_el fun _ _ _ => ?_
      | refine hJ_el fun _ _ _ => ?_
      | refine hQ_el fun _ _ _ => ?_
      | refine and_el ?_
      | refine or_el ?_ ?_
      | refine bI_el ?_ ?_
      | refine bC_el ?_ ?_
      | refine ite_el ?_ ?_
      | split
theorem cal_ne : ∀ (d y : Nat) (vs : List Value) (g : Gp) (R : Post), cal d y vs g R → ∃ o g', R o g' := by
  intro d
  induction d with
  | zero => exact fun _ _ _ _ h => h.elim
  | succ d ih =>
    intro y vs g R h
    refine h.2.2 (fun _ _ _ _ _ => ∃ o g', R o g') fun pc L st u g h => ?_
    unfold stp at h
    split at h
    · exact st1_el (P := fun _ => ∃ o g', R o g') ih (fun o g' h => ⟨o, g', h⟩) (fun _ _ _ h => h) h
    · exact h.elim
theorem frz_tg (g : Gp) : tgm (frz g).1 = tgm g.1 := by
  unfold frz
  by_cases h : g.1 = 0
  · rw [if_pos h, h]; rfl
  · rw [if_neg h]
/-- the same of a step at a place, with the freezing -/
theorem stp_el {C : CT} {k ge w : Nat} {Q : Post} (hC : ∀ y vs g R, C y vs g R → ∃ o g', R o g') (hQ : ∀ o g', Q o g' → tgm ge ≤ tgm g'.1 + w) {pc : Nat} {L : Lc} {st : List Value} {u : Nat × Nat} {g : Gp} (h : stp C k Q (fun _ _ _ _ g => tgm ge ≤ tgm g.1 + w) pc L st u g) : tgm ge ≤ tgm g.1 + w := by
  unfold stp at h
  split at h
  · have h9 := st1_el (P := fun m => tgm ge ≤ tgm m + w) hC hQ (fun m x hx h => by rw [(tg_sub hx).1] at h; omega) h
    split at h9
    · rw [← frz_tg g]; exact h9
    · exact h9
  · exact h.elim
/-! a method that allots a row of ints while all is frozen: the map of addresses has one cell more -/
def BOK (k : Nat) (B9 Be : AM) : Prop := B9.1 = Be.1 ∧ (rk k ≠ 6 → B9 = Be) ∧ ∀ i, i < 58 → B9.2 i = Be.2 i
theorem BOK.rf (k : Nat) (B : AM) : BOK k B B := ⟨rfl, fun _ => rfl, fun _ _ => rfl⟩
theorem BI_of {D : Nat → Prop} {ca : Nat → ClassId} {B : AM} {b : Nat} {hs : List AE} (h : va_D D (wof ca B b hs)) (hD : ∀ q, D q → B.1 ≤ q) : BI B hs.length := by
  have key : ∀ i, i + 1 < hs.length → ∃ x, (wof ca B b hs)[i]? = some (B.2 i, x) := fun i hi => by
    rw [wof_get, List.getElem?_eq_getElem hi]
    exact ⟨_, rfl⟩
  refine ⟨fun i j hi hj e => ?_, fun i hi => ?_⟩
  · obtain ⟨x, hx⟩ := key i hi
    obtain ⟨y, hy⟩ := key j hj
    exact h.1 i j _ _ hx hy e
  · obtain ⟨x, hx⟩ := key i hi
    exact hD _ (h.2 i _ hx)
theorem tr_clo {B B' : AM} {b n : Nat} (h : ∀ i, i + 1 < n → B.2 i = B'.2 i) {v : Value} (hv : cloV n v) : tr B b v = tr B' b v := tr_eq h fun o e => by subst e; exact hv
theorem cv_clo {ca : Nat → ClassId} {B B' : AM} {b n : Nat} (h : ∀ i, i + 1 < n → B.2 i = B'.2 i) {x : AE} (hx : cloE n x) : cv ca B b x = cv ca B' b x := by
  match x, hx with
  | .inl (_, _, .inl _), _ => rfl
  | .inl (_, _, .inr (.inl _)), _ => rfl
  | .inl (_, _, .inr (.inr (.inl _))), _ => rfl
  | .inl (_, _, .inr (.inr (.inr (.inl _)))), _ => rfl
  | .inl (t, z, .inr (.inr (.inr (.inr f)))), hx =>
    show Sum.inl _ = Sum.inl _
    have : (fun j => (f j).map (ad B b)) = fun j => (f j).map (ad B' b) := by
      funext j
      cases e : f j with
      | none => rfl
      | some q =>
        have h1 := tr_clo (b := b) h (v := .ref q) (hx j q e)
        have h2 : ad B b q = ad B' b q := Value.ref.inj h1
        show some _ = some _
        rw [h2]
    rw [this]
  | .inr (ci, fs), hx =>
    show Sum.inr _ = Sum.inr _
    rw [List.map_congr_left fun v hv => tr_clo (b := b) h (hx v hv)]
theorem wof_clo {ca : Nat → ClassId} {B B' : AM} {b : Nat} {hs : List AE} (h : ∀ i, i + 1 < hs.length → B.2 i = B'.2 i) (hc : clo hs.length hs) : wof ca B b hs = wof ca B' b hs := by
  apply List.ext_getElem?
  intro i
  rw [wof_get, wof_get]
  by_cases hi : i + 1 < hs.length
  · rw [List.getElem?_eq_getElem hi, Option.map_some, Option.map_some, h i hi, cv_clo h (hc _ (List.getElem_mem hi))]
  · rw [List.getElem?_eq_none (by omega)]; rfl
section SND5
variable {k ge w : Nat} {p : Program} {l : Launch} {e : Env} {R : Room} {s : State} {m : MethodId} {args : Array Value} {below : List Frame} {meth : Method} {c : Code} {D : va_G} {ca : Nat → ClassId} {B : AM} {b Ln : Nat} {xs : Nat → Int32} {d : Nat} {QQ : State → Prop}
variable {C : CT} {Q : Post} {pc n a9 b9 c9 : Nat} {L : Lc} {st : List Value} {u : Nat × Nat} {g : Gp}

set_option maxHeartbeats 4000000 in
theorem xs_arr {r : List Value} {z : Int32} {Be : AM} (F : FrC k w p R s m args meth c D ca B b Ln xs d) (hd : decode (mB k) pc = .ok (.newarray .int, 2)) (hcj : tgm ge ≤ tgm (g.1 - 9) + w) (hz : 0 ≤ z) (h54 : z.toNatClampNeg ≤ 54) (h10 : 10 ≤ g.1) (hlen : 59 ≤ g.2.length) (hc1 : clo g.2.length g.2) (hc2 : cloL g.2.length L) (hc3 : ∀ v ∈ r, cloV g.2.length v) (h6 : rk k = 6) (hB : BOK k B Be)
    (h : ∀ B9, BOK k B9 Be → XS k ge p l e R s m args below meth c D ca B9 b Ln xs QQ (pc + 2) L (.ref g.2.length :: r) u (g.1 - 9, g.2 ++ [atNew .int z.toNatClampNeg])) : XS k ge p l e R s m args below meth c D ca B b Ln xs QQ pc L (.int z :: r) u g := by
  obtain ⟨hx, hb, hml, hown, hts, hSF, hbB, hBs, hX, hR1, hR2, hR3, hR4, hnm⟩ := F
  have hK := hSF.1
  have hAll : ∀ q, s.heap.size ≤ q → AB B.1 q := fun q hq => Nat.le_trans hBs hq
  intro H locs ls hl hw hS hE h1 h2 hz0
  have hneg : ¬ z < 0 := fun q => Int32.lt_irrefl (Int32.lt_of_lt_of_le q hz)
  have ht9 : tgm (g.1 - 9) = g.1 - 9 ∧ tgm g.1 = g.1 := by unfold tgm; rw [if_neg (by omega), if_neg (by omega)]; exact ⟨rfl, rfl⟩
  have hm := hz0.1
  rw [ht9.1] at hcj
  rw [ht9.2] at hm
  have hU : uc ge u g.1 + 9 = uc ge u (g.1 - 9) ∧ us ge u g.1 + 54 = us ge u (g.1 - 9) := by
    unfold uc us
    rw [ht9.1, ht9.2]
    omega
  have hRm : uc ge u (g.1 - 9) ≤ R.cells ∧ us ge u (g.1 - 9) ≤ R.slots := by
    unfold uc us
    rw [ht9.1]
    omega
  refine va_newa (D := D) (a0 := (z.toNatClampNeg, .inl fun _ => 0)) hx hb (hts _ (sp_at (j := 7) rfl)) (ty := .int) rfl hK hw.2.1 hw.D hS hAll (fun cA => rfl) hneg rfl (by show z.toNatClampNeg * 4 ≤ _; omega) (by omega) (by omega) hd fun q cA H1 hK1 hP1 hD1 hS1 => ?_
  obtain rfl := tys_name (t := 0) hK hK1 rfl
  let B' : AM := (B.1, fun i => if i = g.2.length - 1 then q else B.2 i)
  have hB'0 : ∀ i, i + 1 < g.2.length → B.2 i = B'.2 i := fun i hi => by
    show B.2 i = if i = g.2.length - 1 then q else B.2 i
    rw [if_neg (by omega)]
  have hq : B'.2 (g.2.length - 1) = q := if_pos rfl
  have hBO : BOK k B' Be := ⟨hB.1, fun e9 => absurd h6 e9, fun i hi => by rw [← hB'0 i (by omega)]; exact hB.2.2 i hi⟩
  obtain ⟨⟨tl, htl⟩, -, hBI⟩ := id hw
  have hwof : wof ca B b g.2 ++ [(q, (Sum.inl (ca 0, z.toNatClampNeg, .inl fun _ => 0) : va_E))] = wof ca B' b (g.2 ++ [atNew .int z.toNatClampNeg]) := by
    rw [wof_push ca B' b g.2 (by omega), ← wof_clo hB'0 hc1, hq]
    rfl
  have hw' : WD D ca B' b Ln xs (g.1 - 9, g.2 ++ [atNew .int z.toNatClampNeg]) H1 := by
    refine ⟨⟨tl ++ [atNew .int z.toNatClampNeg], ?_⟩, ?_, ?_⟩
    · show g.2 ++ [_] = _
      rw [htl]; rfl
    · show va_P D vwCl (wof ca B' b (g.2 ++ [atNew .int z.toNatClampNeg])) H1
      rw [← hwof]; exact hP1
    · refine BI_of (D := AB B.1) (ca := ca) (b := b) ?_ (fun q h => h)
      show va_D (AB B.1) (wof ca B' b (g.2 ++ [atNew .int z.toNatClampNeg]))
      rw [← hwof]; exact hD1
  have hl' : LH B' b ls (mxl k) L := ⟨hl.1, hl.2.1, fun i v hi => by rw [hl.2.2 i v hi, tr_clo hB'0 (hc2 i v hi)]⟩
  have h9 := h B' hBO H1 locs ls hl' hw' hS1 (fun e9 => by have e9 : g.1 - 9 = 0 := e9; omega) h1 h2 ⟨by rw [ht9.1]; omega, fun e9 => by have e9 : g.1 - 9 = 0 := e9; omega⟩
  have e1 : tr B' b (.ref g.2.length) = .ref q := by
    show Value.ref (ad B' b _) = _
    unfold ad
    rw [if_neg (by omega), hq]
  have e2 : r.map (tr B' b) = r.map (tr B b) := List.map_congr_left fun v hv => (tr_clo hB'0 (hc3 v hv)).symm
  rw [List.map_cons, e1, e2] at h9
  refine W.widen (k := uc ge u (g.1 - 9)) (n := us ge u (g.1 - 9)) ?_ ?_ h9
  · omega
  · omega
set_option maxHeartbeats 4000000 in
/-- every place that the interpreter says is good is good on the machine -/
theorem xs_all {Be : AM} (F : FrC k w p R s m args meth c D ca Be b Ln xs (d + 1)) (hEX : EXF Be.1 s) (hC : HCal l C d) (hCle : CLe C C) (hNe : ∀ y vs g R, C y vs g R → ∃ o g', R o g') (hcQ : ∀ o g', Q o g' → tgm ge ≤ tgm g'.1 + w)
    (hret : HRet k ge p l e R s m args below meth c D ca Be b Ln xs QQ Q) (hret6 : ∀ B9, BOK k B9 Be → HRet6 k ge p l e R s m args below meth c D ca B9 b Ln xs QQ Q) (hthr : HThr k ge p l e R s m args below meth c D ca Be b Ln xs QQ Q) (hex : HExc k ge p l e R s m args below meth c D ca Be b Ln xs QQ Q) (hx6 : ∀ e9 r9, hnd k e9 = some r9 → rk k ≠ 6)
    (h : EX C k Q pc L st u g) : XS k ge p l e R s m args below meth c D ca Be b Ln xs QQ pc L st u g := by
  refine (h (fun pc L st u g => tgm ge ≤ tgm g.1 + w ∧ ∀ B9, BOK k B9 Be → XS k ge p l e R s m args below meth c D ca B9 b Ln xs QQ pc L st u g) fun pc L st u g h => ?_).2 Be (BOK.rf k Be)
  have hcj := stp_el hNe hcQ (stp_mono hCle (fun _ _ h => h) (fun _ _ _ _ _ h => h.1) h)
  refine ⟨hcj, fun B hB => ?_⟩
  have F9 : FrC k w p R s m args meth c D ca B b Ln xs (d + 1) := by
    obtain ⟨q1, q2, q3, q4, q5, q6, q7, q8, q9⟩ := F
    exact ⟨q1, q2, q3, q4, q5, q6, by rw [hB.1]; exact q7, by rw [hB.1]; exact q8, q9⟩
  have hret9 : HRet k ge p l e R s m args below meth c D ca B b Ln xs QQ Q := by
    intro v pc ls g H locs u hq hrk
    have h6 : rk k ≠ 6 := by
      intro e6
      rw [e6] at hrk
      cases v with
      | none => cases hrk
      | some v => cases v <;> first | (rcases hrk with hrk | ⟨hrk, -⟩ <;> cases hrk; done) | (cases hrk; done)
    have := hB.2.1 h6
    subst this
    exact hret v pc ls g H locs u hq hrk
  have hthr9 : HThr k ge p l e R s m args below meth c D ca B b Ln xs QQ Q := by
    intro pc x n e9 b9 ks hcd
    obtain ⟨is, ic, w', ht⟩ := th_at hcd
    have hT := th_all _ ht
    simp only [thB, Bool.and_eq_true, decide_eq_true_eq] at hT
    have h6 : rk k ≠ 6 := hT.1.1.1.1.1.1.1.1.2
    have := hB.2.1 h6
    subst this
    exact hthr pc x n e9 b9 ks hcd
  have hex9 : HExc k ge p l e R s m args below meth c D ca B b Ln xs QQ Q := by
    intro pc i n a9 b9 c9 ks hcd hg e9 r9 hr9
    have := hB.2.1 (hx6 e9 r9 hr9)
    subst this
    exact hex pc i n a9 b9 c9 ks hcd hg e9 r9 hr9
  by_cases hfa : ∃ t n a9 b9 c9 ks, cd k pc = some (.newarray t, n, a9, b9, c9, ks) ∧ (if ks.contains 1000 then frz g else g).1 ≠ 0
  · obtain ⟨t, n, a9, b9, c9, ks, hcd, hne⟩ := hfa
    unfold stp at h
    rw [hcd] at h
    dsimp only at h
    have hok := okC hcd
    simp only [okB, Bool.and_eq_true, decide_eq_true_eq, Bool.or_eq_true, beq_iff_eq] at hok
    have hn : n = 2 := hok.1.2.resolve_right (by simp [isTS])
    subst hn
    refine xs_low (ks := ks) (fr := ks.contains 1000 = true) ?_
    generalize (if ks.contains 1000 = true then frz g else g) = g2 at *
    obtain ⟨z, r, he0, hz, hzn, ht9, h8⟩ := pI_ex h
    clear h
    subst he0
    rw [if_neg hne] at h8
    obtain ⟨h6, ht0, h54, h10, h59, hc1, hc2, hc3, h9⟩ := h8
    have hti : t = .int := by
      cases t <;> first | rfl | (exfalso; revert ht0; simp [atTag])
    subst hti
    exact xs_arr F9 hok.1.1 h9.1 hz h54 h10 h59 hc1 hc2 hc3 h6 hB h9.2
  · have h := stp_mono (Y := fun pc L st u g => tgm ge ≤ tgm g.1 + w ∧ XS k ge p l e R s m args below meth c D ca B b Ln xs QQ pc L st u g) hCle (fun _ _ h => h) (fun _ _ _ _ _ h => ⟨h.1, h.2 B hB⟩) h
    unfold stp at h
    split at h
    · rename_i i n a9 b9 c9 ks hcd
      have hok := okC hcd
      have hok0 := hok
      simp only [okB, Bool.and_eq_true, decide_eq_true_eq, Bool.or_eq_true, beq_iff_eq] at hok0
      have hd := hok0.1.1
      have hn : isTS i = false → n = ilen i := fun e9 => hok0.1.2.resolve_right (by rw [e9]; simp)
      have hcj2 : tgm ge ≤ tgm (if ks.contains 1000 = true then frz g else g).1 + w := by
        split
        · rw [frz_tg]; exact hcj
        · exact hcj
      refine xs_low (ks := ks) (fr := ks.contains 1000 = true) ?_
      by_cases hth : ∃ x, i = .new x ∧ c9 = 1
      · obtain ⟨x, rfl, rfl⟩ := hth
        have h : 2 ≤ (if ks.contains 1000 = true then frz g else g).1 ∧ st.length ≤ 4 ∧ Q (.inr a9) ((if ks.contains 1000 = true then frz g else g).1 - 1, (if ks.contains 1000 = true then frz g else g).2) := h
        intro H locs ls hl hw hS hE h1 h2 hz0
        exact hthr9 pc x n a9 b9 ks hcd _ H locs _ ls st u h.2.2 h.1 h.2.1 hl hw hS h1 h2 hz0
      · have hs := st1_mono (Y := XS k ge p l e R s m args below meth c D ca B b Ln xs QQ) hCle (fun _ _ h => h) (fun _ _ _ _ _ h => h.2) h
        rcases (show grp i = 0 ∨ grp i = 1 ∨ grp i = 2 ∨ grp i = 3 ∨ grp i = 4 by cases i <;> simp [grp]) with e9 | e9 | e9 | e9 | e9
        · refine xs_simple F9 hd hn ?_ ?_ ?_ e9 hs
          · have h8 := hok0.2
            cases i <;> first | exact h8 | rfl | exact absurd e9 (by simp [grp])
          · rintro x rfl
            exact llgT_in _ (List.contains_iff_mem.mp hok0.2)
          · rintro x rfl
            exact icgT_in _ (List.contains_iff_mem.mp hok0.2)
        · exact xs_heap F9 hok hd hn e9 hs
        · refine xs_new F9 hok hd hn e9 (fun x e8 e7 => hth ⟨x, e8, e7⟩) (fun t e8 => ?_) hcj2 hs
          subst e8
          exact Classical.byContradiction fun e7 => hfa ⟨t, n, a9, b9, c9, ks, hcd, e7⟩
        · exact xs_call F9 (by rw [hB.1]; exact hEX) hC hNe hcQ hex9 hcd hok hd hn e9 h
        · exact xs_ret hret9 (hret6 B hB) hd hn e9 hs
    · exact h.elim
end SND5
end
section
/-! ===== from the interpreter to the machine, 8: the contracts by depth (by program, wip/whole/gsn6.py) ===== -/
theorem rk_v : ∀ y ∈ List.range 202, (rk y = 1 → mR y = some .int) ∧ (rk y = 2 → mR y = some .boolean) ∧ (rk y = 3 → mR y = some .long) ∧ (rk y = 4 → mR y = some .double) ∧ (rk y = 6 → mR y = some .boolean) := by decide +kernel
def isOb (t : Option FieldType) : Bool := match t with
  | some (.object _) => true
  | _ => false
theorem rk_o : ∀ y ∈ List.range 202, rk y = 5 → isOb (mR y) = true := by decide +kernel
theorem isOb_ex {t : Option FieldType} (h : isOb t = true) : ∃ n, t = some (.object n) := by
  unfold isOb at h
  split at h
  · exact ⟨_, rfl⟩
  · cases h
theorem xk_0 : ∀ w ∈ [Cond.classLink RX8 69 (exn 0), Cond.initialized (exn 0)], w ∈ lw_tbl ∧ goodWord w = true := by decide +kernel
theorem xk_1 : ∀ w ∈ [Cond.classLink RX8 90 (exn 1), Cond.initialized (exn 1)], w ∈ lw_tbl ∧ goodWord w = true := by decide +kernel
theorem xk_2 : ∀ w ∈ [Cond.classLink RX8 135 (exn 2), Cond.initialized (exn 2)], w ∈ lw_tbl ∧ goodWord w = true := by decide +kernel
theorem xf_all : (∀ e ∈ List.range 3, Bundle.fit (exn e) = true) ∧ ∀ n ∈ ["java/lang/RuntimeException", "java/lang/Exception"], Bundle.fit n = true := by decide +kernel
theorem thr_w (e : Nat) (he : e < 3) : ∀ ik ic, ik = [69, 90, 135].getD e 0 → ic = [73, 94, 139].getD e 0 →
    (∀ w ∈ [Cond.classLink RX8 ik (exn e), Cond.initialized (exn e)], w ∈ lw_tbl ∧ goodWord w = true) ∧ (∀ w ∈ (vx_atS RX8 ic (exn e) ["java/lang/RuntimeException", "java/lang/Exception"]).filter goodWord, w ∈ lw_tbl) ∧ (∀ w ∈ (vx_atS RX8 ic (exn e) ["java/lang/RuntimeException", "java/lang/Exception"]).filter (fun w => !goodWord w), w ∈ CW) ∧ (∀ w ∈ vx_atS RX8 ic (exn e) ["java/lang/RuntimeException", "java/lang/Exception"], vx_ot w = true) := by
  match e, he with
  | 0, _ => rintro _ _ rfl rfl; exact ⟨xk_0, xw_0, xn_0, xg_0⟩
  | 1, _ => rintro _ _ rfl rfl; exact ⟨xk_1, xw_1, xn_1, xg_1⟩
  | 2, _ => rintro _ _ rfl rfl; exact ⟨xk_2, xw_2, xn_2, xg_2⟩
theorem CW_use {s : State} {args : Array Value} (h : ∀ w ∈ CW, va_Nw w s) : ∀ w ∈ CW, w.before args s = true := fun w hw => va_Nw.use (by simp only [CW, List.mem_cons, List.not_mem_nil, or_false] at hw; rcases hw with rfl | rfl | rfl | rfl | rfl | rfl <;> rfl) (h w hw)
theorem GW_of {w : Cond} (h1 : w ∈ lw_tbl) (h2 : goodWord w = true) : w ∈ GW := List.mem_filter.mpr ⟨h1, h2⟩
section SND6
variable {k ge w : Nat} {p : Program} {l : Launch} {e : Env} {R : Room} {s : State} {m : MethodId} {args : Array Value} {below : List Frame} {meth : Method} {c : Code} {D : va_G} {ca : Nat → ClassId} {B : AM} {b Ln : Nat} {xs : Nat → Int32} {d : Nat} {QQ : State → Prop}
variable {C : CT} {Q : Post} {pc n a9 b9 c9 : Nat} {L : Lc} {st : List Value} {u : Nat × Nat} {g : Gp}

theorem HRet_of (hk : k < 202) (hx : p.tables.exec = Jvm.exec) (hb : c.code = mB k) (hr : meth.sig.returnType = mR k) (hlocks : meth.locks = false) {Qp : Post} (hcQ : ∀ o g', Qp o g' → tgm ge ≤ tgm g'.1 + w) :
    HRet k ge p l e R s m args below meth c D ca B b Ln xs (vx_MQ below (QcM D ca B b Ln xs Qp) (XcM D ca B b Ln xs Qp) args s (bc k + w) (bs k + 6 * w) (AB B.1)) Qp := by
  intro v pc ls g H locs u hq hrk hd hw hS hE h1 h2 hz0
  have hc9 := hcQ _ _ hq
  refine W.widen (k := bc k + w) (n := bs k + 6 * w) (by unfold uc; omega) (by unfold us; omega) (vx_ret ?_)
  have hv := rk_v k (List.mem_range.mpr hk)
  have hQ : ∀ t : State, t.heap = H → s.WarmedH t.vm → QcM D ca B b Ln xs Qp args s (.returned (v.map (tr B b))) t := fun t ht _ => ⟨⟨v, g, rfl, hq, by rw [ht]; exact hw⟩, hS.F ht⟩
  cases v with
  | none => exact W.vret hx hb (hr.trans (mR_none k (List.mem_range.mpr hk) hrk)) hQ hS.2.2 hd hlocks
  | some v =>
    cases v with
    | int x =>
      rcases hrk with h9 | ⟨h9, h01⟩
      · exact W.iret hx hb (hr.trans (hv.1 h9)) hQ hS.2.2 hd hlocks
      · exact W.zret hx hb (hr.trans (hv.2.1 h9)) (by rcases h01 with rfl | rfl <;> rfl) hQ hS.2.2 hd hlocks
    | long x => exact W.lret hx hb (hr.trans (hv.2.2.1 hrk)) hQ hS.2.2 hd hlocks
    | double x => exact W.dret hx hb (hr.trans (hv.2.2.2.1 hrk)) hQ hS.2.2 hd hlocks
    | null =>
      obtain ⟨n, hn⟩ := isOb_ex (rk_o k (List.mem_range.mpr hk) hrk)
      exact W.aret hx hb (hr.trans hn) (Or.inl ⟨n, rfl⟩) (Or.inl rfl) hQ hS.2.2 hd hlocks
    | ref x =>
      obtain ⟨n, hn⟩ := isOb_ex (rk_o k (List.mem_range.mpr hk) hrk)
      exact W.aret hx hb (hr.trans hn) (Or.inl ⟨n, rfl⟩) (Or.inr ⟨_, rfl⟩) hQ hS.2.2 hd hlocks
    | float x => exact hrk.elim
    | retAddr x => exact hrk.elim
theorem HRet6_of (hk : k < 202) (hx : p.tables.exec = Jvm.exec) (hb : c.code = mB k) (hr : meth.sig.returnType = mR k) (hlocks : meth.locks = false) {Qp : Post} {B9 : AM} (hB9 : BOK k B9 B) (hcQ : ∀ o g', Qp o g' → tgm ge ≤ tgm g'.1 + w) :
    HRet6 k ge p l e R s m args below meth c D ca B9 b Ln xs (vx_MQ below (QcM D ca B b Ln xs Qp) (XcM D ca B b Ln xs Qp) args s (bc k + w) (bs k + 6 * w) (AB B.1)) Qp := by
  intro x pc ls g H locs u h6 h01 h0 h59 hcl hq hd hw hS h1 h2 hz0
  rw [hB9.1] at hS
  have hc9 : tgm ge ≤ tgm g.1 + w := hcQ _ (g.1, g.2.take 59) hq
  refine W.widen (k := bc k + w) (n := bs k + 6 * w) (by unfold uc; omega) (by unfold us; omega) (vx_ret ?_)
  have hv := rk_v k (List.mem_range.mpr hk)
  obtain ⟨⟨tl, htl⟩, hP, hI⟩ := hw
  have hlen : (g.2.take 59).length = 59 := by rw [List.length_take]; omega
  have hw' : WD D ca B b Ln xs (g.1, g.2.take 59) H := by
    refine ⟨⟨tl.take 58, ?_⟩, fun i q hi => ?_, ?_⟩
    · show g.2.take 59 = _
      rw [htl]; rfl
    · have hi : (wof ca B b (g.2.take 59))[i]? = some q := hi
      have hlt := (List.getElem?_eq_some_iff.mp hi).1
      rw [wof_len, hlen] at hlt
      refine hP i q ?_
      rw [← hi, wof_get, wof_get, List.getElem?_take, if_pos (by omega), hB9.2.2 i (by omega)]
      cases e : g.2[i + 1]? with
      | none => rfl
      | some x9 =>
        rw [Option.map_some, Option.map_some, cv_clo (ca := ca) (b := b) (n := 59) (B := B9) (B' := B) (fun j hj => hB9.2.2 j (by omega)) (hcl x9 ?_)]
        refine List.mem_of_getElem? (i := i + 1) ?_
        rw [List.getElem?_take, if_pos (by omega), e]
    · show BI B (g.2.take 59).length
      rw [hlen]
      refine ⟨fun i j hi hj e9 => hI.1 i j (by omega) (by omega) (by rw [hB9.2.2 i (by omega), hB9.2.2 j (by omega)]; exact e9), fun i hi => ?_⟩
      rw [← hB9.1, ← hB9.2.2 i (by omega)]
      exact hI.2 i (by omega)
  have hQ : ∀ t : State, t.heap = H → s.WarmedH t.vm → QcM D ca B b Ln xs Qp args s (.returned (some (.int x))) t := fun t ht _ => ⟨⟨some (.int x), _, rfl, hq, by rw [ht]; exact hw'⟩, hS.F ht⟩
  exact W.zret hx hb (hr.trans (hv.2.2.2.2 h6)) (by rcases h01 with rfl | rfl <;> rfl) hQ hS.2.2 hd hlocks
theorem HThr_of (F : FrC k w p R s m args meth c D ca B b Ln xs (d + 1)) (hRc : R.cells = bc k + w) (hRs : R.slots = bs k + 6 * w) (hEX : EXF B.1 s) (hl : l.stackTraces = false) (hlocks : meth.locks = false) (htab : hhs k = [] → ∀ x ∈ c.exceptionTable.toList, False) {Qp : Post} (hcQ : ∀ o g', Qp o g' → tgm ge ≤ tgm g'.1 + w) :
    HThr k ge p l e R s m args below meth c D ca B b Ln xs (vx_MQ below (QcM D ca B b Ln xs Qp) (XcM D ca B b Ln xs Qp) args s (bc k + w) (bs k + 6 * w) (AB B.1)) Qp := by
  obtain ⟨hx, hb, hml, hown, hts, hSF, hbB, hBs, hX, hR1, hR2, hR3, hR4, hnm⟩ := F
  intro pc x n e9 b9 ks hcd g H locs L ls st u hq hfz hlen hlh hw hS h1' h2' hz0
  have hc9 : tgm ge ≤ tgm (g.1 - 1) + w := hcQ _ _ hq
  rw [(tg_sub (Or.inr (by omega) : (1 : Nat) = 0 ∨ 1 < g.1)).1] at hc9
  have hm9 := hz0.1
  have ht1 : 1 ≤ tgm g.1 := (tg_sub (Or.inr (by omega) : (1 : Nat) = 0 ∨ 1 < g.1)).2
  have h1 : uc ge u g.1 + 1 ≤ bc k + w := by unfold uc; omega
  have h2 : us ge u g.1 + 6 ≤ bs k + 6 * w := by unfold us; omega
  generalize uc ge u g.1 = u1 at *
  generalize us ge u g.1 = u2 at *
  obtain ⟨is, ic, wz, ht⟩ := th_at hcd
  have hB := th_all _ ht
  simp only [thB, Bool.and_eq_true, decide_eq_true_eq, List.isEmpty_iff] at hB
  obtain ⟨⟨⟨⟨⟨⟨⟨⟨⟨h8, -⟩, he⟩, hic⟩, hik⟩, d0⟩, d3⟩, hst⟩, hhe⟩, hdd⟩ := hB
  obtain ⟨hkw, hxw, hxn, hxg⟩ := thr_w e9 he x ic hik hic
  have hRn : Rn (own k) = RX8 := by rw [h8]; rfl
  rw [hRn] at hown
  obtain ⟨q, hqs, hqi⟩ := List.any_eq_true.mp hst
  obtain ⟨i0, tx⟩ := q
  obtain rfl : i0 = is := by simpa using hqi
  obtain ⟨sa, hsa⟩ := hEX.2.2.2.1 _ hqs
  have hk0 := hkw _ List.mem_cons_self
  have hk1 := hkw _ (List.mem_cons_of_mem _ List.mem_cons_self)
  have hat : ∀ w ∈ vx_atS RX8 ic (exn e9) ["java/lang/RuntimeException", "java/lang/Exception"], w.before args s = true := vx_hat (fun w hw9 => hts w (GW_of (hxw w hw9) (List.mem_filter.mp hw9).2)) hxn (CW_use hEX.2.2.1)
  have hgood : ∀ w ∈ Cond.classLink RX8 x (exn e9) :: Cond.initialized (exn e9) :: vx_atS RX8 ic (exn e9) ["java/lang/RuntimeException", "java/lang/Exception"], vx_ot w = true := by
    intro w hw9
    rcases List.mem_cons.mp hw9 with rfl | hw9
    · simp [vx_ot, hk0.2]
    · rcases List.mem_cons.mp hw9 with rfl | hw9
      · simp [vx_ot, hk1.2]
      · exact hxg w hw9
  have hcs := cat_sum st
  have hX9 : ∀ t : State, s.vm.Alike t.vm → H.size ≤ t.heap.size → (∀ q : Nat, q < H.size → t.heap[q]? = H[q]?) → XcM D ca B b Ln xs Qp (exn e9) s t := by
    intro t _ hz hk
    refine ⟨⟨e9, (g.1 - 1, g.2), rfl, hq, hw.1, hw.2.1.kept fun k9 q9 hq9 => hk _ (hw.2.1 k9 q9 hq9).lt, hw.2.2⟩, Nat.le_trans hS.1 hz, fun q h3 h4 => ?_⟩
    rw [hk q (Nat.lt_of_lt_of_le h3 hS.1)]
    exact hS.2.1 q h3 h4
  have hRf : (["java/lang/RuntimeException", "java/lang/Exception"] : List String).length + 3 < R.frames := by show 2 + 3 < R.frames; omega
  have hRl : (((st.map (tr B b)).map fun v => v.category).sum) + (13 * ((["java/lang/RuntimeException", "java/lang/Exception"] : List String).length + 1) + 43) ≤ R.locals := by
    rw [cat_tr]
    show _ + (13 * (2 + 1) + 43) ≤ _
    omega
  by_cases hw0 : wz = 0
  · rw [if_pos hw0] at hdd
    simp only [Bool.and_eq_true, decide_eq_true_eq] at hdd
    exact vx_throwS hx hb hl hown (xf_all.1 e9 (List.mem_range.mpr he)) xf_all.2 (hts _ (GW_of hk0.1 hk0.2)) (hts _ (GW_of hk1.1 hk1.2)) hsa hat hgood hEX.1 hEX.2.1 hS (hlh.1.trans hml.symm) d0 d3 hdd.1.1 hdd.1.2 hdd.2 (fun x9 hx9 => (htab hhe x9 hx9).elim) hRf hRl (by omega) (by omega) hlocks hX9 hS.2.2 h1 h2
  · rw [if_neg hw0] at hdd
    simp only [Bool.and_eq_true, decide_eq_true_eq] at hdd
    exact vx_throwSW hx hb hl hown (xf_all.1 e9 (List.mem_range.mpr he)) xf_all.2 (hts _ (GW_of hk0.1 hk0.2)) (hts _ (GW_of hk1.1 hk1.2)) hsa hat hgood hEX.1 hEX.2.1 hS (hlh.1.trans hml.symm) d0 d3 hdd.1.1 hdd.1.2 hdd.2 (fun x9 hx9 => (htab hhe x9 hx9).elim) hRf hRl (by omega) (by omega) hlocks hX9 hS.2.2 h1 h2
end SND6
/-- handlers: method, exception, answer, place, the class' link, the local, its form, its place in the table, the answer's constant -/
def hT : List (Nat × Nat × Int32 × Nat × Nat × Nat × Nat × Nat × Nat) := [(132, 0, (-5000001), 10, 15, 4, 1, 0, 17), (133, 1, (-5000003), 10, 21, 4, 1, 0, 23), (133, 0, (-5000001), 15, 15, 4, 1, 1, 17), (134, 2, (-5000002), 8, 28, 2, 0, 0, 30), (135, 1, (-5000003), 9, 21, 3, 0, 0, 23), (136, 1, (-5000003), 10, 21, 4, 1, 0, 23), (136, 0, (-5000001), 15, 15, 4, 1, 1, 17), (137, 0, (-5000001), 9, 15, 3, 0, 0, 17), (138, 1, (-5000003), 10, 21, 4, 1, 0, 23), (139, 1, (-5000003), 10, 21, 4, 1, 0, 23), (139, 0, (-5000001), 15, 15, 4, 1, 1, 17), (140, 1, (-5000003), 10, 21, 4, 1, 0, 23), (141, 1, (-5000003), 10, 21, 4, 1, 0, 23), (142, 1, (-5000003), 9, 21, 3, 0, 0, 23), (143, 1, (-5000003), 9, 21, 3, 0, 0, 23), (144, 0, (-5000001), 9, 15, 3, 0, 0, 17), (145, 0, (-5000001), 9, 15, 3, 0, 0, 17), (146, 1, (-5000003), 9, 21, 3, 0, 0, 23), (147, 0, (-5000001), 9, 15, 3, 0, 0, 17), (147, 2, (-5000002), 13, 28, 3, 0, 1, 30), (148, 2, (-5000002), 8, 28, 2, 0, 0, 30)]
def cnm (ci : Nat) : Nat := if ci = 15 then 0 else if ci = 21 then 1 else 2
theorem cnm_w : ∀ ci ∈ [15, 21, 28], Cond.classLink RL ci (exn (cnm ci)) ∈ lw_tbl ∧ goodWord (Cond.classLink RL ci (exn (cnm ci))) = true := by decide +kernel
def grB (q : Nat × Instr × Nat × Nat × Nat × Nat × List Nat) : Bool := grp q.2.1 == 3
def hcB (t : Nat × Nat × Int32 × Nat × Nat × Nat × Nat × Nat × Nat) : Bool := match t with
  | (k, e, r, hp, ci, j, w, ps, cx) => decide (own k = 10) && [15, 21, 28].contains ci && decide (cnm ci = e) && decide (j < mxl k) && decide (rk k = 1) && decide (k < 202) &&
    (match (hhs k)[ps]? with
      | some (s0, e0, h0, c0) => decide (h0 = hp) && decide (c0 = ci) && (cdL.getD k []).all (fun q => !grB q || (decide (s0 ≤ q.1) && decide (q.1 < e0)))
      | none => false) &&
    ((hhs k).take ps).all (fun z => [15, 21, 28].contains z.2.2.2 && (decide (e = 0 ∧ cnm z.2.2.2 = 1) || decide (e = 2 ∧ cnm z.2.2.2 = 0))) &&
    (if w = 0 then (j < 4 && decide (decode (mB k) hp = .ok (.astore_n (Fin.ofNat 4 j), 1)) && decide (decode (mB k) (hp + 1) = .ok (.ldc cx, 2)) && decide (decode (mB k) (hp + 1 + 2) = .ok (.ireturn, 1)))
     else (decide (decode (mB k) hp = .ok (.astore j, 2)) && decide (decode (mB k) (hp + 2) = .ok (.ldc cx, 2)) && decide (decode (mB k) (hp + 2 + 2) = .ok (.ireturn, 1)))) &&
    (match icgT.find? fun q => q.1 == 10 && q.2.1 == cx with
      | some q => decide (icv q.2.2 = r)
      | none => false)
theorem hc_all : ∀ t ∈ hT, hcB t = true := by decide +kernel
def hnB (k : Nat) : Bool := (hndL.getD k []).all fun q => hT.any fun t => t.1 == k && t.2.1 == q.1 && decide (t.2.2.1 = q.2)
theorem hn_all : ∀ k ∈ List.range 203, hnB k = true := by decide +kernel
theorem hnd_at {k e : Nat} {r : Int32} (h : hnd k e = some r) : ∃ hp ci j w ps cx, (k, e, r, hp, ci, j, w, ps, cx) ∈ hT := by
  unfold hnd at h
  obtain ⟨q, hq, rfl⟩ := Option.map_eq_some_iff.mp h
  have h1 := List.mem_of_find?_eq_some hq
  have h2 : q.1 = e := by simpa using List.find?_some hq
  have hk : k < 203 := by
    by_cases hk : k < 203
    · exact hk
    · rw [List.getD_eq_getElem?_getD, List.getElem?_eq_none (by show 202 + 1 ≤ k; omega)] at h1
      cases h1
  have h3 := List.all_eq_true.mp (hn_all k (List.mem_range.mpr hk)) q h1
  obtain ⟨t, ht, h4⟩ := List.any_eq_true.mp h3
  obtain ⟨k', e', r', hp, ci, j, w, ps, cx⟩ := t
  simp only [Bool.and_eq_true, beq_iff_eq, decide_eq_true_eq] at h4
  obtain ⟨⟨rfl, rfl⟩, rfl⟩ := h4
  subst h2
  exact ⟨hp, ci, j, w, ps, cx, ht⟩
end
section
/-! ===== from the interpreter to the machine, 9: handlers; a method's contract, by depth ===== -/
theorem exn_cnm (ci : Nat) : cnm ci < 3 := by
  unfold cnm
  split
  · decide
  · split <;> decide
theorem CW_cast {s : State} {args : Array Value} (h : ∀ w ∈ CW, va_Nw w s) (e : Nat) (he : e < 3) : (Cond.castable (exn e) (exn e)).before args s = true := by
  match e, he with
  | 0, _ => exact va_Nw.use rfl (h _ List.mem_cons_self)
  | 1, _ => exact va_Nw.use rfl (h _ (List.mem_cons_of_mem _ List.mem_cons_self))
  | 2, _ => exact va_Nw.use rfl (h _ (List.mem_cons_of_mem _ (List.mem_cons_of_mem _ List.mem_cons_self)))
theorem tab_split {l : List (Nat × Nat × Nat × Nat)} {ps : Nat} {x : Nat × Nat × Nat × Nat} (h : l[ps]? = some x) : tableOf l = tableOf (l.take ps) ++ ⟨x.1, x.2.1, x.2.2.1, x.2.2.2⟩ :: tableOf (l.drop (ps + 1)) := by
  obtain ⟨hlt, he⟩ := List.getElem?_eq_some_iff.mp h
  have h1 : l.take ps ++ x :: l.drop (ps + 1) = l := by
    rw [← he, ← List.drop_eq_getElem_cons hlt, List.take_append_drop]
  unfold tableOf
  conv => lhs; rw [← h1]
  rw [List.map_append, List.map_cons]
section SND7
variable {k ge w : Nat} {p : Program} {l : Launch} {e : Env} {R : Room} {s : State} {m : MethodId} {args : Array Value} {below : List Frame} {meth : Method} {c : Code} {D : va_G} {ca : Nat → ClassId} {B : AM} {b Ln : Nat} {xs : Nat → Int32} {d : Nat} {QQ : State → Prop} {Q : Post}
theorem HExc_of (F : FrC k w p R s m args meth c D ca B b Ln xs (d + 1)) (hEX : EXF B.1 s) (hret : HRet k ge p l e R s m args below meth c D ca B b Ln xs QQ Q) (htab : hhs k ≠ [] → c.exceptionTable.toList = tableOf (hhs k)) :
    HExc k ge p l e R s m args below meth c D ca B b Ln xs QQ Q := by
  obtain ⟨hx, hb, hml, hown, hts, hSF, hbB, hBs, hX, hR1, hR2, hR3, hR4, hnm⟩ := F
  intro pc i n a9 b9 c9 ks hcd hg e9 r9 hr9 g H locs L ls rest q ce u hq hlh hw hS hE h1 h2 hz0 hce hcv hcl
  obtain ⟨hp, ci, j, wz, ps, cx, ht⟩ := hnd_at hr9
  have hB := hc_all _ ht
  simp only [hcB, Bool.and_eq_true, decide_eq_true_eq] at hB
  obtain ⟨⟨⟨⟨⟨⟨⟨⟨⟨h10, hci⟩, hcn⟩, hj⟩, hrk⟩, hk⟩, hps⟩, hpre⟩, hdd⟩, hcx⟩ := hB
  have hRn : Rn (own k) = RL := by rw [h10]; rfl
  have hkx : Cond.constant RL cx r9 ∈ GW := by
    split at hcx
    · rename_i qx hqx
      have hm := List.mem_of_find?_eq_some hqx
      have hp9 := List.find?_some hqx
      obtain ⟨o9, i9, a8⟩ := qx
      simp only [Bool.and_eq_true, beq_iff_eq] at hp9
      obtain ⟨rfl, rfl⟩ := hp9
      have h8 := icgT_in _ hm
      have hcx : icv a8 = r9 := of_decide_eq_true hcx
      have h8 : Cond.constant (Rn 10) i9 (icv a8) ∈ GW := h8
      rw [hcx] at h8
      exact h8
    · cases hcx
  rw [hRn] at hown
  split at hps
  · rename_i s0 e0 h0 c0 hge
    simp only [Bool.and_eq_true, decide_eq_true_eq] at hps
    obtain ⟨⟨rfl, rfl⟩, hall⟩ := hps
    have hne : hhs k ≠ [] := by intro e1; rw [e1] at hge; simp at hge
    have hcov := List.all_eq_true.mp hall _ (cd_mem hcd)
    simp only [grB, hg, beq_self_eq_true, Bool.not_true, Bool.false_or, Bool.and_eq_true] at hcov
    have hcw := cnm_w c0 (by simpa using hci)
    refine vx_catch (own := RL) (name := exn (cnm c0)) (E := exn e9) hown (tableOf ((hhs k).take ps)) ⟨s0, e0, h0, c0⟩ (tableOf ((hhs k).drop (ps + 1))) ((htab hne).trans (tab_split hge)) ?_ ?_ ?_ (hts _ (GW_of hcw.1 hcw.2)) ?_ hce hcv hcl ?_
    · intro z hz
      obtain ⟨z', hz', rfl⟩ := List.mem_map.mp hz
      have h9 := List.all_eq_true.mp hpre z' hz'
      simp only [Bool.and_eq_true, Bool.or_eq_true, decide_eq_true_eq] at h9
      have hcz := cnm_w z'.2.2.2 (by simpa using h9.1)
      refine Or.inr ⟨?_, exn (cnm z'.2.2.2), hts _ (GW_of hcz.1 hcz.2), ?_⟩
      · have h8 := h9.1
        intro e1
        have e2 : z'.2.2.2 = 0 := e1
        rw [e2] at h8
        exact absurd h8 (by decide)
      · rcases h9.2 with ⟨e1, e2⟩ | ⟨e1, e2⟩
        · rw [e1, e2]; exact hEX.2.2.2.2.1
        · rw [e1, e2]; exact hEX.2.2.2.2.2
    · exact Bool.and_eq_true_iff.mpr hcov
    · intro e1
      have e2 : c0 = 0 := e1
      rw [e2] at hci
      exact absurd hci (by decide)
    · rw [hcn]
      exact CW_cast hEX.2.2.1 e9 (hcn ▸ exn_cnm c0)
    · show W p l e R s m args below meth c H locs (uc ge u g.1) (us ge u g.1) QQ (F0 m h0 ls [.ref q])
      by_cases hw0 : wz = 0
      · rw [if_pos hw0] at hdd
        simp only [Bool.and_eq_true, decide_eq_true_eq] at hdd
        refine lv_astore_n (i := j) hx hb hdd.1.1.2 ?_ hlh.has hj rfl (fun ls1 hl1 => lv_ldc hx hb hown (hts _ hkx) hdd.1.2 (hret (some (.int r9)) (h0 + 1 + 2) ls1 g H locs u hq (Or.inl hrk) hdd.2 hw hS hE h1 h2 hz0))
        show j % 4 = j
        have := hdd.1.1.1
        omega
      · rw [if_neg hw0] at hdd
        simp only [Bool.and_eq_true, decide_eq_true_eq] at hdd
        exact lv_astore hx hb hdd.1.1 hlh.has hj rfl (fun ls1 hl1 => lv_ldc hx hb hown (hts _ hkx) hdd.1.2 (hret (some (.int r9)) (h0 + 2 + 2) ls1 g H locs u hq (Or.inl hrk) hdd.2 hw hS hE h1 h2 hz0))
  · cases hps
theorem met_body (hl : l.stackTraces = false) (ih : HCal l (cal d) d) {y : Nat} (hy : y < 202) {vs : List Value} {g : Gp} {w : Nat} (hw0 : w = 0 ∨ w < g.1) (hQm : ∀ o g', Q o g' → g.1 ≤ g'.1 + w ∧ g'.1 ≤ g.1) (h : cal (d + 1) y vs g Q) {s₁ : State} (BL : BodyLoose p l (mN y) (headSpec (wsM y) (rmM y (d + 1) w)) (mB y) (mxl y) (mR y) e s m args below meth c s₁) (hml : c.maxLocals = mxl y)
    (ht1 : hhs y = [] → ∀ x ∈ c.exceptionTable.toList, False) (ht2 : hhs y ≠ [] → c.exceptionTable.toList = tableOf (hhs y)) (hv : PcM D ca B b Ln xs vs g args s) :
    W p l e (headSpec (wsM y) (rmM y (d + 1) w)).room s m args below meth c s.heap [] 0 0 (vx_MQ below (QcM D ca B b Ln xs Q) (XcM D ca B b Ln xs Q) args s (bc y + w) (bs y + 6 * w) (AB B.1)) (entryFrame m args (mxl y)) := by
  obtain ⟨rfl, hSF, hEX, hbB, hBs, hX, hW, hE0⟩ := hv
  have hmk := mok_at (Nat.lt_succ_of_lt hy)
  have hown : s.vm.findClass (Rn (own y)) = some m.cls := by rw [← hmk.2.2.2]; exact findClass_of_methodNamed BL.named
  have hts : ∀ w ∈ GW, w.before (vs.map (tr B b)).toArray s = true := fun w hw => atoms_spec (ws := wsM y) BL.pre w (List.mem_cons_of_mem _ hw)
  have F : FrC y w p (headSpec (wsM y) (rmM y (d + 1) w)).room s m (vs.map (tr B b)).toArray meth c D ca B b Ln xs (d + 1) :=
    ⟨BL.exec, BL.bytes, hml, hown, hts, hSF, hbB, hBs, hX, Nat.le_refl _, Nat.le_refl _, Nat.le_refl _, Nat.le_refl _, fun h9 => (name_of_methodNamed BL.named BL.method).1.trans h9⟩
  have hcQ : ∀ o g', Q o g' → tgm g.1 ≤ tgm g'.1 + w := by
    intro o g' h9
    obtain ⟨q1, q2⟩ := hQm o g' h9
    unfold tgm
    rcases hw0 with rfl | hw0
    · have : g'.1 = g.1 := by omega
      rw [this]; omega
    · rw [if_neg (by omega), if_neg (by omega)]; omega
  have hret := HRet_of (l := l) (e := e) (R := (headSpec (wsM y) (rmM y (d + 1) w)).room) (s := s) (m := m) (args := (vs.map (tr B b)).toArray) (below := below) (D := D) (ca := ca) (B := B) (b := b) (Ln := Ln) (xs := xs) hy BL.exec BL.bytes BL.returns BL.notSynchronized (Qp := Q) hcQ
  have hret6 := fun (B9 : AM) (hB9 : BOK y B9 B) => HRet6_of (l := l) (e := e) (R := (headSpec (wsM y) (rmM y (d + 1) w)).room) (s := s) (m := m) (args := (vs.map (tr B b)).toArray) (below := below) (D := D) (ca := ca) (B := B) (b := b) (Ln := Ln) (xs := xs) hy BL.exec BL.bytes BL.returns BL.notSynchronized (Qp := Q) hB9 hcQ
  have hx6 : ∀ e9 r9, hnd y e9 = some r9 → rk y ≠ 6 := by
    intro e9 r9 hr9
    obtain ⟨hp, ci, j, wz, ps, cx, ht⟩ := hnd_at hr9
    have hB := hc_all _ ht
    simp only [hcB, Bool.and_eq_true, decide_eq_true_eq] at hB
    have := hB.1.1.1.1.1.2
    omega
  have hall := xs_all F hEX ih (cal_mono d) (cal_ne d) hcQ hret hret6 (HThr_of F rfl rfl hEX hl BL.notSynchronized ht1 hcQ) (HExc_of F hEX hret ht2) hx6 h.2.2
  rw [lg_entry_eq]
  have h9 := hall s.heap [] _ (LH.ent h.1) hW va_S.rf (by rw [Nat.add_zero]; exact hE0) (Nat.zero_le _) (Nat.zero_le _) ⟨Nat.le_refl _, fun e9 => e9⟩
  have e0 : uc g.1 (0, 0) g.1 = 0 ∧ us g.1 (0, 0) g.1 = 0 := by unfold uc us; omega
  rw [e0.1, e0.2] at h9
  exact h9
end SND7
/-- what the interpreter says of a call holds on the machine -/
theorem met_sound (l : Launch) (hl : l.stackTraces = false) : ∀ d : Nat, HCal l (cal d) d := by
  intro d
  induction d with
  | zero => exact fun y _ vs g w Q _ _ h => h.elim
  | succ d ih =>
    intro y hy vs g w Q hw0 hQm h D ca B b Ln xs
    have hmk := mok_at (Nat.lt_succ_of_lt hy)
    by_cases hh : hhs y = []
    · refine vx_ofW hmk.1 (wsM_code hh) ?_
      intro p e s m args below meth c s₁ BL hml htb hv
      exact met_body hl ih hy hw0 hQm h BL hml (fun _ => htb) (fun h9 => absurd hh h9) hv
    · refine vx_ofWH hmk.1 (wsM_with hh) ?_
      intro p e s m args below meth c s₁ BL hml hv
      exact met_body hl ih hy hw0 hQm h BL hml (fun h9 => absurd h9 hh) (fun _ => vx_table (x := mN y) BL (atoms_spec (ws := wsM y) BL.pre _ (by rw [wsM_with hh]; exact List.mem_cons_self))) hv
end
section
-- ===== end of PART A; then your names; then what follows =====
/-! THE CLAIM OUT OF ONE WALK OF THE LAW'S BODY. Your part is whole_start (and what it stands on); all else here is the same for every law, but numbers. -/
def R_law : String := "RuneBandsLaw"
def lw_P (b : Addr) (xs : List Int32) (args : Array Value) (s : State) : Prop := args = #[.ref b] ∧ s.IntsAt b xs ∧ xs.length ≤ 260 ∧ (Jvm.Cond.and given_1 narrow_1).before args s = true
/-- what a walk over the start with the record d0 says of its end, said of the start itself -/
theorem lw_closed {s t : State} {o : Outcome} {d0 : Drawn} {L : List Loc} {k n : Nat} (hd0 : s.drawn.sameBut d0 lw_cs) (hv : ∃ v, o = .returned v) (hW : (s.setDrawn d0).WarmedH t.vm) (hs : (s.setDrawn d0).sameButNew ({ t with vm := s.vm } : State) L k n) : State.butDraws s t lw_cs (fun t1 => Framed s o t1 L k n) := by
  have h2 : t.drawn = d0 := congrArg State.drawn hs.1
  refine ⟨⟨hv, hW, State.sameButNew.setDrawn hs s.drawn⟩, ?_, by decide⟩
  rw [h2]
  exact hd0
def lw_Q (_ : Array Value) (s : State) (o : Outcome) (t : State) : Prop := o = .returned (some (.int 1)) ∧ State.butDraws s t lw_cs (fun t1 => Framed s o t1 [] 730532 6909587)
def lw_Z (below : List Frame) (a : Array Value) (s : State) : State → Prop := fun t => ∃ o, t.status = .running ∧ Ended t below o ∧ lw_Q a s o t
/-- the law's own end, with 1 on the stack, nothing written that was there before, its room as the claim has it; d0: the record of draws at this point (at the entry s.drawn: begin with 'refine W.base ?_' and 'have hd0 := Drawn.sameBut.refl s.drawn lw_cs') -/
theorem lw_ret {p : Program} {l : Launch} {e : Env} {s : State} {m : MethodId} {below : List Frame} {meth : Method} {c : Code} {b : Nat} {d0 : Drawn} (hd0 : s.drawn.sameBut d0 lw_cs) (hx : p.tables.exec = Jvm.exec) (hb : c.code = code) (hr : meth.sig.returnType = ret) (hlocks : meth.locks = false) {pc : Nat} {H : Heap} {ls : Array Slot} (hdg : decode code pc = .ok (.ireturn, 1)) : W p l e room_1 (s.setDrawn d0) m #[Value.ref b] below meth c H [] 730532 6909587 (lw_Z below #[Value.ref b] s) (F0 m pc ls [.int 1]) := by
  intro T hT X
  obtain ⟨fs, hret, hrun, hended, hW, hframe⟩ := X.leave (v := some (.int 1)) (hlocks := hlocks) (fun h => by rw [hr] at h; cases h)
  have hmeth' : T.vm.method? m = some meth := X.method'
  refine ⟨T.setFrames fs, ?_, .returned (some (.int 1)), hrun, hended, rfl, lw_closed hd0 ⟨_, rfl⟩ hW hframe⟩
  jvm_step X.here [X.here.top, hx, hb, hdg, hmeth', hr, ret, narrow_b1]
  (try refine ⟨rfl, ?_⟩); (try refine ⟨rfl, ?_⟩)
  first | (intro acts; rw [hret _ acts rfl rfl rfl]) | rw [hret _ _ rfl rfl rfl]
  exact Steps.refl _
/-- what holds at the law's entry: the machine, the code, the tables' words (any of lw_tbl by 'hts w (by decide +kernel)'), the script of L ints xs at the cell b, what the Statement gives of the start (any of its parts by flat_of_before) -/
def lw_At (p : Program) (s : State) (m : MethodId) (meth : Method) (c : Code) (b L : Nat) (xs : Nat → Int32) : Prop :=
  p.tables.exec = Jvm.exec ∧ c.code = code ∧ meth.sig.returnType = ret ∧ c.maxLocals = 10 ∧ s.vm.findClass R_law = some m.cls ∧ (∀ w ∈ lw_tbl, w.before #[Value.ref b] s = true) ∧ va_X b L xs s s.heap ∧ b < s.heap.size ∧ meth.locks = false ∧ (Jvm.Cond.and given_1 narrow_1).before #[Value.ref b] s = true
end
section
/-! ===== the law's entry: from the interpreter's word on the law's code to the walk of the law ===== -/
theorem NW_tbl : ∀ w ∈ NW, w ∈ lw_tbl := by
  intro w hw
  rcases List.mem_append.mp hw with h | h
  · obtain ⟨q, hq, rfl⟩ := List.mem_map.mp h
    exact flnT_in q hq
  · obtain ⟨q, hq, rfl⟩ := List.mem_map.mp h
    exact mlnT_in q hq
theorem CW_tbl : ∀ w ∈ CW, w ∈ lw_tbl := by decide +kernel
theorem aow_tbl : ∀ w ∈ [Cond.arrayOver (.object "RuneBands$Stone"), Cond.arrayOver (.object "RuneBands$Words"), Cond.laysStatic Bundle.tN "UNASSIGNED_STACK" Bundle.steD, Cond.laysStatic Bundle.tN "SUPPRESSED_SENTINEL" Bundle.listD, Cond.initialized Bundle.tN], w ∈ lw_tbl := by decide +kernel
theorem str_tbl : ∀ q ∈ stT, Cond.stringRef RX8 q.1 q.2 ∈ lw_tbl := by decide +kernel
theorem nar_1 : ∀ w ∈ [Cond.isRef (.static Bundle.tN "UNASSIGNED_STACK" Bundle.steD), Cond.isRef (.static Bundle.tN "SUPPRESSED_SENTINEL" Bundle.listD), Cond.not (.castable (exn 0) (exn 1)), Cond.not (.castable (exn 2) (exn 0))], w ∈ flatC (Jvm.Cond.and given_1 narrow_1) := by decide +kernel
theorem nar_2 : ∀ q ∈ stT, Cond.exactly (.string RX8 q.1) "java/lang/String" ∈ flatC (Jvm.Cond.and given_1 narrow_1) := by decide +kernel
theorem K_all {s : State} {args : Array Value} (hts : ∀ w ∈ lw_tbl, w.before args s = true) : ∃ (D : va_G) (ca : Nat → ClassId), SF D ca s := by
  have hgw : ∀ w ∈ GW, w.before args s = true := fun w hw => hts w (List.mem_filter.mp hw).1
  have hk : ∀ a : Nat, ∃ q : ClassId × (Nat → Nat), a < 9 → u_Kn s (Rn a) (TXf a) (nf a) q.1 q.2 := by
    intro a
    by_cases ha : a < 9
    · obtain ⟨cC, iS, h⟩ := u_known (C := Rn a) (T := TXf a) (N := nf a) (n := nf a) hgw (ws_in ha) (hgw _ (insT_in a (ins_all a (List.mem_range.mpr ha))))
      exact ⟨(cC, iS), fun _ => h⟩
    · exact ⟨(0, fun _ => 0), fun h => absurd h ha⟩
  obtain ⟨f, hf⟩ := Classical.axiomOfChoice hk
  obtain ⟨c0, k0, p0, a1, a2, a3⟩ := Cond.arrayClass_spec (hts (.arrayClass .int) (List.mem_filter.mp (sp_at (j := 7) rfl)).1)
  obtain ⟨c1, k1, p1, b1, b2, b3⟩ := Cond.arrayClass_spec (hts (.arrayClass .long) (List.mem_filter.mp (sp_at (j := 8) rfl)).1)
  obtain ⟨c2, k2, p2, d1, d2, d3⟩ := Cond.arrayClass_spec (hts (.arrayClass .int) (List.mem_filter.mp (sp_at (j := 9) rfl)).1)
  have hS := hts _ (aow_tbl _ List.mem_cons_self)
  have hW := hts _ (aow_tbl _ (List.mem_cons_of_mem _ List.mem_cons_self))
  obtain ⟨p3, c3, k3, e0, -, e2, e3, e4⟩ := Cond.arrayOver_spec hS
  obtain ⟨p4, c4, k4, f0, -, f2, f3, f4⟩ := Cond.arrayOver_spec hW
  refine ⟨(fun a => (f a).1, fun a => (f a).2), fun t => [c0, c1, c2, c3, c4].getD t 0, ⟨fun c q hq => ?_, fun k q hq => ?_⟩, fun w hw => ?_, va_AO.of hS, va_AO.of hW⟩
  · have hc : c < 9 := (List.getElem?_eq_some_iff.mp hq).1
    rw [vwCl_at c hc] at hq
    cases hq
    exact hf c hc
  · match k, hq with
    | 0, hq => cases hq; exact ⟨fun N z => ⟨(fun k h => by cases h), k0, a2, p0, a3⟩, a1⟩
    | 1, hq => cases hq; exact ⟨fun N z => ⟨(fun k h => by cases h), k1, b2, p1, b3⟩, b1⟩
    | 2, hq => cases hq; exact ⟨fun N z => ⟨(fun k h => by cases h), k2, d2, p2, d3⟩, d1⟩
    | 3, hq => cases hq; exact ⟨fun N z => ⟨(fun k h => by cases h), k3, e2, p3, e3⟩, k3, p3, e2, e3, e0, e4⟩
    | 4, hq => cases hq; exact ⟨fun N z => ⟨(fun k h => by cases h), k4, f2, p4, f3⟩, k4, p4, f2, f3, f0, f4⟩
    | k + 5, hq => simp [tys] at hq
  · have h1 := hts w (NW_tbl w hw)
    rcases NW_form w hw with ⟨a, i, r, n, dd, hh, rfl⟩ | ⟨a, i, x, hh, rfl⟩ <;> exact va_Nw.of rfl h1
theorem EXF_start {s : State} {args : Array Value} (hts : ∀ w ∈ lw_tbl, w.before args s = true) (hgv : (Jvm.Cond.and given_1 narrow_1).before args s = true) : EXF s.heap.size s := by
  have hn := flat_of_before _ hgv
  have hA : ∀ a : Nat, a < s.heap.size → ¬ AB s.heap.size a := fun a ha => Nat.not_le.mpr ha
  have m1 : ∀ {w : Cond} {l : List Cond}, w ∈ w :: l := List.mem_cons_self
  have hi := hts _ (aow_tbl (Cond.initialized Bundle.tN) (by simp))
  refine ⟨vx_Zqof (hts _ (aow_tbl _ (by simp))) hi (hn _ (nar_1 _ (by simp))) hA, vx_Zqof (hts _ (aow_tbl _ (by simp))) hi (hn _ (nar_1 _ (by simp))) hA, fun w hw => ?_, fun q hq => ?_, va_Nc.of (hn _ (nar_1 _ (by simp))), va_Nc.of (hn _ (nar_1 _ (by simp)))⟩
  · have h1 := hts w (CW_tbl w hw)
    simp only [CW, List.mem_cons, List.not_mem_nil, or_false] at hw
    rcases hw with rfl | rfl | rfl | rfl | rfl | rfl <;> exact va_Nw.of rfl h1
  · obtain ⟨a, c, cell, k, q1, -⟩ := Cond.exactly_spec (hn _ (nar_2 q hq))
    exact ⟨a, vk_R.of (hts _ (str_tbl q hq)) q1⟩
def scr (L : Nat) (xs : Nat → Int32) : List AE := [.inl (9, L, .inl xs)]
/-- the units that the law may use -/
def W0 : Nat := 700000
theorem law_sound {p : Program} {e : Env} {s : State} {m : MethodId} {below : List Frame} {meth : Method} {c : Code} (l : Launch) (hflags : l.flags = flags0) {b L : Nat} {xs : Nat → Int32} (C0 : lw_At p s m meth c b L xs)
    (hE : EX (cal 60) 202 (fun o _ => o = .inl (some (.int 1))) 0 (entL 10 [.ref 0]) [] (0, 0) (0, scr L xs)) : W p l e room_1 s m #[Value.ref b] below meth c s.heap [] 0 0 (lw_Z below #[Value.ref b] s) (entryFrame m ([Value.ref b] : List Value).toArray 10) := by
  obtain ⟨hx, hb, hr, hml, hown, hts, hX, hbl, hlocks, hgv⟩ := id C0
  have hl : l.stackTraces = false := by
    unfold Launch.stackTraces
    rw [hflags]
    decide +kernel
  have hgw : ∀ w ∈ GW, w.before #[Value.ref b] s = true := fun w hw => hts w (List.mem_filter.mp hw).1
  obtain ⟨D, ca, hSF⟩ := K_all hts
  have hEX := EXF_start hts hgv
  let B0 : AM := (s.heap.size, fun i => s.heap.size + i)
  have F : FrC 202 W0 p room_1 s m #[Value.ref b] meth c D ca B0 b L xs (60 + 1) :=
    ⟨hx, hb, hml, hown, hgw, hSF, hbl, Nat.le_refl _, hX, Nat.le_of_ble_eq_true rfl, Nat.le_of_ble_eq_true rfl, Nat.le_of_ble_eq_true rfl, Nat.le_of_ble_eq_true rfl, fun h => absurd h (by decide +kernel)⟩
  have htg : ∀ m : Nat, tgm 0 ≤ tgm m + W0 := by
    intro m
    show M0 ≤ _
    unfold tgm M0 W0
    split <;> omega
  have hret : HRet 202 0 p l e room_1 s m #[Value.ref b] below meth c D ca B0 b L xs (lw_Z below #[Value.ref b] s) (fun o _ => o = .inl (some (.int 1))) := by
    intro v pc ls g H locs u hq hrk hd hw hS hE h1 h2 hz0
    have hv : v = some (.int 1) := Sum.inl.inj hq
    subst hv
    have h8 := htg g.1
    have b1 : bc 202 = 58 := rfl
    have b2 : bs 202 = 4830 := rfl
    rw [b1] at h1
    rw [b2] at h2
    refine va_forget hS.2.2 (W.widen (k := 730532) (n := 6909587) (by unfold uc; unfold W0 at h8; omega) (by unfold us; unfold W0 at h8; omega) (W.base ?_))
    exact lw_ret (Drawn.sameBut.refl s.drawn lw_cs) hx hb hr hlocks hd
  have hret6 : ∀ B9, BOK 202 B9 B0 → HRet6 202 0 p l e room_1 s m #[Value.ref b] below meth c D ca B9 b L xs (lw_Z below #[Value.ref b] s) (fun o _ => o = .inl (some (.int 1))) := by
    intro B9 hB9 x pc ls g H locs u h6
    exact absurd h6 (by decide)
  have hthr : HThr 202 0 p l e room_1 s m #[Value.ref b] below meth c D ca B0 b L xs (lw_Z below #[Value.ref b] s) (fun o _ => o = .inl (some (.int 1))) := by
    intro pc x n e9 b9 ks hcd g H locs L9 ls st u hq
    cases hq
  have hx6 : ∀ e9 r9, hnd 202 e9 = some r9 → rk 202 ≠ 6 := fun _ _ _ => by decide
  have hex : HExc 202 0 p l e room_1 s m #[Value.ref b] below meth c D ca B0 b L xs (lw_Z below #[Value.ref b] s) (fun o _ => o = .inl (some (.int 1))) := by
    intro pc i n a9 b9 c9 ks hcd hg e9 r9 hr9
    obtain ⟨hp, ci, j, w, ps, cx, ht⟩ := hnd_at hr9
    have hB := hc_all _ ht
    simp only [hcB, Bool.and_eq_true, decide_eq_true_eq] at hB
    obtain ⟨⟨⟨⟨⟨⟨⟨⟨⟨-, -⟩, -⟩, -⟩, -⟩, hk⟩, -⟩, -⟩, -⟩, -⟩ := hB
    exact absurd hk (by decide)
  have hall := xs_all F hEX (met_sound l hl 60) (cal_mono 60) (cal_ne 60) (fun o g' _ => htg g'.1) hret hret6 hthr hex hx6 hE
  have e1 : ([.ref 0] : List Value).map (tr B0 b) = [.ref b] := by simp [tr, ad]
  have h9 := hall s.heap [] _ (LH.ent (B := B0) (b := b) (n := 10) (vs := [.ref 0]) (by decide)) ⟨⟨[], rfl⟩, fun k q hq => by simp [wof, scr] at hq, ⟨fun i j hi => by simp [scr] at hi, fun i hi => by simp [scr] at hi⟩⟩ va_S.rf (fun _ => ⟨rfl, fun _ => rfl⟩) (Nat.zero_le _) (Nat.zero_le _) ⟨Nat.le_refl _, fun e9 => e9⟩
  have e0 : uc 0 (0, 0) (0, scr L xs).1 = 0 ∧ us 0 (0, 0) (0, scr L xs).1 = 0 := by
    show uc 0 (0, 0) 0 = 0 ∧ us 0 (0, 0) 0 = 0
    unfold uc us; omega
  rw [e0.1, e0.2, e1] at h9
  rw [lg_entry_eq]
  exact h9
end
