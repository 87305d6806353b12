/-! ===== the interpreter: cells by numbers (0 the script), locals by slots, one activation as a least fixed point, calls by depth ===== -/
abbrev AE : Type := (Nat × vp_A) ⊕ (Nat × List Value)
abbrev Lc : Type := List (Option Value)
/-- the mark (0: nothing is frozen; n + 1: frozen, n units of allotting left), the cells -/
abbrev Gp : Type := Nat × List AE
def M0 : Nat := 700001
abbrev Out : Type := (Option Value) ⊕ Nat
abbrev Post : Type := Out → Gp → Prop
abbrev CT : Type := Nat → List Value → Gp → Post → Prop
abbrev XT : Type := Nat → Lc → List Value → Nat × Nat → Gp → Prop
abbrev CE : Type := Instr × Nat × Nat × Nat × Nat × List Nat
def lk (L : Lc) (n : Nat) : Option Value := match L[n]? with
  | some (some v) => some v
  | _ => none
def clrP (L : Lc) (n : Nat) : Lc := match n with
  | 0 => L
  | k + 1 => match lk L k with
    | some v => if v.category = 2 then L.set k none else L
    | none => L
def sto1 (L : Lc) (n : Nat) (v : Value) : Lc := (clrP L n).set n (some v)
def sto2 (L : Lc) (n : Nat) (v : Value) : Lc := ((clrP L n).set n (some v)).set (n + 1) none
def killL (L : Lc) (ks : List Nat) : Lc := ks.foldl (fun l k => l.set k none) L
def entS (vs : List Value) : Lc := vs.flatMap fun v => if v.category = 2 then [some v, none] else [some v]
def entL (n : Nat) (vs : List Value) : Lc := entS vs ++ List.replicate (n - (entS vs).length) none
def pI (st : List Value) (K : Int32 → List Value → Prop) : Prop := match st with
  | .int x :: r => K x r
  | _ => False
def pJ (st : List Value) (K : Int64 → List Value → Prop) : Prop := match st with
  | .long x :: r => K x r
  | _ => False
def pD (st : List Value) (K : UInt64 → List Value → Prop) : Prop := match st with
  | .double x :: r => K x r
  | _ => False
def pR (st : List Value) (K : Nat → List Value → Prop) : Prop := match st with
  | .ref x :: r => K x r
  | _ => False
def pV (st : List Value) (K : Value → List Value → Prop) : Prop := match st with
  | x :: r => K x r
  | _ => False
def lI (L : Lc) (n : Nat) (K : Int32 → Prop) : Prop := match lk L n with
  | some (.int x) => K x
  | _ => False
def lJ (L : Lc) (n : Nat) (K : Int64 → Prop) : Prop := match lk L n with
  | some (.long x) => K x
  | _ => False
def lD (L : Lc) (n : Nat) (K : UInt64 → Prop) : Prop := match lk L n with
  | some (.double x) => K x
  | _ => False
def lR (L : Lc) (n : Nat) (K : Nat → Prop) : Prop := match lk L n with
  | some (.ref x) => K x
  | _ => False
def hO (g : Gp) (a : Nat) (K : Nat → List Value → Prop) : Prop := match g.2[a]? with
  | some (.inr (ci, fs)) => K ci fs
  | _ => False
def hA (g : Gp) (a : Nat) (K : Nat → Nat → Prop) : Prop := match g.2[a]? with
  | some (.inl (t, n, _)) => K t n
  | _ => False
def hI (g : Gp) (a : Nat) (K : Nat → Nat → (Nat → Int32) → Prop) : Prop := match g.2[a]? with
  | some (.inl (t, n, .inl f)) => K t n f
  | _ => False
def hJ (g : Gp) (a : Nat) (K : Nat → Nat → (Nat → Int64) → Prop) : Prop := match g.2[a]? with
  | some (.inl (t, n, .inr (.inl f))) => K t n f
  | _ => False
def hQ (g : Gp) (a : Nat) (K : Nat → Nat → (Nat → Option Nat) → Prop) : Prop := match g.2[a]? with
  | some (.inl (t, n, .inr (.inr (.inr (.inr f))))) => K t n f
  | _ => False
def wr (g : Gp) (a : Nat) (x : AE) : Gp := (g.1, g.2.set a x)
def nw (g : Gp) (x : AE) : Gp := (g.1, g.2 ++ [x])
def zr (t : FieldType) : Value := defaultValue t
def bI (x : Int32) (o : ClassFile.Cond) (A B : Prop) : Prop := match o with
  | .eq => if x = 0 then A else B
  | .ne => if x = 0 then B else A
  | .lt => if x < 0 then A else B
  | .ge => if 0 ≤ x then A else B
  | .gt => if 0 < x then A else B
  | .le => if x ≤ 0 then A else B
def bC (x y : Int32) (o : ClassFile.Cond) (A B : Prop) : Prop := match o with
  | .eq => if x = y then A else B
  | .ne => if x = y then B else A
  | .lt => if x < y then A else B
  | .ge => if y ≤ x then A else B
  | .gt => if y < x then A else B
  | .le => if x ≤ y then A else B
def atNew (t : ArrayType) (n : Nat) : AE := match t with
  | .int => .inl (0, n, .inl (fun _ => 0))
  | .long => .inl (1, n, .inr (.inl (fun _ => 0)))
  | _ => .inr (99, [])
def rcv (vs : List Value) (K : Nat → Prop) : Prop := match vs with
  | .ref o :: _ => K o
  | _ => False
/-- the receiver, by the kind of the call: 0, 1 virtual, 2, 3, 7 static, 4, 5 a constructor -/
def rcK (c a : Nat) (g : Gp) (vs : List Value) : Prop := match c with
  | 0 => rcv vs fun o => hO g o fun ci _ => ci = own a
  | 1 => rcv vs fun o => hO g o fun ci _ => ci = own a
  | 2 => True
  | 3 => True
  | 7 => True
  | _ => rcv vs fun _ => True
/-- all references of a value, of a cell, of cells are numbers below n -/
def cloV (n : Nat) (v : Value) : Prop := match v with
  | .ref o => o < n
  | _ => True
def cloE (n : Nat) (x : AE) : Prop := match x with
  | .inl (_, _, .inr (.inr (.inr (.inr f)))) => ∀ j q, f j = some q → q < n
  | .inr (_, fs) => ∀ v ∈ fs, cloV n v
  | _ => True
def clo (n : Nat) (hs : List AE) : Prop := ∀ x ∈ hs, cloE n x
def cloL (n : Nat) (L : Lc) : Prop := ∀ i v, lk L i = some v → cloV n v
/-- the mark at the freezing -/
def frz (g : Gp) : Gp := if g.1 = 0 then (M0, g.2) else g
/-- one instruction: k the method, Q what is asked of its end, X what is asked of the next place, C the calls; i with its length n and what its entry means (a, b, c) -/
def st1 (C : CT) (k : Nat) (Q : Post) (X : XT) (pc : Nat) (i : Instr) (n a b c : Nat) (L : Lc) (st : List Value) (u : Nat × Nat) (g : Gp) : Prop := match i with
  | .iload_n j => lI L j fun x => X (pc + n) L (.int x :: st) u g
  | .iload j => lI L j fun x => X (pc + n) L (.int x :: st) u g
  | .lload_n j => lJ L j fun x => X (pc + n) L (.long x :: st) u g
  | .lload j => lJ L j fun x => X (pc + n) L (.long x :: st) u g
  | .aload_n j => lR L j fun x => X (pc + n) L (.ref x :: st) u g
  | .aload j => lR L j fun x => X (pc + n) L (.ref x :: st) u g
  | .dload j => lD L j fun x => X (pc + n) L (.double x :: st) u g
  | .istore_n j => pI st fun x r => (j : Nat) < mxl k ∧ X (pc + n) (sto1 L j (.int x)) r u g
  | .istore j => pI st fun x r => j < mxl k ∧ X (pc + n) (sto1 L j (.int x)) r u g
  | .lstore_n j => pJ st fun x r => (j : Nat) + 1 < mxl k ∧ X (pc + n) (sto2 L j (.long x)) r u g
  | .lstore j => pJ st fun x r => j + 1 < mxl k ∧ X (pc + n) (sto2 L j (.long x)) r u g
  | .astore_n j => pR st fun x r => (j : Nat) < mxl k ∧ X (pc + n) (sto1 L j (.ref x)) r u g
  | .astore j => pR st fun x r => j < mxl k ∧ X (pc + n) (sto1 L j (.ref x)) r u g
  | .dstore j => pD st fun x r => j + 1 < mxl k ∧ X (pc + n) (sto2 L j (.double x)) r u g
  | .iinc j d => lI L j fun x => j < mxl k ∧ X (pc + n) (sto1 L j (.int (x + Int32.ofInt d))) st u g
  | .iconst d => X (pc + n) L (.int (Int32.ofInt d) :: st) u g
  | .bipush d => X (pc + n) L (.int (Int8.ofInt d).toInt32 :: st) u g
  | .sipush d => X (pc + n) L (.int (Int16.ofInt d).toInt32 :: st) u g
  | .lconst d => X (pc + n) L (.long (Int64.ofNat (d : Nat)) :: st) u g
  | .ldc2_w _ => X (pc + n) L (.long (lcv a) :: st) u g
  | .ldc _ => X (pc + n) L (.int (icv a) :: st) u g
  | .dconst d => if d = 1 then X (pc + n) L (.double FP.dconst1 :: st) u g else if d = 0 then X (pc + n) L (.double FP.dconst0 :: st) u g else False
  | .aconst_null => X (pc + n) L (.null :: st) u g
  | .iadd => pI st fun y r => pI r fun x r => X (pc + n) L (.int (x + y) :: r) u g
  | .isub => pI st fun y r => pI r fun x r => X (pc + n) L (.int (x - y) :: r) u g
  | .imul => pI st fun y r => pI r fun x r => X (pc + n) L (.int (x * y) :: r) u g
  | .iand => pI st fun y r => pI r fun x r => X (pc + n) L (.int (x &&& y) :: r) u g
  | .ixor => pI st fun y r => pI r fun x r => X (pc + n) L (.int (x ^^^ y) :: r) u g
  | .ineg => pI st fun x r => X (pc + n) L (.int (-x) :: r) u g
  | .ishr => pI st fun y r => pI r fun x r => X (pc + n) L (.int (x >>> (y &&& 31)) :: r) u g
  | .iushr => pI st fun y r => pI r fun x r => X (pc + n) L (.int (x.toUInt32 >>> (y.toUInt32 &&& Int32.toUInt32 31)).toInt32 :: r) u g
  | .idiv => pI st fun y r => pI r fun x r => ¬ y = 0 ∧ X (pc + n) L (.int (x / y) :: r) u g
  | .irem => pI st fun y r => pI r fun x r => ¬ y = 0 ∧ X (pc + n) L (.int (x - x / y * y) :: r) u g
  | .ladd => pJ st fun y r => pJ r fun x r => X (pc + n) L (.long (x + y) :: r) u g
  | .lsub => pJ st fun y r => pJ r fun x r => X (pc + n) L (.long (x - y) :: r) u g
  | .lmul => pJ st fun y r => pJ r fun x r => X (pc + n) L (.long (x * y) :: r) u g
  | .land => pJ st fun y r => pJ r fun x r => X (pc + n) L (.long (x &&& y) :: r) u g
  | .lor => pJ st fun y r => pJ r fun x r => X (pc + n) L (.long (x ||| y) :: r) u g
  | .lxor => pJ st fun y r => pJ r fun x r => X (pc + n) L (.long (x ^^^ y) :: r) u g
  | .lneg => pJ st fun x r => X (pc + n) L (.long (-x) :: r) u g
  | .lshl => pI st fun y r => pJ r fun x r => X (pc + n) L (.long (x <<< (y.toInt64 &&& 63)) :: r) u g
  | .lshr => pI st fun y r => pJ r fun x r => X (pc + n) L (.long (x >>> (y.toInt64 &&& 63)) :: r) u g
  | .lushr => pI st fun y r => pJ r fun x r => X (pc + n) L (.long (x.toUInt64 >>> (y.toInt64.toUInt64 &&& Int64.toUInt64 63)).toInt64 :: r) u g
  | .i2l => pI st fun x r => X (pc + n) L (.long x.toInt64 :: r) u g
  | .l2i => pJ st fun x r => X (pc + n) L (.int x.toInt32 :: r) u g
  | .i2d => pI st fun x r => X (pc + n) L (.double (FP.i2d x) :: r) u g
  | .ddiv => pD st fun y r => pD r fun x r => vf_n64 (FP.ddiv x y) ∧ X (pc + n) L (.double (FP.ddiv x y) :: r) u g
  | .lcmp => pJ st fun y r => pJ r fun x r => X (pc + n) L (.int (lg_cmp x y) :: r) u g
  | .dcmp o => pD st fun y r => pD r fun x r => X (pc + n) L (.int (Op.cmpValue (FP.dcmp x y) o) :: r) u g
  | .dup => pV st fun v r => v.category = 1 ∧ X (pc + n) L (v :: v :: r) u g
  | .dup2 => pV st fun v r => pV r fun w r => v.category = 1 ∧ w.category = 1 ∧ X (pc + n) L (v :: w :: v :: w :: r) u g
  | .goto o => X (tg pc o) L st u g
  | .ifCond q o => pI st fun x r => bI x q (X (tg pc o) L r u g) (X (pc + n) L r u g)
  | .if_icmp q o => pI st fun y r => pI r fun x r => bC x y q (X (tg pc o) L r u g) (X (pc + n) L r u g)
  | .ifnull o => pV st fun v r => match v with
    | .null => X (tg pc o) L r u g
    | .ref _ => X (pc + n) L r u g
    | _ => False
  | .tableswitch d lo hi offs => pI st fun x r => if x.toInt < lo ∨ hi < x.toInt then X (tg pc d) L r u g else match offs[(x.toInt - lo).toNat]? with
    | some o => X (tg pc o) L r u g
    | none => False
  | .getfield _ => pR st fun o r => hO g o fun ci fs => ci = a ∧ match fs[b]? with
    | some v => X (pc + n) L (v :: r) u g
    | none => False
  | .putfield _ => pV st fun v r => pR r fun o r => hO g o fun ci fs => ci = a ∧ b < fs.length ∧ narrow (fty a b) v = v ∧ fits (fty a b) v = true ∧ X (pc + n) L r u (wr g o (.inr (ci, fs.set b v)))
  | .iaload => pI st fun i r => pR r fun o r => hI g o fun t n' f => (t = 0 ∨ (t = 9 ∧ o = 0)) ∧ vp_in i n' ∧ X (pc + n) L (.int (f i.toNatClampNeg) :: r) u g
  | .laload => pI st fun i r => pR r fun o r => hJ g o fun t n' f => t = 1 ∧ vp_in i n' ∧ X (pc + n) L (.long (f i.toNatClampNeg) :: r) u g
  | .aaload => pI st fun i r => pR r fun o r => hQ g o fun t n' f => (t = 3 ∨ t = 4) ∧ vp_in i n' ∧ X (pc + n) L (va_rf (f i.toNatClampNeg) :: r) u g
  | .iastore => pI st fun x r => pI r fun i r => pR r fun o r => hI g o fun t n' f => t = 0 ∧ vp_in i n' ∧ X (pc + n) L r u (wr g o (.inl (t, n', .inl (upd f i.toNatClampNeg x))))
  | .lastore => pJ st fun x r => pI r fun i r => pR r fun o r => hJ g o fun t n' f => t = 1 ∧ vp_in i n' ∧ X (pc + n) L r u (wr g o (.inl (t, n', .inr (.inl (vp_updL f i.toNatClampNeg x)))))
  | .aastore => pR st fun x r => pI r fun i r => pR r fun o r => hQ g o fun t n' f => hO g x fun ci _ => ((t = 3 ∧ ci = 5) ∨ (t = 4 ∧ ci = 7)) ∧ vp_in i n' ∧ X (pc + n) L r u (wr g o (.inl (t, n', .inr (.inr (.inr (.inr (va_up f i.toNatClampNeg (some x))))))))
  | .arraylength => pR st fun o r => hA g o fun t n' => (t < 5 ∨ o = 0) ∧ X (pc + n) L (.int (Int32.ofNat n') :: r) u g
  | .new _ => if c = 1 then 2 ≤ g.1 ∧ st.length ≤ 4 ∧ Q (.inr a) (g.1 - 1, g.2) else g.1 = 0 ∧ u.1 + 1 ≤ bc k ∧ u.2 + nf a ≤ bs k ∧ X (pc + n) L (.ref g.2.length :: st) (u.1 + 1, u.2 + nf a) (nw g (.inr (a, fs0 a)))
  | .newarray t => pI st fun z r => 0 ≤ z ∧ z.toNatClampNeg ≤ 100000 ∧ atTag t < 9 ∧ if g.1 = 0 then u.1 + 1 ≤ bc k ∧ u.2 + z.toNatClampNeg ≤ bs k ∧ X (pc + n) L (.ref g.2.length :: r) (u.1 + 1, u.2 + z.toNatClampNeg) (nw g (atNew t z.toNatClampNeg))
      else rk k = 6 ∧ atTag t = 0 ∧ z.toNatClampNeg ≤ 54 ∧ 10 ≤ g.1 ∧ 59 ≤ g.2.length ∧ clo g.2.length g.2 ∧ cloL g.2.length L ∧ (∀ v ∈ r, cloV g.2.length v) ∧ X (pc + n) L (.ref g.2.length :: r) u (g.1 - 9, g.2 ++ [atNew t z.toNatClampNeg])
  | .anewarray _ => pI st fun z r => g.1 = 0 ∧ 0 ≤ z ∧ z.toNatClampNeg ≤ 100000 ∧ u.1 + 1 ≤ bc k ∧ u.2 + z.toNatClampNeg ≤ bs k ∧ X (pc + n) L (.ref g.2.length :: r) (u.1 + 1, u.2 + z.toNatClampNeg) (nw g (.inl (a, z.toNatClampNeg, .inr (.inr (.inr (.inr fun _ => none))))))
  | .invokevirtual _ | .invokestatic _ | .invokespecial _ => if c = 6 then pR st fun _ r => r.length ≤ 4 ∧ X (pc + n) L r u g
      else if c = 8 then pI st fun y r => pI r fun x r => r.length ≤ 4 ∧ X (pc + n) L (.int (if x < y then y else x) :: r) u g
      else if c = 9 then pI st fun y r => pI r fun x r => r.length ≤ 4 ∧ X (pc + n) L (.int (if y < x then y else x) :: r) u g else
      b ≤ st.length ∧ (st.drop b).length ≤ 4 ∧ u.1 + bc a ≤ bc k ∧ u.2 + bs a ≤ bs k ∧ rcK c a g (st.take b).reverse ∧
        ∃ w : Nat, (w = 0 ∨ w < g.1) ∧ C a (st.take b).reverse g fun o g' => (g.1 ≤ g'.1 + w ∧ g'.1 ≤ g.1) ∧ (g'.1 = 0 → g.1 = 0 ∧ g'.2.length = g.2.length + bc a) ∧ match o with
          | .inl none => X (pc + n) L (st.drop b) (u.1 + bc a, u.2 + bs a) (g.1 - w, g'.2)
          | .inl (some v) => X (pc + n) L (v :: st.drop b) (u.1 + bc a, u.2 + bs a) (g.1 - w, g'.2)
          | .inr e => match hnd k e with
            | some r => Q (.inl (some (.int r))) (g.1 - w, g'.2)
            | none => False
  | .ireturn => pI st fun x r => r = [] ∧ (((rk k = 1 ∨ (rk k = 2 ∧ (x = 0 ∨ x = 1))) ∧ Q (.inl (some (.int x))) g) ∨ (rk k = 6 ∧ (x = 0 ∨ x = 1) ∧ 0 < g.1 ∧ 59 ≤ g.2.length ∧ clo 59 (g.2.take 59) ∧ Q (.inl (some (.int x))) (g.1, g.2.take 59)))
  | .lreturn => pJ st fun x r => r = [] ∧ rk k = 3 ∧ Q (.inl (some (.long x))) g
  | .dreturn => pD st fun x r => r = [] ∧ rk k = 4 ∧ Q (.inl (some (.double x))) g
  | .areturn => pV st fun v r => r = [] ∧ rk k = 5 ∧ (v = .null ∨ ∃ x, v = .ref x) ∧ Q (.inl (some v)) g
  | .return_ => st = [] ∧ rk k = 0 ∧ Q (.inl none) g
  | _ => False
def stp (C : CT) (k : Nat) (Q : Post) (X : XT) (pc : Nat) (L : Lc) (st : List Value) (u : Nat × Nat) (g : Gp) : Prop := match cd k pc with
  | some (i, n, a, b, c, ks) => st1 C k Q X pc i n a b c (killL L ks) st u (if ks.contains 1000 then frz g else g)
  | none => False
/-- from this place the activation comes to an end with Q: the least relation that an instruction's step keeps -/
def EX (C : CT) (k : Nat) (Q : Post) (pc : Nat) (L : Lc) (st : List Value) (u : Nat × Nat) (g : Gp) : Prop :=
  ∀ X : XT, (∀ pc L st u g, stp C k Q X pc L st u g → X pc L st u g) → X pc L st u g
def cal : Nat → CT
  | 0 => fun _ _ _ _ => False
  | d + 1 => fun k vs g Q => (entS vs).length ≤ mxl k ∧ vs.length = nar k ∧ EX (cal d) k Q 0 (entL (mxl k) vs) [] (0, 0) g
