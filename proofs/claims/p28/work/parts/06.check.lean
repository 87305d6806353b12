/-! ===== the code table is what the bytes say, and its links are the tables': by program (wip/p28/gen3.py) ===== -/
def tg (pc : Nat) (o : Int) : Nat := ((pc : Int) + o).toNat
def tgOk (pc : Nat) (o : Int) : Bool := decide (0 ≤ (pc : Int) + o)
def atTag (t : ArrayType) : Nat := match t with
  | .int => 0
  | .long => 1
  | _ => 99
def ilen (i : Instr) : Nat := match i with
  | .ldc _ | .iload _ | .lload _ | .aload _ | .dload _ | .istore _ | .lstore _ | .astore _ | .dstore _ | .bipush _ | .newarray _ => 2
  | .iinc _ _ | .sipush _ | .ldc2_w _ | .goto _ | .ifCond _ _ | .if_icmp _ _ | .ifnull _ | .getfield _ | .putfield _ | .new _ | .anewarray _ | .invokevirtual _ | .invokestatic _ | .invokespecial _ => 3
  | _ => 1
def isTS (i : Instr) : Bool := match i with
  | .tableswitch _ _ _ _ => true
  | _ => false
def okB (k : Nat) (q : Nat × Instr × Nat × Nat × Nat × Nat × List Nat) : Bool := match q with
  | (pc, i, n, a, b, c, _) => decide (decode (mB k) pc = .ok (i, n)) && (n == ilen i || isTS i) && match i with
    | .getfield x => if c == 0 then flgT.contains (own k, x, a, b, 0) else flnT.contains (own k, x, a, b, 1)
    | .putfield x => (if c == 0 then flgT.contains (own k, x, a, b, 0) else flnT.contains (own k, x, a, b, 1)) && (!(TXf a b).2.2.2 || (c == 0 && (mN k).name == "<init>" && (TXf a b).1 == Rn (own k)))
    | .new x => c == 1 || clgT.contains (own k, x, a)
    | .anewarray x => algT.contains (own k, x, a)
    | .newarray t => atTag t < 9
    | .ldc2_w x => llgT.contains (own k, x, a)
    | .ldc x => icgT.contains (own k, x, a)
    | .invokevirtual x => if c == 0 then mlgT.contains (own k, x, a, b, 0) else c == 1 && mlnT.contains (own k, x, a, b, 1)
    | .invokestatic x => if c == 2 then mlgT.contains (own k, x, a, b, 2) else if c == 8 then mlgT.contains (own k, x, a, b, 8) else if c == 9 then mlgT.contains (own k, x, a, b, 9) else if c == 7 then mlgT.contains (own k, x, a, b, 7) else c == 3 && mlnT.contains (own k, x, a, b, 3)
    | .invokespecial x => if c == 6 then mlgT.contains (own k, x, a, b, 6) else if c == 4 then mlgT.contains (own k, x, a, b, 4) else c == 5 && mlnT.contains (own k, x, a, b, 5)
    | .goto o => tgOk pc o
    | .ifCond _ o => tgOk pc o
    | .if_icmp _ o => tgOk pc o
    | .ifnull o => tgOk pc o
    | .tableswitch d _ _ offs => tgOk pc d && offs.all (tgOk pc)
    | _ => true
def AllOk : Nat → List (List (Nat × Instr × Nat × Nat × Nat × Nat × List Nat)) → Prop
  | _, [] => True
  | k, l :: t => (∀ q ∈ l, okB k q = true) ∧ AllOk (k + 1) t
theorem AllOk_at {k : Nat} {ls : List (List (Nat × Instr × Nat × Nat × Nat × Nat × List Nat))} (h : AllOk k ls) (j : Nat) : ∀ q ∈ ls.getD j [], okB (k + j) q = true := by
  induction ls generalizing k j with
  | nil => intro q hq; simp at hq
  | cons l t ih =>
    cases j with
    | zero => exact h.1
    | succ j =>
      have := ih h.2 j
      rw [show k + 1 + j = k + (j + 1) by omega] at this
      simpa using this
theorem td {α : Type} {p : α → Prop} {l : List α} (n : Nat) (h1 : ∀ x ∈ l.take n, p x) (h2 : ∀ x ∈ l.drop n, p x) : ∀ x ∈ l, p x := fun x hx => by
  rw [← List.take_append_drop n l] at hx
  exact (List.mem_append.mp hx).elim (h1 x) (h2 x)
theorem ok_0 : ∀ q ∈ cd_0, okB 0 q = true := by decide +kernel
theorem ok_1 : ∀ q ∈ cd_1, okB 1 q = true := by decide +kernel
theorem ok_2 : ∀ q ∈ cd_2, okB 2 q = true := by decide +kernel
theorem ok_3 : ∀ q ∈ cd_3, okB 3 q = true := by decide +kernel
theorem ok_4_0 : ∀ q ∈ (cd_4).take 40, okB 4 q = true := by decide +kernel
theorem ok_4_1 : ∀ q ∈ (cd_4).drop 40, okB 4 q = true := by decide +kernel
theorem ok_4 : ∀ q ∈ cd_4, okB 4 q = true := (td 40 ok_4_0 ok_4_1)
theorem ok_5_0 : ∀ q ∈ (cd_5).take 40, okB 5 q = true := by decide +kernel
theorem ok_5_1 : ∀ q ∈ (cd_5).drop 40, okB 5 q = true := by decide +kernel
theorem ok_5 : ∀ q ∈ cd_5, okB 5 q = true := (td 40 ok_5_0 ok_5_1)
theorem ok_6 : ∀ q ∈ cd_6, okB 6 q = true := by decide +kernel
theorem ok_7 : ∀ q ∈ cd_7, okB 7 q = true := by decide +kernel
theorem ok_8 : ∀ q ∈ cd_8, okB 8 q = true := by decide +kernel
theorem ok_9 : ∀ q ∈ cd_9, okB 9 q = true := by decide +kernel
theorem ok_10 : ∀ q ∈ cd_10, okB 10 q = true := by decide +kernel
theorem ok_11 : ∀ q ∈ cd_11, okB 11 q = true := by decide +kernel
theorem ok_12 : ∀ q ∈ cd_12, okB 12 q = true := by decide +kernel
theorem ok_13 : ∀ q ∈ cd_13, okB 13 q = true := by decide +kernel
theorem ok_14 : ∀ q ∈ cd_14, okB 14 q = true := by decide +kernel
theorem ok_15 : ∀ q ∈ cd_15, okB 15 q = true := by decide +kernel
theorem ok_16 : ∀ q ∈ cd_16, okB 16 q = true := by decide +kernel
theorem ok_17 : ∀ q ∈ cd_17, okB 17 q = true := by decide +kernel
theorem ok_18 : ∀ q ∈ cd_18, okB 18 q = true := by decide +kernel
theorem ok_19_0 : ∀ q ∈ (cd_19).take 40, okB 19 q = true := by decide +kernel
theorem ok_19_1 : ∀ q ∈ (cd_19).drop 40, okB 19 q = true := by decide +kernel
theorem ok_19 : ∀ q ∈ cd_19, okB 19 q = true := (td 40 ok_19_0 ok_19_1)
theorem ok_20 : ∀ q ∈ cd_20, okB 20 q = true := by decide +kernel
theorem ok_21 : ∀ q ∈ cd_21, okB 21 q = true := by decide +kernel
theorem ok_22 : ∀ q ∈ cd_22, okB 22 q = true := by decide +kernel
theorem ok_23 : ∀ q ∈ cd_23, okB 23 q = true := by decide +kernel
theorem ok_24 : ∀ q ∈ cd_24, okB 24 q = true := by decide +kernel
theorem ok_25 : ∀ q ∈ cd_25, okB 25 q = true := by decide +kernel
theorem ok_26 : ∀ q ∈ cd_26, okB 26 q = true := by decide +kernel
theorem ok_27 : ∀ q ∈ cd_27, okB 27 q = true := by decide +kernel
theorem ok_28 : ∀ q ∈ cd_28, okB 28 q = true := by decide +kernel
theorem ok_29 : ∀ q ∈ cd_29, okB 29 q = true := by decide +kernel
theorem ok_30 : ∀ q ∈ cd_30, okB 30 q = true := by decide +kernel
theorem ok_31 : ∀ q ∈ cd_31, okB 31 q = true := by decide +kernel
theorem ok_32 : ∀ q ∈ cd_32, okB 32 q = true := by decide +kernel
theorem ok_33 : ∀ q ∈ cd_33, okB 33 q = true := by decide +kernel
theorem ok_34 : ∀ q ∈ cd_34, okB 34 q = true := by decide +kernel
theorem ok_35 : ∀ q ∈ cd_35, okB 35 q = true := by decide +kernel
theorem ok_36 : ∀ q ∈ cd_36, okB 36 q = true := by decide +kernel
theorem ok_37_0 : ∀ q ∈ (cd_37).take 40, okB 37 q = true := by decide +kernel
theorem ok_37_1 : ∀ q ∈ (cd_37).drop 40, okB 37 q = true := by decide +kernel
theorem ok_37 : ∀ q ∈ cd_37, okB 37 q = true := (td 40 ok_37_0 ok_37_1)
theorem ok_38 : ∀ q ∈ cd_38, okB 38 q = true := by decide +kernel
theorem ok_39 : ∀ q ∈ cd_39, okB 39 q = true := by decide +kernel
theorem ok_40 : ∀ q ∈ cd_40, okB 40 q = true := by decide +kernel
theorem ok_41 : ∀ q ∈ cd_41, okB 41 q = true := by decide +kernel
theorem ok_42_0 : ∀ q ∈ (cd_42).take 40, okB 42 q = true := by decide +kernel
theorem ok_42_1 : ∀ q ∈ (cd_42).drop 40, okB 42 q = true := by decide +kernel
theorem ok_42 : ∀ q ∈ cd_42, okB 42 q = true := (td 40 ok_42_0 ok_42_1)
theorem ok_43 : ∀ q ∈ cd_43, okB 43 q = true := by decide +kernel
theorem ok_44 : ∀ q ∈ cd_44, okB 44 q = true := by decide +kernel
theorem ok_45 : ∀ q ∈ cd_45, okB 45 q = true := by decide +kernel
theorem ok_46 : ∀ q ∈ cd_46, okB 46 q = true := by decide +kernel
theorem ok_47 : ∀ q ∈ cd_47, okB 47 q = true := by decide +kernel
theorem ok_48 : ∀ q ∈ cd_48, okB 48 q = true := by decide +kernel
theorem ok_49 : ∀ q ∈ cd_49, okB 49 q = true := by decide +kernel
theorem ok_50 : ∀ q ∈ cd_50, okB 50 q = true := by decide +kernel
theorem ok_51 : ∀ q ∈ cd_51, okB 51 q = true := by decide +kernel
theorem ok_52 : ∀ q ∈ cd_52, okB 52 q = true := by decide +kernel
theorem ok_53 : ∀ q ∈ cd_53, okB 53 q = true := by decide +kernel
theorem ok_54 : ∀ q ∈ cd_54, okB 54 q = true := by decide +kernel
theorem ok_55 : ∀ q ∈ cd_55, okB 55 q = true := by decide +kernel
theorem ok_56_0 : ∀ q ∈ (cd_56).take 40, okB 56 q = true := by decide +kernel
theorem ok_56_1 : ∀ q ∈ (cd_56).drop 40, okB 56 q = true := by decide +kernel
theorem ok_56 : ∀ q ∈ cd_56, okB 56 q = true := (td 40 ok_56_0 ok_56_1)
theorem ok_57 : ∀ q ∈ cd_57, okB 57 q = true := by decide +kernel
theorem ok_58 : ∀ q ∈ cd_58, okB 58 q = true := by decide +kernel
theorem ok_59 : ∀ q ∈ cd_59, okB 59 q = true := by decide +kernel
theorem ok_60 : ∀ q ∈ cd_60, okB 60 q = true := by decide +kernel
theorem ok_61 : ∀ q ∈ cd_61, okB 61 q = true := by decide +kernel
theorem ok_62 : ∀ q ∈ cd_62, okB 62 q = true := by decide +kernel
theorem ok_63 : ∀ q ∈ cd_63, okB 63 q = true := by decide +kernel
theorem ok_64 : ∀ q ∈ cd_64, okB 64 q = true := by decide +kernel
theorem ok_65 : ∀ q ∈ cd_65, okB 65 q = true := by decide +kernel
theorem ok_66 : ∀ q ∈ cd_66, okB 66 q = true := by decide +kernel
theorem ok_67 : ∀ q ∈ cd_67, okB 67 q = true := by decide +kernel
theorem ok_68 : ∀ q ∈ cd_68, okB 68 q = true := by decide +kernel
theorem ok_69 : ∀ q ∈ cd_69, okB 69 q = true := by decide +kernel
theorem ok_70 : ∀ q ∈ cd_70, okB 70 q = true := by decide +kernel
theorem ok_71 : ∀ q ∈ cd_71, okB 71 q = true := by decide +kernel
theorem ok_72 : ∀ q ∈ cd_72, okB 72 q = true := by decide +kernel
theorem ok_73 : ∀ q ∈ cd_73, okB 73 q = true := by decide +kernel
theorem ok_74 : ∀ q ∈ cd_74, okB 74 q = true := by decide +kernel
theorem ok_75 : ∀ q ∈ cd_75, okB 75 q = true := by decide +kernel
theorem ok_76 : ∀ q ∈ cd_76, okB 76 q = true := by decide +kernel
theorem ok_77 : ∀ q ∈ cd_77, okB 77 q = true := by decide +kernel
theorem ok_78 : ∀ q ∈ cd_78, okB 78 q = true := by decide +kernel
theorem ok_79 : ∀ q ∈ cd_79, okB 79 q = true := by decide +kernel
theorem ok_80 : ∀ q ∈ cd_80, okB 80 q = true := by decide +kernel
theorem ok_81 : ∀ q ∈ cd_81, okB 81 q = true := by decide +kernel
theorem ok_82 : ∀ q ∈ cd_82, okB 82 q = true := by decide +kernel
theorem ok_83 : ∀ q ∈ cd_83, okB 83 q = true := by decide +kernel
theorem ok_84 : ∀ q ∈ cd_84, okB 84 q = true := by decide +kernel
theorem ok_85 : ∀ q ∈ cd_85, okB 85 q = true := by decide +kernel
theorem ok_86 : ∀ q ∈ cd_86, okB 86 q = true := by decide +kernel
theorem ok_87 : ∀ q ∈ cd_87, okB 87 q = true := by decide +kernel
theorem ok_88 : ∀ q ∈ cd_88, okB 88 q = true := by decide +kernel
theorem ok_89 : ∀ q ∈ cd_89, okB 89 q = true := by decide +kernel
theorem ok_90 : ∀ q ∈ cd_90, okB 90 q = true := by decide +kernel
theorem ok_91 : ∀ q ∈ cd_91, okB 91 q = true := by decide +kernel
theorem ok_92 : ∀ q ∈ cd_92, okB 92 q = true := by decide +kernel
theorem ok_93 : ∀ q ∈ cd_93, okB 93 q = true := by decide +kernel
theorem ok_94 : ∀ q ∈ cd_94, okB 94 q = true := by decide +kernel
theorem ok_95 : ∀ q ∈ cd_95, okB 95 q = true := by decide +kernel
theorem ok_96 : ∀ q ∈ cd_96, okB 96 q = true := by decide +kernel
theorem ok_97 : ∀ q ∈ cd_97, okB 97 q = true := by decide +kernel
theorem ok_98 : ∀ q ∈ cd_98, okB 98 q = true := by decide +kernel
theorem ok_99 : ∀ q ∈ cd_99, okB 99 q = true := by decide +kernel
theorem ok_100 : ∀ q ∈ cd_100, okB 100 q = true := by decide +kernel
theorem ok_101 : ∀ q ∈ cd_101, okB 101 q = true := by decide +kernel
theorem ok_102 : ∀ q ∈ cd_102, okB 102 q = true := by decide +kernel
theorem ok_103 : ∀ q ∈ cd_103, okB 103 q = true := by decide +kernel
theorem ok_104 : ∀ q ∈ cd_104, okB 104 q = true := by decide +kernel
theorem ok_105 : ∀ q ∈ cd_105, okB 105 q = true := by decide +kernel
theorem ok_106 : ∀ q ∈ cd_106, okB 106 q = true := by decide +kernel
theorem ok_107 : ∀ q ∈ cd_107, okB 107 q = true := by decide +kernel
theorem ok_108 : ∀ q ∈ cd_108, okB 108 q = true := by decide +kernel
theorem ok_109 : ∀ q ∈ cd_109, okB 109 q = true := by decide +kernel
theorem ok_110 : ∀ q ∈ cd_110, okB 110 q = true := by decide +kernel
theorem ok_111 : ∀ q ∈ cd_111, okB 111 q = true := by decide +kernel
theorem ok_112 : ∀ q ∈ cd_112, okB 112 q = true := by decide +kernel
theorem ok_113 : ∀ q ∈ cd_113, okB 113 q = true := by decide +kernel
theorem ok_114 : ∀ q ∈ cd_114, okB 114 q = true := by decide +kernel
theorem ok_115 : ∀ q ∈ cd_115, okB 115 q = true := by decide +kernel
theorem ok_116 : ∀ q ∈ cd_116, okB 116 q = true := by decide +kernel
theorem ok_117 : ∀ q ∈ cd_117, okB 117 q = true := by decide +kernel
theorem ok_118 : ∀ q ∈ cd_118, okB 118 q = true := by decide +kernel
theorem ok_119 : ∀ q ∈ cd_119, okB 119 q = true := by decide +kernel
theorem ok_120 : ∀ q ∈ cd_120, okB 120 q = true := by decide +kernel
theorem ok_121 : ∀ q ∈ cd_121, okB 121 q = true := by decide +kernel
theorem ok_122 : ∀ q ∈ cd_122, okB 122 q = true := by decide +kernel
theorem ok_123 : ∀ q ∈ cd_123, okB 123 q = true := by decide +kernel
theorem ok_124 : ∀ q ∈ cd_124, okB 124 q = true := by decide +kernel
theorem ok_125 : ∀ q ∈ cd_125, okB 125 q = true := by decide +kernel
theorem ok_126 : ∀ q ∈ cd_126, okB 126 q = true := by decide +kernel
theorem ok_127 : ∀ q ∈ cd_127, okB 127 q = true := by decide +kernel
theorem ok_128 : ∀ q ∈ cd_128, okB 128 q = true := by decide +kernel
theorem ok_129 : ∀ q ∈ cd_129, okB 129 q = true := by decide +kernel
theorem ok_130 : ∀ q ∈ cd_130, okB 130 q = true := by decide +kernel
theorem ok_131 : ∀ q ∈ cd_131, okB 131 q = true := by decide +kernel
theorem ok_132 : ∀ q ∈ cd_132, okB 132 q = true := by decide +kernel
theorem ok_133 : ∀ q ∈ cd_133, okB 133 q = true := by decide +kernel
theorem ok_134 : ∀ q ∈ cd_134, okB 134 q = true := by decide +kernel
theorem ok_135 : ∀ q ∈ cd_135, okB 135 q = true := by decide +kernel
theorem ok_136 : ∀ q ∈ cd_136, okB 136 q = true := by decide +kernel
theorem ok_137 : ∀ q ∈ cd_137, okB 137 q = true := by decide +kernel
theorem ok_138 : ∀ q ∈ cd_138, okB 138 q = true := by decide +kernel
theorem ok_139 : ∀ q ∈ cd_139, okB 139 q = true := by decide +kernel
theorem ok_140 : ∀ q ∈ cd_140, okB 140 q = true := by decide +kernel
theorem ok_141 : ∀ q ∈ cd_141, okB 141 q = true := by decide +kernel
theorem ok_142 : ∀ q ∈ cd_142, okB 142 q = true := by decide +kernel
theorem ok_143 : ∀ q ∈ cd_143, okB 143 q = true := by decide +kernel
theorem ok_144 : ∀ q ∈ cd_144, okB 144 q = true := by decide +kernel
theorem ok_145 : ∀ q ∈ cd_145, okB 145 q = true := by decide +kernel
theorem ok_146 : ∀ q ∈ cd_146, okB 146 q = true := by decide +kernel
theorem ok_147 : ∀ q ∈ cd_147, okB 147 q = true := by decide +kernel
theorem ok_148 : ∀ q ∈ cd_148, okB 148 q = true := by decide +kernel
theorem ok_149_0 : ∀ q ∈ (cd_149).take 40, okB 149 q = true := by decide +kernel
theorem ok_149_1 : ∀ q ∈ (cd_149).drop 40, okB 149 q = true := by decide +kernel
theorem ok_149 : ∀ q ∈ cd_149, okB 149 q = true := (td 40 ok_149_0 ok_149_1)
theorem ok_150_0 : ∀ q ∈ (cd_150).take 40, okB 150 q = true := by decide +kernel
theorem ok_150_1 : ∀ q ∈ ((cd_150).drop 40).take 40, okB 150 q = true := by decide +kernel
theorem ok_150_2 : ∀ q ∈ (((cd_150).drop 40).drop 40).take 40, okB 150 q = true := by decide +kernel
theorem ok_150_3 : ∀ q ∈ ((((cd_150).drop 40).drop 40).drop 40).take 40, okB 150 q = true := by decide +kernel
theorem ok_150_4 : ∀ q ∈ ((((cd_150).drop 40).drop 40).drop 40).drop 40, okB 150 q = true := by decide +kernel
theorem ok_150 : ∀ q ∈ cd_150, okB 150 q = true := (td 40 ok_150_0 (td 40 ok_150_1 (td 40 ok_150_2 (td 40 ok_150_3 ok_150_4))))
theorem ok_151_0 : ∀ q ∈ (cd_151).take 40, okB 151 q = true := by decide +kernel
theorem ok_151_1 : ∀ q ∈ ((cd_151).drop 40).take 40, okB 151 q = true := by decide +kernel
theorem ok_151_2 : ∀ q ∈ (((cd_151).drop 40).drop 40).take 40, okB 151 q = true := by decide +kernel
theorem ok_151_3 : ∀ q ∈ ((((cd_151).drop 40).drop 40).drop 40).take 40, okB 151 q = true := by decide +kernel
theorem ok_151_4 : ∀ q ∈ (((((cd_151).drop 40).drop 40).drop 40).drop 40).take 40, okB 151 q = true := by decide +kernel
theorem ok_151_5 : ∀ q ∈ ((((((cd_151).drop 40).drop 40).drop 40).drop 40).drop 40).take 40, okB 151 q = true := by decide +kernel
theorem ok_151_6 : ∀ q ∈ (((((((cd_151).drop 40).drop 40).drop 40).drop 40).drop 40).drop 40).take 40, okB 151 q = true := by decide +kernel
theorem ok_151_7 : ∀ q ∈ ((((((((cd_151).drop 40).drop 40).drop 40).drop 40).drop 40).drop 40).drop 40).take 40, okB 151 q = true := by decide +kernel
theorem ok_151_8 : ∀ q ∈ (((((((((cd_151).drop 40).drop 40).drop 40).drop 40).drop 40).drop 40).drop 40).drop 40).take 40, okB 151 q = true := by decide +kernel
theorem ok_151_9 : ∀ q ∈ (((((((((cd_151).drop 40).drop 40).drop 40).drop 40).drop 40).drop 40).drop 40).drop 40).drop 40, okB 151 q = true := by decide +kernel
theorem ok_151 : ∀ q ∈ cd_151, okB 151 q = true := (td 40 ok_151_0 (td 40 ok_151_1 (td 40 ok_151_2 (td 40 ok_151_3 (td 40 ok_151_4 (td 40 ok_151_5 (td 40 ok_151_6 (td 40 ok_151_7 (td 40 ok_151_8 ok_151_9)))))))))
theorem ok_152_0 : ∀ q ∈ (cd_152).take 40, okB 152 q = true := by decide +kernel
theorem ok_152_1 : ∀ q ∈ ((cd_152).drop 40).take 40, okB 152 q = true := by decide +kernel
theorem ok_152_2 : ∀ q ∈ ((cd_152).drop 40).drop 40, okB 152 q = true := by decide +kernel
theorem ok_152 : ∀ q ∈ cd_152, okB 152 q = true := (td 40 ok_152_0 (td 40 ok_152_1 ok_152_2))
theorem ok_153_0 : ∀ q ∈ (cd_153).take 40, okB 153 q = true := by decide +kernel
theorem ok_153_1 : ∀ q ∈ (cd_153).drop 40, okB 153 q = true := by decide +kernel
theorem ok_153 : ∀ q ∈ cd_153, okB 153 q = true := (td 40 ok_153_0 ok_153_1)
theorem ok_154_0 : ∀ q ∈ (cd_154).take 40, okB 154 q = true := by decide +kernel
theorem ok_154_1 : ∀ q ∈ (cd_154).drop 40, okB 154 q = true := by decide +kernel
theorem ok_154 : ∀ q ∈ cd_154, okB 154 q = true := (td 40 ok_154_0 ok_154_1)
theorem ok_155_0 : ∀ q ∈ (cd_155).take 40, okB 155 q = true := by decide +kernel
theorem ok_155_1 : ∀ q ∈ ((cd_155).drop 40).take 40, okB 155 q = true := by decide +kernel
theorem ok_155_2 : ∀ q ∈ (((cd_155).drop 40).drop 40).take 40, okB 155 q = true := by decide +kernel
theorem ok_155_3 : ∀ q ∈ ((((cd_155).drop 40).drop 40).drop 40).take 40, okB 155 q = true := by decide +kernel
theorem ok_155_4 : ∀ q ∈ (((((cd_155).drop 40).drop 40).drop 40).drop 40).take 40, okB 155 q = true := by decide +kernel
theorem ok_155_5 : ∀ q ∈ ((((((cd_155).drop 40).drop 40).drop 40).drop 40).drop 40).take 40, okB 155 q = true := by decide +kernel
theorem ok_155_6 : ∀ q ∈ (((((((cd_155).drop 40).drop 40).drop 40).drop 40).drop 40).drop 40).take 40, okB 155 q = true := by decide +kernel
theorem ok_155_7 : ∀ q ∈ (((((((cd_155).drop 40).drop 40).drop 40).drop 40).drop 40).drop 40).drop 40, okB 155 q = true := by decide +kernel
theorem ok_155 : ∀ q ∈ cd_155, okB 155 q = true := (td 40 ok_155_0 (td 40 ok_155_1 (td 40 ok_155_2 (td 40 ok_155_3 (td 40 ok_155_4 (td 40 ok_155_5 (td 40 ok_155_6 ok_155_7)))))))
theorem ok_156_0 : ∀ q ∈ (cd_156).take 40, okB 156 q = true := by decide +kernel
theorem ok_156_1 : ∀ q ∈ ((cd_156).drop 40).take 40, okB 156 q = true := by decide +kernel
theorem ok_156_2 : ∀ q ∈ (((cd_156).drop 40).drop 40).take 40, okB 156 q = true := by decide +kernel
theorem ok_156_3 : ∀ q ∈ (((cd_156).drop 40).drop 40).drop 40, okB 156 q = true := by decide +kernel
theorem ok_156 : ∀ q ∈ cd_156, okB 156 q = true := (td 40 ok_156_0 (td 40 ok_156_1 (td 40 ok_156_2 ok_156_3)))
theorem ok_157 : ∀ q ∈ cd_157, okB 157 q = true := by decide +kernel
theorem ok_158_0 : ∀ q ∈ (cd_158).take 40, okB 158 q = true := by decide +kernel
theorem ok_158_1 : ∀ q ∈ (cd_158).drop 40, okB 158 q = true := by decide +kernel
theorem ok_158 : ∀ q ∈ cd_158, okB 158 q = true := (td 40 ok_158_0 ok_158_1)
theorem ok_159 : ∀ q ∈ cd_159, okB 159 q = true := by decide +kernel
theorem ok_160 : ∀ q ∈ cd_160, okB 160 q = true := by decide +kernel
theorem ok_161 : ∀ q ∈ cd_161, okB 161 q = true := by decide +kernel
theorem ok_162 : ∀ q ∈ cd_162, okB 162 q = true := by decide +kernel
theorem ok_163 : ∀ q ∈ cd_163, okB 163 q = true := by decide +kernel
theorem ok_164 : ∀ q ∈ cd_164, okB 164 q = true := by decide +kernel
theorem ok_165 : ∀ q ∈ cd_165, okB 165 q = true := by decide +kernel
theorem ok_166 : ∀ q ∈ cd_166, okB 166 q = true := by decide +kernel
theorem ok_167 : ∀ q ∈ cd_167, okB 167 q = true := by decide +kernel
theorem ok_168 : ∀ q ∈ cd_168, okB 168 q = true := by decide +kernel
theorem ok_169 : ∀ q ∈ cd_169, okB 169 q = true := by decide +kernel
theorem ok_170 : ∀ q ∈ cd_170, okB 170 q = true := by decide +kernel
theorem ok_171 : ∀ q ∈ cd_171, okB 171 q = true := by decide +kernel
theorem ok_172 : ∀ q ∈ cd_172, okB 172 q = true := by decide +kernel
theorem ok_173 : ∀ q ∈ cd_173, okB 173 q = true := by decide +kernel
theorem ok_174 : ∀ q ∈ cd_174, okB 174 q = true := by decide +kernel
theorem ok_175 : ∀ q ∈ cd_175, okB 175 q = true := by decide +kernel
theorem ok_176 : ∀ q ∈ cd_176, okB 176 q = true := by decide +kernel
theorem ok_177 : ∀ q ∈ cd_177, okB 177 q = true := by decide +kernel
theorem ok_178 : ∀ q ∈ cd_178, okB 178 q = true := by decide +kernel
theorem ok_179 : ∀ q ∈ cd_179, okB 179 q = true := by decide +kernel
theorem ok_180 : ∀ q ∈ cd_180, okB 180 q = true := by decide +kernel
theorem ok_181 : ∀ q ∈ cd_181, okB 181 q = true := by decide +kernel
theorem ok_182 : ∀ q ∈ cd_182, okB 182 q = true := by decide +kernel
theorem ok_183 : ∀ q ∈ cd_183, okB 183 q = true := by decide +kernel
theorem ok_184 : ∀ q ∈ cd_184, okB 184 q = true := by decide +kernel
theorem ok_185 : ∀ q ∈ cd_185, okB 185 q = true := by decide +kernel
theorem ok_186 : ∀ q ∈ cd_186, okB 186 q = true := by decide +kernel
theorem ok_187 : ∀ q ∈ cd_187, okB 187 q = true := by decide +kernel
theorem ok_188 : ∀ q ∈ cd_188, okB 188 q = true := by decide +kernel
theorem ok_189 : ∀ q ∈ cd_189, okB 189 q = true := by decide +kernel
theorem ok_190 : ∀ q ∈ cd_190, okB 190 q = true := by decide +kernel
theorem ok_191 : ∀ q ∈ cd_191, okB 191 q = true := by decide +kernel
theorem ok_192 : ∀ q ∈ cd_192, okB 192 q = true := by decide +kernel
theorem ok_193 : ∀ q ∈ cd_193, okB 193 q = true := by decide +kernel
theorem ok_194 : ∀ q ∈ cd_194, okB 194 q = true := by decide +kernel
theorem ok_195 : ∀ q ∈ cd_195, okB 195 q = true := by decide +kernel
theorem ok_196 : ∀ q ∈ cd_196, okB 196 q = true := by decide +kernel
theorem ok_197 : ∀ q ∈ cd_197, okB 197 q = true := by decide +kernel
theorem ok_198 : ∀ q ∈ cd_198, okB 198 q = true := by decide +kernel
theorem ok_199 : ∀ q ∈ cd_199, okB 199 q = true := by decide +kernel
theorem ok_200 : ∀ q ∈ cd_200, okB 200 q = true := by decide +kernel
theorem ok_201 : ∀ q ∈ cd_201, okB 201 q = true := by decide +kernel
theorem ok_202_0 : ∀ q ∈ (cd_202).take 40, okB 202 q = true := by decide +kernel
theorem ok_202_1 : ∀ q ∈ ((cd_202).drop 40).take 40, okB 202 q = true := by decide +kernel
theorem ok_202_2 : ∀ q ∈ (((cd_202).drop 40).drop 40).take 40, okB 202 q = true := by decide +kernel
theorem ok_202_3 : ∀ q ∈ ((((cd_202).drop 40).drop 40).drop 40).take 40, okB 202 q = true := by decide +kernel
theorem ok_202_4 : ∀ q ∈ ((((cd_202).drop 40).drop 40).drop 40).drop 40, okB 202 q = true := by decide +kernel
theorem ok_202 : ∀ q ∈ cd_202, okB 202 q = true := (td 40 ok_202_0 (td 40 ok_202_1 (td 40 ok_202_2 (td 40 ok_202_3 ok_202_4))))
theorem okA : AllOk 0 cdL := ⟨ok_0, ok_1, ok_2, ok_3, ok_4, ok_5, ok_6, ok_7, ok_8, ok_9, ok_10, ok_11, ok_12, ok_13, ok_14, ok_15, ok_16, ok_17, ok_18, ok_19, ok_20, ok_21, ok_22, ok_23, ok_24, ok_25, ok_26, ok_27, ok_28, ok_29, ok_30, ok_31, ok_32, ok_33, ok_34, ok_35, ok_36, ok_37, ok_38, ok_39, ok_40, ok_41, ok_42, ok_43, ok_44, ok_45, ok_46, ok_47, ok_48, ok_49, ok_50, ok_51, ok_52, ok_53, ok_54, ok_55, ok_56, ok_57, ok_58, ok_59, ok_60, ok_61, ok_62, ok_63, ok_64, ok_65, ok_66, ok_67, ok_68, ok_69, ok_70, ok_71, ok_72, ok_73, ok_74, ok_75, ok_76, ok_77, ok_78, ok_79, ok_80, ok_81, ok_82, ok_83, ok_84, ok_85, ok_86, ok_87, ok_88, ok_89, ok_90, ok_91, ok_92, ok_93, ok_94, ok_95, ok_96, ok_97, ok_98, ok_99, ok_100, ok_101, ok_102, ok_103, ok_104, ok_105, ok_106, ok_107, ok_108, ok_109, ok_110, ok_111, ok_112, ok_113, ok_114, ok_115, ok_116, ok_117, ok_118, ok_119, ok_120, ok_121, ok_122, ok_123, ok_124, ok_125, ok_126, ok_127, ok_128, ok_129, ok_130, ok_131, ok_132, ok_133, ok_134, ok_135, ok_136, ok_137, ok_138, ok_139, ok_140, ok_141, ok_142, ok_143, ok_144, ok_145, ok_146, ok_147, ok_148, ok_149, ok_150, ok_151, ok_152, ok_153, ok_154, ok_155, ok_156, ok_157, ok_158, ok_159, ok_160, ok_161, ok_162, ok_163, ok_164, ok_165, ok_166, ok_167, ok_168, ok_169, ok_170, ok_171, ok_172, ok_173, ok_174, ok_175, ok_176, ok_177, ok_178, ok_179, ok_180, ok_181, ok_182, ok_183, ok_184, ok_185, ok_186, ok_187, ok_188, ok_189, ok_190, ok_191, ok_192, ok_193, ok_194, ok_195, ok_196, ok_197, ok_198, ok_199, ok_200, ok_201, ok_202, trivial⟩
theorem okC {k pc : Nat} {x : Instr × Nat × Nat × Nat × Nat × List Nat} (h : cd k pc = some x) : okB k (pc, x) = true := by
  unfold cd at h
  obtain ⟨q, hq, rfl⟩ := Option.map_eq_some_iff.mp h
  have h1 := List.mem_of_find?_eq_some hq
  have h2 := List.find?_some hq
  have h3 := AllOk_at okA k q h1
  rw [Nat.zero_add] at h3
  have h4 : q.1 = pc := by simpa using h2
  subst h4
  exact h3
/-- a method's own facts -/
def mokB (k : Nat) : Bool := plainName (mN k).cls && decide ((mN k).cls ≠ "java/lang/invoke/MethodHandle") && decide ((mN k).cls ≠ "java/lang/invoke/VarHandle") && decide ((mN k).cls = Rn (own k))
  && (match mR k with
    | none => rk k == 0
    | some .int => rk k == 1
    | some .boolean => rk k == 2 || rk k == 6
    | some .long => rk k == 3
    | some .double => rk k == 4
    | some (.object _) => rk k == 5
    | _ => false)
def parB (k n : Nat) : Bool := decide ((parseMethodDescriptor (mN k).desc).map (fun d => d.parameters.length) = some n)
/-- calls: the number of arguments, the callee's kind -/
def calB (q : Nat × Nat × Nat × Nat × Nat) : Bool := match q with
  | (o, _, a, b, c) => c == 6 || c == 8 || c == 9 || (decide (a < 202) && nar a == b && (if c == 2 || c == 3 || c == 7 then parB a b && staT.contains a else b ≥ 1 && parB a (b - 1) && ismT.contains a && (c ≥ 4 || selT.contains a)) && (if c == 7 then !(hhs a).isEmpty && decide ((mN a).cls = Rn o) else (hhs a).isEmpty) && (c < 4 || c == 7 || ((mN a).name == "<init>" && rk a == 0)))
theorem mok_all : ∀ k ∈ List.range 203, mokB k = true := by decide +kernel
theorem calg_all : ∀ q ∈ mlgT, calB q = true := by decide +kernel
theorem caln_all : ∀ q ∈ mlnT, calB q = true := by decide +kernel
