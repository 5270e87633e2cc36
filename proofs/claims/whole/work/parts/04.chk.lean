/-- a constant of the code: nI of a number from 0 on -/
def ci : Int → Int32
  | .ofNat k => nI k
  | .negSucc k => Int32.ofInt (.negSucc k)
theorem ci_eq (z : Int) : Int32.ofInt z = ci z := by
  cases z with
  | ofNat k => exact Int32.ofInt_eq_ofNat
  | negSucc k => rfl
def mI (k : Nat) : Int32 := -nI k
def kI (a b : Nat) : Int32 := bif Nat.beq b 0 then nI a else mI b
def nopL : Leaf := (.nop, 0, 0, 0)
def lkQ (q : Nat) (w : Cond) : Bool := decide (lw_tbl[q]? = some w) && goodWord w
theorem lkQ_spec {q : Nat} {w : Cond} (h : lkQ q w = true) : w ∈ lw_tbl ∧ goodWord w = true := by
  unfold lkQ at h
  rw [Bool.and_eq_true, decide_eq_true_eq] at h
  exact ⟨List.mem_of_getElem? h.1, h.2⟩
/-- the lengths of the instructions that the code has -/
def ilen : Instr → Nat
  | .aload _ | .iload _ | .istore _ | .astore _ | .bipush _ | .ldc _ => 2
  | .getfield _ | .putfield _ | .if_icmp _ _ | .ifCond _ _ | .goto _ | .invokevirtual _ | .invokestatic _ | .iinc _ _ | .sipush _ | .ldc_w _ | .ldc2_w _ => 3
  | _ => 1
def isSw : Instr → Bool
  | .tableswitch _ _ _ _ | .lookupswitch _ _ => true
  | _ => false
def okX (own : String) (pc : Nat) (i : Instr) (a b q : Nat) : Bool := match i with
  | .getfield x => lkQ q (.fieldLink own x (RR a) (TT a b).2.1 (TT a b).2.2.1) && Nat.blt b (NF a) && Nat.blt a 11
  | .putfield x => lkQ q (.fieldLink own x (RR a) (TT a b).2.1 (TT a b).2.2.1) && Nat.blt b (NF a) && Nat.blt a 11 && !(TT a b).2.2.2
  | .if_icmp _ off => decide ((pc : Int) + off = (a : Int))
  | .ifCond _ off => decide ((pc : Int) + off = (a : Int))
  | .goto off => decide ((pc : Int) + off = (a : Int))
  | .invokevirtual x => lkQ q (.methodLink own x (MN a)) && Nat.blt a 177 && Nat.beq (MP a).2.2.2.2.1 b && Nat.beq (MP a).2.2.2.2.2 0
  | .invokestatic x => bif Nat.beq a 999 then lkQ q (.methodLink own x arraycopyName) else bif Nat.beq a 998 then lkQ q (.methodLink own x Lib.Math.max.name) else bif Nat.beq a 997 then lkQ q (.methodLink own x Lib.Math.min.name) else (lkQ q (.methodLink own x (MN a)) && Nat.blt a 177 && Nat.beq (MP a).2.2.2.2.1 b && Nat.beq (MP a).2.2.2.2.2 1)
  | .ldc x => lkQ q (.constant own x (kI a b))
  | .ldc_w x => lkQ q (.constant own x (kI a b))
  | .ldc2_w x => lkQ q (.constantLong own x (Int64.ofNat a))
  | .iconst n => decide (Int32.ofInt n = kI a b)
  | .iinc _ n => decide (Int32.ofInt n = kI a b)
  | .bipush n => decide ((Int8.ofInt n).toInt32 = kI a b)
  | .sipush n => decide ((Int16.ofInt n).toInt32 = kI a b)
  | .tableswitch dflt lo hi offs => decide (0 ≤ (pc : Int) + dflt) && offs.toList.all (fun o => decide (0 ≤ (pc : Int) + o)) && decide (lo + (offs.toList.length : Int) = hi + 1) && decide (-1000 ≤ lo) && decide (hi ≤ 1000)
  | .lookupswitch dflt ps => decide (0 ≤ (pc : Int) + dflt) && ps.toList.all (fun o => decide (0 ≤ (pc : Int) + o.2) && decide (-1000 ≤ o.1) && decide (o.1 ≤ 1000)) && (ps.toList.zip (ps.toList.drop 1)).all (fun (a, next) => a.1 < next.1)
  | _ => true
def okLf (own : String) (bytes : ByteArray) (pc : Nat) (f : Leaf) : Bool := match f with
  | (.nop, _) => true
  | (i, a, b, q) => (match decode bytes pc with
    | .ok (i', n') => decide (i' = i) && (Nat.beq n' (ilen i) || isSw i)
    | .error _ => false) && okX own pc i a b q
def okM (j N : Nat) (cd : Nat → Leaf) : Bool := (List.range N).all (fun pc => okLf (MN j).cls (MB j) pc (cd pc))
theorem ble_f {n pc : Nat} (h : n < pc) : Nat.ble pc n = false := by
  cases e : Nat.ble pc n with
  | false => rfl
  | true => exact absurd (Nat.le_of_ble_eq_true e) (by omega)
theorem okM_spec {j N : Nat} {cd : Nat → Leaf} (h : okM j (N + 1) cd = true) (hN : ∀ pc, N < pc → cd pc = nopL) : ∀ pc, okLf (MN j).cls (MB j) pc (cd pc) = true := by
  intro pc
  rcases Nat.lt_or_ge N pc with q | q
  · rw [hN pc q]; rfl
  · exact List.all_eq_true.mp h pc (List.mem_range.mpr (by omega))
/-- what a call needs of the tables, of the called -/
def okCal (a : Nat) : Bool := lkQ (MP a).1 (.code (MN a) (MB a) (ML a) (MR a)) && lkQ (MP a).2.2.2.1 (.initialized (MN a).cls) && Nat.ble (ML a) 40 && plainName (MN a).cls && decide ((MN a).cls ≠ "java/lang/invoke/MethodHandle") && decide ((MN a).cls ≠ "java/lang/invoke/VarHandle") && decide ((parseMethodDescriptor (MN a).desc).map (fun d => d.parameters.length) = some (MP a).2.2.2.2.1) &&
  (bif Nat.beq (MP a).2.2.2.2.2 0 then lkQ (MP a).2.1 (.instanceMethod (MN a)) && lkQ (MP a).2.2.1 (.selects (MN a).cls (MN a) (MN a)) else lkQ (MP a).2.1 (.static (MN a)))
theorem ok_cpy : (lkQ 389 (.native arraycopyName) && lkQ 388 (.static arraycopyName) && lkQ 63 (.initialized "java/lang/System")) = true := by decide +kernel
theorem ok_max : (lkQ 553 (.static Lib.Math.max.name) && lkQ 65 (.initialized "java/lang/Math") && lkQ 554 (.code Lib.Math.max.name Lib.Math.max.code 2 (some .int))) = true := by decide +kernel
theorem ok_min : (lkQ 550 (.static Lib.Math.min.name) && lkQ 65 (.initialized "java/lang/Math") && lkQ 551 (.code Lib.Math.min.name Lib.Math.min.code 2 (some .int))) = true := by decide +kernel
theorem okCal_0 : okCal 0 = true := by decide +kernel
theorem okCal_1 : okCal 1 = true := by decide +kernel
theorem okCal_2 : okCal 2 = true := by decide +kernel
theorem okCal_3 : okCal 3 = true := by decide +kernel
theorem okCal_4 : okCal 4 = true := by decide +kernel
theorem okCal_5 : okCal 5 = true := by decide +kernel
theorem okCal_6 : okCal 6 = true := by decide +kernel
theorem okCal_7 : okCal 7 = true := by decide +kernel
theorem okCal_8 : okCal 8 = true := by decide +kernel
theorem okCal_9 : okCal 9 = true := by decide +kernel
theorem okCal_10 : okCal 10 = true := by decide +kernel
theorem okCal_11 : okCal 11 = true := by decide +kernel
theorem okCal_12 : okCal 12 = true := by decide +kernel
theorem okCal_13 : okCal 13 = true := by decide +kernel
theorem okCal_14 : okCal 14 = true := by decide +kernel
theorem okCal_15 : okCal 15 = true := by decide +kernel
theorem okCal_16 : okCal 16 = true := by decide +kernel
theorem okCal_17 : okCal 17 = true := by decide +kernel
theorem okCal_18 : okCal 18 = true := by decide +kernel
theorem okCal_19 : okCal 19 = true := by decide +kernel
theorem okCal_20 : okCal 20 = true := by decide +kernel
theorem okCal_21 : okCal 21 = true := by decide +kernel
theorem okCal_22 : okCal 22 = true := by decide +kernel
theorem okCal_23 : okCal 23 = true := by decide +kernel
theorem okCal_24 : okCal 24 = true := by decide +kernel
theorem okCal_25 : okCal 25 = true := by decide +kernel
theorem okCal_26 : okCal 26 = true := by decide +kernel
theorem okCal_27 : okCal 27 = true := by decide +kernel
theorem okCal_28 : okCal 28 = true := by decide +kernel
theorem okCal_29 : okCal 29 = true := by decide +kernel
theorem okCal_30 : okCal 30 = true := by decide +kernel
theorem okCal_31 : okCal 31 = true := by decide +kernel
theorem okCal_32 : okCal 32 = true := by decide +kernel
theorem okCal_33 : okCal 33 = true := by decide +kernel
theorem okCal_34 : okCal 34 = true := by decide +kernel
theorem okCal_35 : okCal 35 = true := by decide +kernel
theorem okCal_36 : okCal 36 = true := by decide +kernel
theorem okCal_37 : okCal 37 = true := by decide +kernel
theorem okCal_38 : okCal 38 = true := by decide +kernel
theorem okCal_39 : okCal 39 = true := by decide +kernel
theorem okCal_40 : okCal 40 = true := by decide +kernel
theorem okCal_41 : okCal 41 = true := by decide +kernel
theorem okCal_42 : okCal 42 = true := by decide +kernel
theorem okCal_43 : okCal 43 = true := by decide +kernel
theorem okCal_44 : okCal 44 = true := by decide +kernel
theorem okCal_45 : okCal 45 = true := by decide +kernel
theorem okCal_46 : okCal 46 = true := by decide +kernel
theorem okCal_47 : okCal 47 = true := by decide +kernel
theorem okCal_48 : okCal 48 = true := by decide +kernel
theorem okCal_49 : okCal 49 = true := by decide +kernel
theorem okCal_50 : okCal 50 = true := by decide +kernel
theorem okCal_51 : okCal 51 = true := by decide +kernel
theorem okCal_52 : okCal 52 = true := by decide +kernel
theorem okCal_53 : okCal 53 = true := by decide +kernel
theorem okCal_54 : okCal 54 = true := by decide +kernel
theorem okCal_55 : okCal 55 = true := by decide +kernel
theorem okCal_56 : okCal 56 = true := by decide +kernel
theorem okCal_57 : okCal 57 = true := by decide +kernel
theorem okCal_58 : okCal 58 = true := by decide +kernel
theorem okCal_59 : okCal 59 = true := by decide +kernel
theorem okCal_60 : okCal 60 = true := by decide +kernel
theorem okCal_61 : okCal 61 = true := by decide +kernel
theorem okCal_62 : okCal 62 = true := by decide +kernel
theorem okCal_63 : okCal 63 = true := by decide +kernel
theorem okCal_64 : okCal 64 = true := by decide +kernel
theorem okCal_65 : okCal 65 = true := by decide +kernel
theorem okCal_66 : okCal 66 = true := by decide +kernel
theorem okCal_67 : okCal 67 = true := by decide +kernel
theorem okCal_68 : okCal 68 = true := by decide +kernel
theorem okCal_69 : okCal 69 = true := by decide +kernel
theorem okCal_70 : okCal 70 = true := by decide +kernel
theorem okCal_71 : okCal 71 = true := by decide +kernel
theorem okCal_72 : okCal 72 = true := by decide +kernel
theorem okCal_73 : okCal 73 = true := by decide +kernel
theorem okCal_74 : okCal 74 = true := by decide +kernel
theorem okCal_75 : okCal 75 = true := by decide +kernel
theorem okCal_76 : okCal 76 = true := by decide +kernel
theorem okCal_77 : okCal 77 = true := by decide +kernel
theorem okCal_78 : okCal 78 = true := by decide +kernel
theorem okCal_79 : okCal 79 = true := by decide +kernel
theorem okCal_80 : okCal 80 = true := by decide +kernel
theorem okCal_81 : okCal 81 = true := by decide +kernel
theorem okCal_82 : okCal 82 = true := by decide +kernel
theorem okCal_83 : okCal 83 = true := by decide +kernel
theorem okCal_84 : okCal 84 = true := by decide +kernel
theorem okCal_85 : okCal 85 = true := by decide +kernel
theorem okCal_86 : okCal 86 = true := by decide +kernel
theorem okCal_87 : okCal 87 = true := by decide +kernel
theorem okCal_88 : okCal 88 = true := by decide +kernel
theorem okCal_89 : okCal 89 = true := by decide +kernel
theorem okCal_90 : okCal 90 = true := by decide +kernel
theorem okCal_91 : okCal 91 = true := by decide +kernel
theorem okCal_92 : okCal 92 = true := by decide +kernel
theorem okCal_93 : okCal 93 = true := by decide +kernel
theorem okCal_94 : okCal 94 = true := by decide +kernel
theorem okCal_95 : okCal 95 = true := by decide +kernel
theorem okCal_96 : okCal 96 = true := by decide +kernel
theorem okCal_97 : okCal 97 = true := by decide +kernel
theorem okCal_98 : okCal 98 = true := by decide +kernel
theorem okCal_99 : okCal 99 = true := by decide +kernel
theorem okCal_100 : okCal 100 = true := by decide +kernel
theorem okCal_101 : okCal 101 = true := by decide +kernel
theorem okCal_102 : okCal 102 = true := by decide +kernel
theorem okCal_103 : okCal 103 = true := by decide +kernel
theorem okCal_104 : okCal 104 = true := by decide +kernel
theorem okCal_105 : okCal 105 = true := by decide +kernel
theorem okCal_106 : okCal 106 = true := by decide +kernel
theorem okCal_107 : okCal 107 = true := by decide +kernel
theorem okCal_108 : okCal 108 = true := by decide +kernel
theorem okCal_109 : okCal 109 = true := by decide +kernel
theorem okCal_110 : okCal 110 = true := by decide +kernel
theorem okCal_111 : okCal 111 = true := by decide +kernel
theorem okCal_112 : okCal 112 = true := by decide +kernel
theorem okCal_113 : okCal 113 = true := by decide +kernel
theorem okCal_114 : okCal 114 = true := by decide +kernel
theorem okCal_115 : okCal 115 = true := by decide +kernel
theorem okCal_116 : okCal 116 = true := by decide +kernel
theorem okCal_117 : okCal 117 = true := by decide +kernel
theorem okCal_118 : okCal 118 = true := by decide +kernel
theorem okCal_119 : okCal 119 = true := by decide +kernel
theorem okCal_120 : okCal 120 = true := by decide +kernel
theorem okCal_121 : okCal 121 = true := by decide +kernel
theorem okCal_122 : okCal 122 = true := by decide +kernel
theorem okCal_123 : okCal 123 = true := by decide +kernel
theorem okCal_124 : okCal 124 = true := by decide +kernel
theorem okCal_125 : okCal 125 = true := by decide +kernel
theorem okCal_126 : okCal 126 = true := by decide +kernel
theorem okCal_127 : okCal 127 = true := by decide +kernel
theorem okCal_128 : okCal 128 = true := by decide +kernel
theorem okCal_129 : okCal 129 = true := by decide +kernel
theorem okCal_130 : okCal 130 = true := by decide +kernel
theorem okCal_131 : okCal 131 = true := by decide +kernel
theorem okCal_132 : okCal 132 = true := by decide +kernel
theorem okCal_133 : okCal 133 = true := by decide +kernel
theorem okCal_134 : okCal 134 = true := by decide +kernel
theorem okCal_135 : okCal 135 = true := by decide +kernel
theorem okCal_136 : okCal 136 = true := by decide +kernel
theorem okCal_137 : okCal 137 = true := by decide +kernel
theorem okCal_138 : okCal 138 = true := by decide +kernel
theorem okCal_139 : okCal 139 = true := by decide +kernel
theorem okCal_140 : okCal 140 = true := by decide +kernel
theorem okCal_141 : okCal 141 = true := by decide +kernel
theorem okCal_142 : okCal 142 = true := by decide +kernel
theorem okCal_143 : okCal 143 = true := by decide +kernel
theorem okCal_144 : okCal 144 = true := by decide +kernel
theorem okCal_145 : okCal 145 = true := by decide +kernel
theorem okCal_146 : okCal 146 = true := by decide +kernel
theorem okCal_147 : okCal 147 = true := by decide +kernel
theorem okCal_148 : okCal 148 = true := by decide +kernel
theorem okCal_149 : okCal 149 = true := by decide +kernel
theorem okCal_150 : okCal 150 = true := by decide +kernel
theorem okCal_151 : okCal 151 = true := by decide +kernel
theorem okCal_152 : okCal 152 = true := by decide +kernel
theorem okCal_153 : okCal 153 = true := by decide +kernel
theorem okCal_154 : okCal 154 = true := by decide +kernel
theorem okCal_155 : okCal 155 = true := by decide +kernel
theorem okCal_156 : okCal 156 = true := by decide +kernel
theorem okCal_157 : okCal 157 = true := by decide +kernel
theorem okCal_158 : okCal 158 = true := by decide +kernel
theorem okCal_159 : okCal 159 = true := by decide +kernel
theorem okCal_160 : okCal 160 = true := by decide +kernel
theorem okCal_161 : okCal 161 = true := by decide +kernel
theorem okCal_162 : okCal 162 = true := by decide +kernel
theorem okCal_163 : okCal 163 = true := by decide +kernel
theorem okCal_164 : okCal 164 = true := by decide +kernel
theorem okCal_165 : okCal 165 = true := by decide +kernel
theorem okCal_166 : okCal 166 = true := by decide +kernel
theorem okCal_167 : okCal 167 = true := by decide +kernel
theorem okCal_168 : okCal 168 = true := by decide +kernel
theorem okCal_169 : okCal 169 = true := by decide +kernel
theorem okCal_170 : okCal 170 = true := by decide +kernel
theorem okCal_171 : okCal 171 = true := by decide +kernel
theorem okCal_172 : okCal 172 = true := by decide +kernel
theorem okCal_173 : okCal 173 = true := by decide +kernel
theorem okCal_174 : okCal 174 = true := by decide +kernel
theorem okCal_175 : okCal 175 = true := by decide +kernel
theorem okCal_176 : okCal 176 = true := by decide +kernel
theorem okCal_all : ∀ {a : Nat}, a < 177 → okCal a = true
  | 0, _ => okCal_0
  | 1, _ => okCal_1
  | 2, _ => okCal_2
  | 3, _ => okCal_3
  | 4, _ => okCal_4
  | 5, _ => okCal_5
  | 6, _ => okCal_6
  | 7, _ => okCal_7
  | 8, _ => okCal_8
  | 9, _ => okCal_9
  | 10, _ => okCal_10
  | 11, _ => okCal_11
  | 12, _ => okCal_12
  | 13, _ => okCal_13
  | 14, _ => okCal_14
  | 15, _ => okCal_15
  | 16, _ => okCal_16
  | 17, _ => okCal_17
  | 18, _ => okCal_18
  | 19, _ => okCal_19
  | 20, _ => okCal_20
  | 21, _ => okCal_21
  | 22, _ => okCal_22
  | 23, _ => okCal_23
  | 24, _ => okCal_24
  | 25, _ => okCal_25
  | 26, _ => okCal_26
  | 27, _ => okCal_27
  | 28, _ => okCal_28
  | 29, _ => okCal_29
  | 30, _ => okCal_30
  | 31, _ => okCal_31
  | 32, _ => okCal_32
  | 33, _ => okCal_33
  | 34, _ => okCal_34
  | 35, _ => okCal_35
  | 36, _ => okCal_36
  | 37, _ => okCal_37
  | 38, _ => okCal_38
  | 39, _ => okCal_39
  | 40, _ => okCal_40
  | 41, _ => okCal_41
  | 42, _ => okCal_42
  | 43, _ => okCal_43
  | 44, _ => okCal_44
  | 45, _ => okCal_45
  | 46, _ => okCal_46
  | 47, _ => okCal_47
  | 48, _ => okCal_48
  | 49, _ => okCal_49
  | 50, _ => okCal_50
  | 51, _ => okCal_51
  | 52, _ => okCal_52
  | 53, _ => okCal_53
  | 54, _ => okCal_54
  | 55, _ => okCal_55
  | 56, _ => okCal_56
  | 57, _ => okCal_57
  | 58, _ => okCal_58
  | 59, _ => okCal_59
  | 60, _ => okCal_60
  | 61, _ => okCal_61
  | 62, _ => okCal_62
  | 63, _ => okCal_63
  | 64, _ => okCal_64
  | 65, _ => okCal_65
  | 66, _ => okCal_66
  | 67, _ => okCal_67
  | 68, _ => okCal_68
  | 69, _ => okCal_69
  | 70, _ => okCal_70
  | 71, _ => okCal_71
  | 72, _ => okCal_72
  | 73, _ => okCal_73
  | 74, _ => okCal_74
  | 75, _ => okCal_75
  | 76, _ => okCal_76
  | 77, _ => okCal_77
  | 78, _ => okCal_78
  | 79, _ => okCal_79
  | 80, _ => okCal_80
  | 81, _ => okCal_81
  | 82, _ => okCal_82
  | 83, _ => okCal_83
  | 84, _ => okCal_84
  | 85, _ => okCal_85
  | 86, _ => okCal_86
  | 87, _ => okCal_87
  | 88, _ => okCal_88
  | 89, _ => okCal_89
  | 90, _ => okCal_90
  | 91, _ => okCal_91
  | 92, _ => okCal_92
  | 93, _ => okCal_93
  | 94, _ => okCal_94
  | 95, _ => okCal_95
  | 96, _ => okCal_96
  | 97, _ => okCal_97
  | 98, _ => okCal_98
  | 99, _ => okCal_99
  | 100, _ => okCal_100
  | 101, _ => okCal_101
  | 102, _ => okCal_102
  | 103, _ => okCal_103
  | 104, _ => okCal_104
  | 105, _ => okCal_105
  | 106, _ => okCal_106
  | 107, _ => okCal_107
  | 108, _ => okCal_108
  | 109, _ => okCal_109
  | 110, _ => okCal_110
  | 111, _ => okCal_111
  | 112, _ => okCal_112
  | 113, _ => okCal_113
  | 114, _ => okCal_114
  | 115, _ => okCal_115
  | 116, _ => okCal_116
  | 117, _ => okCal_117
  | 118, _ => okCal_118
  | 119, _ => okCal_119
  | 120, _ => okCal_120
  | 121, _ => okCal_121
  | 122, _ => okCal_122
  | 123, _ => okCal_123
  | 124, _ => okCal_124
  | 125, _ => okCal_125
  | 126, _ => okCal_126
  | 127, _ => okCal_127
  | 128, _ => okCal_128
  | 129, _ => okCal_129
  | 130, _ => okCal_130
  | 131, _ => okCal_131
  | 132, _ => okCal_132
  | 133, _ => okCal_133
  | 134, _ => okCal_134
  | 135, _ => okCal_135
  | 136, _ => okCal_136
  | 137, _ => okCal_137
  | 138, _ => okCal_138
  | 139, _ => okCal_139
  | 140, _ => okCal_140
  | 141, _ => okCal_141
  | 142, _ => okCal_142
  | 143, _ => okCal_143
  | 144, _ => okCal_144
  | 145, _ => okCal_145
  | 146, _ => okCal_146
  | 147, _ => okCal_147
  | 148, _ => okCal_148
  | 149, _ => okCal_149
  | 150, _ => okCal_150
  | 151, _ => okCal_151
  | 152, _ => okCal_152
  | 153, _ => okCal_153
  | 154, _ => okCal_154
  | 155, _ => okCal_155
  | 156, _ => okCal_156
  | 157, _ => okCal_157
  | 158, _ => okCal_158
  | 159, _ => okCal_159
  | 160, _ => okCal_160
  | 161, _ => okCal_161
  | 162, _ => okCal_162
  | 163, _ => okCal_163
  | 164, _ => okCal_164
  | 165, _ => okCal_165
  | 166, _ => okCal_166
  | 167, _ => okCal_167
  | 168, _ => okCal_168
  | 169, _ => okCal_169
  | 170, _ => okCal_170
  | 171, _ => okCal_171
  | 172, _ => okCal_172
  | 173, _ => okCal_173
  | 174, _ => okCal_174
  | 175, _ => okCal_175
  | 176, _ => okCal_176
  | n + 177, h => absurd h (by omega)
