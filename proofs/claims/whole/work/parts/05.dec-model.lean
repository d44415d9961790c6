theorem dX9_init_0 : decode cX9_init 0 = .ok (.aload_n 0, 1) := by decide +kernel
theorem dX9_init_1 : decode cX9_init 1 = .ok (.invokespecial 1, 3) := by decide +kernel
theorem dX9_init_4 : decode cX9_init 4 = .ok (.aload_n 0, 1) := by decide +kernel
theorem dX9_init_5 : decode cX9_init 5 = .ok (.bipush 70, 2) := by decide +kernel
theorem dX9_init_7 : decode cX9_init 7 = .ok (.newarray .int, 2) := by decide +kernel
theorem dX9_init_9 : decode cX9_init 9 = .ok (.putfield 7, 3) := by decide +kernel
theorem dX9_init_12 : decode cX9_init 12 = .ok (.aload_n 0, 1) := by decide +kernel
theorem dX9_init_13 : decode cX9_init 13 = .ok (.bipush 70, 2) := by decide +kernel
theorem dX9_init_15 : decode cX9_init 15 = .ok (.newarray .int, 2) := by decide +kernel
theorem dX9_init_17 : decode cX9_init 17 = .ok (.putfield 13, 3) := by decide +kernel
theorem dX9_init_20 : decode cX9_init 20 = .ok (.aload_n 0, 1) := by decide +kernel
theorem dX9_init_21 : decode cX9_init 21 = .ok (.bipush 70, 2) := by decide +kernel
theorem dX9_init_23 : decode cX9_init 23 = .ok (.newarray .int, 2) := by decide +kernel
theorem dX9_init_25 : decode cX9_init 25 = .ok (.putfield 16, 3) := by decide +kernel
theorem dX9_init_28 : decode cX9_init 28 = .ok (.aload_n 0, 1) := by decide +kernel
theorem dX9_init_29 : decode cX9_init 29 = .ok (.bipush 70, 2) := by decide +kernel
theorem dX9_init_31 : decode cX9_init 31 = .ok (.newarray .boolean, 2) := by decide +kernel
theorem dX9_init_33 : decode cX9_init 33 = .ok (.putfield 19, 3) := by decide +kernel
theorem dX9_init_36 : decode cX9_init 36 = .ok (.aload_n 0, 1) := by decide +kernel
theorem dX9_init_37 : decode cX9_init 37 = .ok (.bipush 20, 2) := by decide +kernel
theorem dX9_init_39 : decode cX9_init 39 = .ok (.newarray .int, 2) := by decide +kernel
theorem dX9_init_41 : decode cX9_init 41 = .ok (.putfield 23, 3) := by decide +kernel
theorem dX9_init_44 : decode cX9_init 44 = .ok (.aload_n 0, 1) := by decide +kernel
theorem dX9_init_45 : decode cX9_init 45 = .ok (.bipush 20, 2) := by decide +kernel
theorem dX9_init_47 : decode cX9_init 47 = .ok (.newarray .int, 2) := by decide +kernel
theorem dX9_init_49 : decode cX9_init 49 = .ok (.putfield 26, 3) := by decide +kernel
theorem dX9_init_52 : decode cX9_init 52 = .ok (.aload_n 0, 1) := by decide +kernel
theorem dX9_init_53 : decode cX9_init 53 = .ok (.sipush 272, 3) := by decide +kernel
theorem dX9_init_56 : decode cX9_init 56 = .ok (.newarray .long, 2) := by decide +kernel
theorem dX9_init_58 : decode cX9_init 58 = .ok (.putfield 29, 3) := by decide +kernel
theorem dX9_init_61 : decode cX9_init 61 = .ok (.aload_n 0, 1) := by decide +kernel
theorem dX9_init_62 : decode cX9_init 62 = .ok (.bipush 20, 2) := by decide +kernel
theorem dX9_init_64 : decode cX9_init 64 = .ok (.newarray .int, 2) := by decide +kernel
theorem dX9_init_66 : decode cX9_init 66 = .ok (.putfield 33, 3) := by decide +kernel
theorem dX9_init_69 : decode cX9_init 69 = .ok (.aload_n 0, 1) := by decide +kernel
theorem dX9_init_70 : decode cX9_init 70 = .ok (.bipush 16, 2) := by decide +kernel
theorem dX9_init_72 : decode cX9_init 72 = .ok (.newarray .long, 2) := by decide +kernel
theorem dX9_init_74 : decode cX9_init 74 = .ok (.putfield 36, 3) := by decide +kernel
theorem dX9_init_77 : decode cX9_init 77 = .ok (.aload_n 0, 1) := by decide +kernel
theorem dX9_init_78 : decode cX9_init 78 = .ok (.sipush 400, 3) := by decide +kernel
theorem dX9_init_81 : decode cX9_init 81 = .ok (.newarray .int, 2) := by decide +kernel
theorem dX9_init_83 : decode cX9_init 83 = .ok (.putfield 39, 3) := by decide +kernel
theorem dX9_init_86 : decode cX9_init 86 = .ok (.aload_n 0, 1) := by decide +kernel
theorem dX9_init_87 : decode cX9_init 87 = .ok (.bipush 10, 2) := by decide +kernel
theorem dX9_init_89 : decode cX9_init 89 = .ok (.newarray .int, 2) := by decide +kernel
theorem dX9_init_91 : decode cX9_init 91 = .ok (.putfield 42, 3) := by decide +kernel
theorem dX9_init_94 : decode cX9_init 94 = .ok (.aload_n 0, 1) := by decide +kernel
theorem dX9_init_95 : decode cX9_init 95 = .ok (.bipush 10, 2) := by decide +kernel
theorem dX9_init_97 : decode cX9_init 97 = .ok (.newarray .int, 2) := by decide +kernel
theorem dX9_init_99 : decode cX9_init 99 = .ok (.putfield 45, 3) := by decide +kernel
theorem dX9_init_102 : decode cX9_init 102 = .ok (.aload_n 0, 1) := by decide +kernel
theorem dX9_init_103 : decode cX9_init 103 = .ok (.bipush 10, 2) := by decide +kernel
theorem dX9_init_105 : decode cX9_init 105 = .ok (.newarray .int, 2) := by decide +kernel
theorem dX9_init_107 : decode cX9_init 107 = .ok (.putfield 48, 3) := by decide +kernel
theorem dX9_init_110 : decode cX9_init 110 = .ok (.aload_n 0, 1) := by decide +kernel
theorem dX9_init_111 : decode cX9_init 111 = .ok (.sipush 1000, 3) := by decide +kernel
theorem dX9_init_114 : decode cX9_init 114 = .ok (.newarray .int, 2) := by decide +kernel
theorem dX9_init_116 : decode cX9_init 116 = .ok (.putfield 51, 3) := by decide +kernel
theorem dX9_init_119 : decode cX9_init 119 = .ok (.aload_n 0, 1) := by decide +kernel
theorem dX9_init_120 : decode cX9_init 120 = .ok (.bipush 12, 2) := by decide +kernel
theorem dX9_init_122 : decode cX9_init 122 = .ok (.newarray .int, 2) := by decide +kernel
theorem dX9_init_124 : decode cX9_init 124 = .ok (.putfield 54, 3) := by decide +kernel
theorem dX9_init_127 : decode cX9_init 127 = .ok (.aload_n 0, 1) := by decide +kernel
theorem dX9_init_128 : decode cX9_init 128 = .ok (.bipush 12, 2) := by decide +kernel
theorem dX9_init_130 : decode cX9_init 130 = .ok (.newarray .int, 2) := by decide +kernel
theorem dX9_init_132 : decode cX9_init 132 = .ok (.putfield 57, 3) := by decide +kernel
theorem dX9_init_135 : decode cX9_init 135 = .ok (.aload_n 0, 1) := by decide +kernel
theorem dX9_init_136 : decode cX9_init 136 = .ok (.bipush 12, 2) := by decide +kernel
theorem dX9_init_138 : decode cX9_init 138 = .ok (.newarray .int, 2) := by decide +kernel
theorem dX9_init_140 : decode cX9_init 140 = .ok (.putfield 60, 3) := by decide +kernel
theorem dX9_init_143 : decode cX9_init 143 = .ok (.aload_n 0, 1) := by decide +kernel
theorem dX9_init_144 : decode cX9_init 144 = .ok (.sipush 1000, 3) := by decide +kernel
theorem dX9_init_147 : decode cX9_init 147 = .ok (.newarray .int, 2) := by decide +kernel
theorem dX9_init_149 : decode cX9_init 149 = .ok (.putfield 63, 3) := by decide +kernel
theorem dX9_init_152 : decode cX9_init 152 = .ok (.aload_n 0, 1) := by decide +kernel
theorem dX9_init_153 : decode cX9_init 153 = .ok (.sipush 400, 3) := by decide +kernel
theorem dX9_init_156 : decode cX9_init 156 = .ok (.newarray .int, 2) := by decide +kernel
theorem dX9_init_158 : decode cX9_init 158 = .ok (.putfield 66, 3) := by decide +kernel
theorem dX9_init_161 : decode cX9_init 161 = .ok (.aload_n 0, 1) := by decide +kernel
theorem dX9_init_162 : decode cX9_init 162 = .ok (.bipush 10, 2) := by decide +kernel
theorem dX9_init_164 : decode cX9_init 164 = .ok (.newarray .int, 2) := by decide +kernel
theorem dX9_init_166 : decode cX9_init 166 = .ok (.putfield 69, 3) := by decide +kernel
theorem dX9_init_169 : decode cX9_init 169 = .ok (.aload_n 0, 1) := by decide +kernel
theorem dX9_init_170 : decode cX9_init 170 = .ok (.sipush 400, 3) := by decide +kernel
theorem dX9_init_173 : decode cX9_init 173 = .ok (.newarray .int, 2) := by decide +kernel
theorem dX9_init_175 : decode cX9_init 175 = .ok (.putfield 72, 3) := by decide +kernel
theorem dX9_init_178 : decode cX9_init 178 = .ok (.aload_n 0, 1) := by decide +kernel
theorem dX9_init_179 : decode cX9_init 179 = .ok (.sipush 6001, 3) := by decide +kernel
theorem dX9_init_182 : decode cX9_init 182 = .ok (.newarray .int, 2) := by decide +kernel
theorem dX9_init_184 : decode cX9_init 184 = .ok (.putfield 75, 3) := by decide +kernel
theorem dX9_init_187 : decode cX9_init 187 = .ok (.aload_n 0, 1) := by decide +kernel
theorem dX9_init_188 : decode cX9_init 188 = .ok (.sipush 6001, 3) := by decide +kernel
theorem dX9_init_191 : decode cX9_init 191 = .ok (.newarray .int, 2) := by decide +kernel
theorem dX9_init_193 : decode cX9_init 193 = .ok (.putfield 78, 3) := by decide +kernel
theorem dX9_init_196 : decode cX9_init 196 = .ok (.aload_n 0, 1) := by decide +kernel
theorem dX9_init_197 : decode cX9_init 197 = .ok (.bipush 11, 2) := by decide +kernel
theorem dX9_init_199 : decode cX9_init 199 = .ok (.newarray .int, 2) := by decide +kernel
theorem dX9_init_201 : decode cX9_init 201 = .ok (.putfield 81, 3) := by decide +kernel
theorem dX9_init_204 : decode cX9_init 204 = .ok (.aload_n 0, 1) := by decide +kernel
theorem dX9_init_205 : decode cX9_init 205 = .ok (.bipush 11, 2) := by decide +kernel
theorem dX9_init_207 : decode cX9_init 207 = .ok (.newarray .boolean, 2) := by decide +kernel
theorem dX9_init_209 : decode cX9_init 209 = .ok (.putfield 84, 3) := by decide +kernel
theorem dX9_init_212 : decode cX9_init 212 = .ok (.aload_n 0, 1) := by decide +kernel
theorem dX9_init_213 : decode cX9_init 213 = .ok (.iconst 0, 1) := by decide +kernel
theorem dX9_init_214 : decode cX9_init 214 = .ok (.putfield 87, 3) := by decide +kernel
theorem dX9_init_217 : decode cX9_init 217 = .ok (.return_, 1) := by decide +kernel
theorem dX9_thrown_0 : decode cX9_thrown 0 = .ok (.aload_n 0, 1) := by decide +kernel
theorem dX9_thrown_1 : decode cX9_thrown 1 = .ok (.getfield 91, 3) := by decide +kernel
theorem dX9_thrown_4 : decode cX9_thrown 4 = .ok (.ireturn, 1) := by decide +kernel
theorem dX9_isIn_0 : decode cX9_isIn 0 = .ok (.lload_n 0, 1) := by decide +kernel
theorem dX9_isIn_1 : decode cX9_isIn 1 = .ok (.lload_n 2, 1) := by decide +kernel
theorem dX9_isIn_2 : decode cX9_isIn 2 = .ok (.lcmp, 1) := by decide +kernel
theorem dX9_isIn_3 : decode cX9_isIn 3 = .ok (.ifCond .lt 14, 3) := by decide +kernel
theorem dX9_isIn_6 : decode cX9_isIn 6 = .ok (.lload_n 0, 1) := by decide +kernel
theorem dX9_isIn_7 : decode cX9_isIn 7 = .ok (.lload 4, 2) := by decide +kernel
theorem dX9_isIn_9 : decode cX9_isIn 9 = .ok (.lcmp, 1) := by decide +kernel
theorem dX9_isIn_10 : decode cX9_isIn 10 = .ok (.ifCond .gt 7, 3) := by decide +kernel
theorem dX9_isIn_13 : decode cX9_isIn 13 = .ok (.iconst 1, 1) := by decide +kernel
theorem dX9_isIn_14 : decode cX9_isIn 14 = .ok (.goto 4, 3) := by decide +kernel
theorem dX9_isIn_17 : decode cX9_isIn 17 = .ok (.iconst 0, 1) := by decide +kernel
theorem dX9_isIn_18 : decode cX9_isIn 18 = .ok (.ireturn, 1) := by decide +kernel
theorem dX9_may_0 : decode cX9_may 0 = .ok (.aload_n 0, 1) := by decide +kernel
theorem dX9_may_1 : decode cX9_may 1 = .ok (.iload_n 1, 1) := by decide +kernel
theorem dX9_may_2 : decode cX9_may 2 = .ok (.ifCond .ne 7, 3) := by decide +kernel
theorem dX9_may_5 : decode cX9_may 5 = .ok (.iconst 1, 1) := by decide +kernel
theorem dX9_may_6 : decode cX9_may 6 = .ok (.goto 20, 3) := by decide +kernel
theorem dX9_may_9 : decode cX9_may 9 = .ok (.iload_n 2, 1) := by decide +kernel
theorem dX9_may_10 : decode cX9_may 10 = .ok (.ifCond .ne 7, 3) := by decide +kernel
theorem dX9_may_13 : decode cX9_may 13 = .ok (.iconst 2, 1) := by decide +kernel
theorem dX9_may_14 : decode cX9_may 14 = .ok (.goto 12, 3) := by decide +kernel
theorem dX9_may_17 : decode cX9_may 17 = .ok (.iload_n 3, 1) := by decide +kernel
theorem dX9_may_18 : decode cX9_may 18 = .ok (.ifCond .ne 7, 3) := by decide +kernel
theorem dX9_may_21 : decode cX9_may 21 = .ok (.iconst 3, 1) := by decide +kernel
theorem dX9_may_22 : decode cX9_may 22 = .ok (.goto 4, 3) := by decide +kernel
theorem dX9_may_25 : decode cX9_may 25 = .ok (.iconst 0, 1) := by decide +kernel
theorem dX9_may_26 : decode cX9_may 26 = .ok (.putfield 91, 3) := by decide +kernel
theorem dX9_may_29 : decode cX9_may 29 = .ok (.aload_n 0, 1) := by decide +kernel
theorem dX9_may_30 : decode cX9_may 30 = .ok (.getfield 91, 3) := by decide +kernel
theorem dX9_may_33 : decode cX9_may 33 = .ok (.ifCond .ne 7, 3) := by decide +kernel
theorem dX9_may_36 : decode cX9_may 36 = .ok (.iconst 1, 1) := by decide +kernel
theorem dX9_may_37 : decode cX9_may 37 = .ok (.goto 4, 3) := by decide +kernel
theorem dX9_may_40 : decode cX9_may 40 = .ok (.iconst 0, 1) := by decide +kernel
theorem dX9_may_41 : decode cX9_may 41 = .ok (.ireturn, 1) := by decide +kernel
theorem dX9_isVariable_0 : decode cX9_isVariable 0 = .ok (.iload_n 1, 1) := by decide +kernel
theorem dX9_isVariable_1 : decode cX9_isVariable 1 = .ok (.i2l, 1) := by decide +kernel
theorem dX9_isVariable_2 : decode cX9_isVariable 2 = .ok (.lconst 0, 1) := by decide +kernel
theorem dX9_isVariable_3 : decode cX9_isVariable 3 = .ok (.ldc2_w 94, 3) := by decide +kernel
theorem dX9_isVariable_6 : decode cX9_isVariable 6 = .ok (.invokestatic 96, 3) := by decide +kernel
theorem dX9_isVariable_9 : decode cX9_isVariable 9 = .ok (.ireturn, 1) := by decide +kernel
theorem dX9_constraintsAlone_0 : decode cX9_constraintsAlone 0 = .ok (.iconst 0, 1) := by decide +kernel
theorem dX9_constraintsAlone_1 : decode cX9_constraintsAlone 1 = .ok (.istore_n 1, 1) := by decide +kernel
theorem dX9_constraintsAlone_2 : decode cX9_constraintsAlone 2 = .ok (.iload_n 1, 1) := by decide +kernel
theorem dX9_constraintsAlone_3 : decode cX9_constraintsAlone 3 = .ok (.bipush 70, 2) := by decide +kernel
theorem dX9_constraintsAlone_5 : decode cX9_constraintsAlone 5 = .ok (.if_icmp .ge 28, 3) := by decide +kernel
theorem dX9_constraintsAlone_8 : decode cX9_constraintsAlone 8 = .ok (.aload_n 0, 1) := by decide +kernel
theorem dX9_constraintsAlone_9 : decode cX9_constraintsAlone 9 = .ok (.getfield 19, 3) := by decide +kernel
theorem dX9_constraintsAlone_12 : decode cX9_constraintsAlone 12 = .ok (.iload_n 1, 1) := by decide +kernel
theorem dX9_constraintsAlone_13 : decode cX9_constraintsAlone 13 = .ok (.iload_n 1, 1) := by decide +kernel
theorem dX9_constraintsAlone_14 : decode cX9_constraintsAlone 14 = .ok (.aload_n 0, 1) := by decide +kernel
theorem dX9_constraintsAlone_15 : decode cX9_constraintsAlone 15 = .ok (.getfield 100, 3) := by decide +kernel
theorem dX9_constraintsAlone_18 : decode cX9_constraintsAlone 18 = .ok (.if_icmp .ge 7, 3) := by decide +kernel
theorem dX9_constraintsAlone_21 : decode cX9_constraintsAlone 21 = .ok (.iconst 1, 1) := by decide +kernel
theorem dX9_constraintsAlone_22 : decode cX9_constraintsAlone 22 = .ok (.goto 4, 3) := by decide +kernel
theorem dX9_constraintsAlone_25 : decode cX9_constraintsAlone 25 = .ok (.iconst 0, 1) := by decide +kernel
theorem dX9_constraintsAlone_26 : decode cX9_constraintsAlone 26 = .ok (.bastore, 1) := by decide +kernel
theorem dX9_constraintsAlone_27 : decode cX9_constraintsAlone 27 = .ok (.iinc 1 1, 3) := by decide +kernel
theorem dX9_constraintsAlone_30 : decode cX9_constraintsAlone 30 = .ok (.goto (-28), 3) := by decide +kernel
theorem dX9_constraintsAlone_33 : decode cX9_constraintsAlone 33 = .ok (.return_, 1) := by decide +kernel
theorem dX9_findLeast_0 : decode cX9_findLeast 0 = .ok (.iconst 0, 1) := by decide +kernel
theorem dX9_findLeast_1 : decode cX9_findLeast 1 = .ok (.istore_n 2, 1) := by decide +kernel
theorem dX9_findLeast_2 : decode cX9_findLeast 2 = .ok (.iload_n 2, 1) := by decide +kernel
theorem dX9_findLeast_3 : decode cX9_findLeast 3 = .ok (.sipush 272, 3) := by decide +kernel
theorem dX9_findLeast_6 : decode cX9_findLeast 6 = .ok (.if_icmp .ge 27, 3) := by decide +kernel
theorem dX9_findLeast_9 : decode cX9_findLeast 9 = .ok (.aload_n 0, 1) := by decide +kernel
theorem dX9_findLeast_10 : decode cX9_findLeast 10 = .ok (.getfield 29, 3) := by decide +kernel
theorem dX9_findLeast_13 : decode cX9_findLeast 13 = .ok (.iload_n 2, 1) := by decide +kernel
theorem dX9_findLeast_14 : decode cX9_findLeast 14 = .ok (.iload_n 2, 1) := by decide +kernel
theorem dX9_findLeast_15 : decode cX9_findLeast 15 = .ok (.iload_n 1, 1) := by decide +kernel
theorem dX9_findLeast_16 : decode cX9_findLeast 16 = .ok (.if_icmp .ne 7, 3) := by decide +kernel
theorem dX9_findLeast_19 : decode cX9_findLeast 19 = .ok (.lconst 0, 1) := by decide +kernel
theorem dX9_findLeast_20 : decode cX9_findLeast 20 = .ok (.goto 6, 3) := by decide +kernel
theorem dX9_findLeast_23 : decode cX9_findLeast 23 = .ok (.ldc2_w 103, 3) := by decide +kernel
theorem dX9_findLeast_26 : decode cX9_findLeast 26 = .ok (.lastore, 1) := by decide +kernel
theorem dX9_findLeast_27 : decode cX9_findLeast 27 = .ok (.iinc 2 1, 3) := by decide +kernel
theorem dX9_findLeast_30 : decode cX9_findLeast 30 = .ok (.goto (-28), 3) := by decide +kernel
theorem dX9_findLeast_33 : decode cX9_findLeast 33 = .ok (.iconst 1, 1) := by decide +kernel
theorem dX9_findLeast_34 : decode cX9_findLeast 34 = .ok (.istore_n 2, 1) := by decide +kernel
theorem dX9_findLeast_35 : decode cX9_findLeast 35 = .ok (.iload_n 2, 1) := by decide +kernel
theorem dX9_findLeast_36 : decode cX9_findLeast 36 = .ok (.bipush 16, 2) := by decide +kernel
theorem dX9_findLeast_38 : decode cX9_findLeast 38 = .ok (.if_icmp .gt 130, 3) := by decide +kernel
theorem dX9_findLeast_41 : decode cX9_findLeast 41 = .ok (.iconst 0, 1) := by decide +kernel
theorem dX9_findLeast_42 : decode cX9_findLeast 42 = .ok (.istore_n 3, 1) := by decide +kernel
theorem dX9_findLeast_43 : decode cX9_findLeast 43 = .ok (.iload_n 3, 1) := by decide +kernel
theorem dX9_findLeast_44 : decode cX9_findLeast 44 = .ok (.bipush 70, 2) := by decide +kernel
theorem dX9_findLeast_46 : decode cX9_findLeast 46 = .ok (.if_icmp .ge 116, 3) := by decide +kernel
theorem dX9_findLeast_49 : decode cX9_findLeast 49 = .ok (.aload_n 0, 1) := by decide +kernel
theorem dX9_findLeast_50 : decode cX9_findLeast 50 = .ok (.getfield 19, 3) := by decide +kernel
theorem dX9_findLeast_53 : decode cX9_findLeast 53 = .ok (.iload_n 3, 1) := by decide +kernel
theorem dX9_findLeast_54 : decode cX9_findLeast 54 = .ok (.baload, 1) := by decide +kernel
theorem dX9_findLeast_55 : decode cX9_findLeast 55 = .ok (.ifCond .eq 101, 3) := by decide +kernel
theorem dX9_findLeast_58 : decode cX9_findLeast 58 = .ok (.aload_n 0, 1) := by decide +kernel
theorem dX9_findLeast_59 : decode cX9_findLeast 59 = .ok (.getfield 29, 3) := by decide +kernel
theorem dX9_findLeast_62 : decode cX9_findLeast 62 = .ok (.bipush 16, 2) := by decide +kernel
theorem dX9_findLeast_64 : decode cX9_findLeast 64 = .ok (.iload_n 2, 1) := by decide +kernel
theorem dX9_findLeast_65 : decode cX9_findLeast 65 = .ok (.iconst 1, 1) := by decide +kernel
theorem dX9_findLeast_66 : decode cX9_findLeast 66 = .ok (.isub, 1) := by decide +kernel
theorem dX9_findLeast_67 : decode cX9_findLeast 67 = .ok (.imul, 1) := by decide +kernel
theorem dX9_findLeast_68 : decode cX9_findLeast 68 = .ok (.aload_n 0, 1) := by decide +kernel
theorem dX9_findLeast_69 : decode cX9_findLeast 69 = .ok (.getfield 13, 3) := by decide +kernel
theorem dX9_findLeast_72 : decode cX9_findLeast 72 = .ok (.iload_n 3, 1) := by decide +kernel
theorem dX9_findLeast_73 : decode cX9_findLeast 73 = .ok (.iaload, 1) := by decide +kernel
theorem dX9_findLeast_74 : decode cX9_findLeast 74 = .ok (.iadd, 1) := by decide +kernel
theorem dX9_findLeast_75 : decode cX9_findLeast 75 = .ok (.laload, 1) := by decide +kernel
theorem dX9_findLeast_76 : decode cX9_findLeast 76 = .ok (.ldc2_w 103, 3) := by decide +kernel
theorem dX9_findLeast_79 : decode cX9_findLeast 79 = .ok (.lcmp, 1) := by decide +kernel
theorem dX9_findLeast_80 : decode cX9_findLeast 80 = .ok (.ifCond .ge 76, 3) := by decide +kernel
theorem dX9_findLeast_83 : decode cX9_findLeast 83 = .ok (.aload_n 0, 1) := by decide +kernel
theorem dX9_findLeast_84 : decode cX9_findLeast 84 = .ok (.getfield 29, 3) := by decide +kernel
theorem dX9_findLeast_87 : decode cX9_findLeast 87 = .ok (.bipush 16, 2) := by decide +kernel
theorem dX9_findLeast_89 : decode cX9_findLeast 89 = .ok (.iload_n 2, 1) := by decide +kernel
theorem dX9_findLeast_90 : decode cX9_findLeast 90 = .ok (.iconst 1, 1) := by decide +kernel
theorem dX9_findLeast_91 : decode cX9_findLeast 91 = .ok (.isub, 1) := by decide +kernel
theorem dX9_findLeast_92 : decode cX9_findLeast 92 = .ok (.imul, 1) := by decide +kernel
theorem dX9_findLeast_93 : decode cX9_findLeast 93 = .ok (.aload_n 0, 1) := by decide +kernel
theorem dX9_findLeast_94 : decode cX9_findLeast 94 = .ok (.getfield 13, 3) := by decide +kernel
theorem dX9_findLeast_97 : decode cX9_findLeast 97 = .ok (.iload_n 3, 1) := by decide +kernel
theorem dX9_findLeast_98 : decode cX9_findLeast 98 = .ok (.iaload, 1) := by decide +kernel
theorem dX9_findLeast_99 : decode cX9_findLeast 99 = .ok (.iadd, 1) := by decide +kernel
theorem dX9_findLeast_100 : decode cX9_findLeast 100 = .ok (.laload, 1) := by decide +kernel
theorem dX9_findLeast_101 : decode cX9_findLeast 101 = .ok (.aload_n 0, 1) := by decide +kernel
theorem dX9_findLeast_102 : decode cX9_findLeast 102 = .ok (.getfield 16, 3) := by decide +kernel
theorem dX9_findLeast_105 : decode cX9_findLeast 105 = .ok (.iload_n 3, 1) := by decide +kernel
theorem dX9_findLeast_106 : decode cX9_findLeast 106 = .ok (.iaload, 1) := by decide +kernel
theorem dX9_findLeast_107 : decode cX9_findLeast 107 = .ok (.i2l, 1) := by decide +kernel
theorem dX9_findLeast_108 : decode cX9_findLeast 108 = .ok (.ladd, 1) := by decide +kernel
theorem dX9_findLeast_109 : decode cX9_findLeast 109 = .ok (.lstore 4, 2) := by decide +kernel
theorem dX9_findLeast_111 : decode cX9_findLeast 111 = .ok (.bipush 16, 2) := by decide +kernel
theorem dX9_findLeast_113 : decode cX9_findLeast 113 = .ok (.iload_n 2, 1) := by decide +kernel
theorem dX9_findLeast_114 : decode cX9_findLeast 114 = .ok (.imul, 1) := by decide +kernel
theorem dX9_findLeast_115 : decode cX9_findLeast 115 = .ok (.aload_n 0, 1) := by decide +kernel
theorem dX9_findLeast_116 : decode cX9_findLeast 116 = .ok (.getfield 7, 3) := by decide +kernel
theorem dX9_findLeast_119 : decode cX9_findLeast 119 = .ok (.iload_n 3, 1) := by decide +kernel
theorem dX9_findLeast_120 : decode cX9_findLeast 120 = .ok (.iaload, 1) := by decide +kernel
theorem dX9_findLeast_121 : decode cX9_findLeast 121 = .ok (.iadd, 1) := by decide +kernel
theorem dX9_findLeast_122 : decode cX9_findLeast 122 = .ok (.istore 6, 2) := by decide +kernel
theorem dX9_findLeast_124 : decode cX9_findLeast 124 = .ok (.aload_n 0, 1) := by decide +kernel
theorem dX9_findLeast_125 : decode cX9_findLeast 125 = .ok (.getfield 29, 3) := by decide +kernel
theorem dX9_findLeast_128 : decode cX9_findLeast 128 = .ok (.iload 6, 2) := by decide +kernel
theorem dX9_findLeast_130 : decode cX9_findLeast 130 = .ok (.lload 4, 2) := by decide +kernel
theorem dX9_findLeast_132 : decode cX9_findLeast 132 = .ok (.aload_n 0, 1) := by decide +kernel
theorem dX9_findLeast_133 : decode cX9_findLeast 133 = .ok (.getfield 29, 3) := by decide +kernel
theorem dX9_findLeast_136 : decode cX9_findLeast 136 = .ok (.iload 6, 2) := by decide +kernel
theorem dX9_findLeast_138 : decode cX9_findLeast 138 = .ok (.laload, 1) := by decide +kernel
theorem dX9_findLeast_139 : decode cX9_findLeast 139 = .ok (.lcmp, 1) := by decide +kernel
theorem dX9_findLeast_140 : decode cX9_findLeast 140 = .ok (.ifCond .ge 8, 3) := by decide +kernel
theorem dX9_findLeast_143 : decode cX9_findLeast 143 = .ok (.lload 4, 2) := by decide +kernel
theorem dX9_findLeast_145 : decode cX9_findLeast 145 = .ok (.goto 10, 3) := by decide +kernel
theorem dX9_findLeast_148 : decode cX9_findLeast 148 = .ok (.aload_n 0, 1) := by decide +kernel
theorem dX9_findLeast_149 : decode cX9_findLeast 149 = .ok (.getfield 29, 3) := by decide +kernel
theorem dX9_findLeast_152 : decode cX9_findLeast 152 = .ok (.iload 6, 2) := by decide +kernel
theorem dX9_findLeast_154 : decode cX9_findLeast 154 = .ok (.laload, 1) := by decide +kernel
theorem dX9_findLeast_155 : decode cX9_findLeast 155 = .ok (.lastore, 1) := by decide +kernel
theorem dX9_findLeast_156 : decode cX9_findLeast 156 = .ok (.iinc 3 1, 3) := by decide +kernel
theorem dX9_findLeast_159 : decode cX9_findLeast 159 = .ok (.goto (-116), 3) := by decide +kernel
theorem dX9_findLeast_162 : decode cX9_findLeast 162 = .ok (.iinc 2 1, 3) := by decide +kernel
theorem dX9_findLeast_165 : decode cX9_findLeast 165 = .ok (.goto (-130), 3) := by decide +kernel
theorem dX9_findLeast_168 : decode cX9_findLeast 168 = .ok (.return_, 1) := by decide +kernel
theorem dX9_findRow_0 : decode cX9_findRow 0 = .ok (.aload_n 0, 1) := by decide +kernel
theorem dX9_findRow_1 : decode cX9_findRow 1 = .ok (.iload_n 2, 1) := by decide +kernel
theorem dX9_findRow_2 : decode cX9_findRow 2 = .ok (.invokevirtual 105, 3) := by decide +kernel
theorem dX9_findRow_5 : decode cX9_findRow 5 = .ok (.iconst 0, 1) := by decide +kernel
theorem dX9_findRow_6 : decode cX9_findRow 6 = .ok (.istore 5, 2) := by decide +kernel
theorem dX9_findRow_8 : decode cX9_findRow 8 = .ok (.iload 5, 2) := by decide +kernel
theorem dX9_findRow_10 : decode cX9_findRow 10 = .ok (.bipush 16, 2) := by decide +kernel
theorem dX9_findRow_12 : decode cX9_findRow 12 = .ok (.if_icmp .gt 26, 3) := by decide +kernel
theorem dX9_findRow_15 : decode cX9_findRow 15 = .ok (.aload_n 0, 1) := by decide +kernel
theorem dX9_findRow_16 : decode cX9_findRow 16 = .ok (.getfield 29, 3) := by decide +kernel
theorem dX9_findRow_19 : decode cX9_findRow 19 = .ok (.bipush 16, 2) := by decide +kernel
theorem dX9_findRow_21 : decode cX9_findRow 21 = .ok (.iload 5, 2) := by decide +kernel
theorem dX9_findRow_23 : decode cX9_findRow 23 = .ok (.imul, 1) := by decide +kernel
theorem dX9_findRow_24 : decode cX9_findRow 24 = .ok (.iload_n 1, 1) := by decide +kernel
theorem dX9_findRow_25 : decode cX9_findRow 25 = .ok (.iadd, 1) := by decide +kernel
theorem dX9_findRow_26 : decode cX9_findRow 26 = .ok (.laload, 1) := by decide +kernel
theorem dX9_findRow_27 : decode cX9_findRow 27 = .ok (.lload_n 3, 1) := by decide +kernel
theorem dX9_findRow_28 : decode cX9_findRow 28 = .ok (.lcmp, 1) := by decide +kernel
theorem dX9_findRow_29 : decode cX9_findRow 29 = .ok (.ifCond .le 9, 3) := by decide +kernel
theorem dX9_findRow_32 : decode cX9_findRow 32 = .ok (.iinc 5 1, 3) := by decide +kernel
theorem dX9_findRow_35 : decode cX9_findRow 35 = .ok (.goto (-27), 3) := by decide +kernel
theorem dX9_findRow_38 : decode cX9_findRow 38 = .ok (.iload 5, 2) := by decide +kernel
theorem dX9_findRow_40 : decode cX9_findRow 40 = .ok (.bipush 16, 2) := by decide +kernel
theorem dX9_findRow_42 : decode cX9_findRow 42 = .ok (.if_icmp .le 5, 3) := by decide +kernel
theorem dX9_findRow_45 : decode cX9_findRow 45 = .ok (.iconst 0, 1) := by decide +kernel
theorem dX9_findRow_46 : decode cX9_findRow 46 = .ok (.ireturn, 1) := by decide +kernel
theorem dX9_findRow_47 : decode cX9_findRow 47 = .ok (.aload_n 0, 1) := by decide +kernel
theorem dX9_findRow_48 : decode cX9_findRow 48 = .ok (.iload 5, 2) := by decide +kernel
theorem dX9_findRow_50 : decode cX9_findRow 50 = .ok (.putfield 109, 3) := by decide +kernel
theorem dX9_findRow_53 : decode cX9_findRow 53 = .ok (.iload_n 1, 1) := by decide +kernel
theorem dX9_findRow_54 : decode cX9_findRow 54 = .ok (.istore 6, 2) := by decide +kernel
theorem dX9_findRow_56 : decode cX9_findRow 56 = .ok (.lconst 0, 1) := by decide +kernel
theorem dX9_findRow_57 : decode cX9_findRow 57 = .ok (.lstore 7, 2) := by decide +kernel
theorem dX9_findRow_59 : decode cX9_findRow 59 = .ok (.iconst 0, 1) := by decide +kernel
theorem dX9_findRow_60 : decode cX9_findRow 60 = .ok (.istore 9, 2) := by decide +kernel
theorem dX9_findRow_62 : decode cX9_findRow 62 = .ok (.iload 9, 2) := by decide +kernel
theorem dX9_findRow_64 : decode cX9_findRow 64 = .ok (.aload_n 0, 1) := by decide +kernel
theorem dX9_findRow_65 : decode cX9_findRow 65 = .ok (.getfield 109, 3) := by decide +kernel
theorem dX9_findRow_68 : decode cX9_findRow 68 = .ok (.if_icmp .ge 145, 3) := by decide +kernel
theorem dX9_findRow_71 : decode cX9_findRow 71 = .ok (.iconst 0, 1) := by decide +kernel
theorem dX9_findRow_72 : decode cX9_findRow 72 = .ok (.istore 10, 2) := by decide +kernel
theorem dX9_findRow_74 : decode cX9_findRow 74 = .ok (.aload_n 0, 1) := by decide +kernel
theorem dX9_findRow_75 : decode cX9_findRow 75 = .ok (.getfield 19, 3) := by decide +kernel
theorem dX9_findRow_78 : decode cX9_findRow 78 = .ok (.iload 10, 2) := by decide +kernel
theorem dX9_findRow_80 : decode cX9_findRow 80 = .ok (.baload, 1) := by decide +kernel
theorem dX9_findRow_81 : decode cX9_findRow 81 = .ok (.ifCond .eq 89, 3) := by decide +kernel
theorem dX9_findRow_84 : decode cX9_findRow 84 = .ok (.aload_n 0, 1) := by decide +kernel
theorem dX9_findRow_85 : decode cX9_findRow 85 = .ok (.getfield 7, 3) := by decide +kernel
theorem dX9_findRow_88 : decode cX9_findRow 88 = .ok (.iload 10, 2) := by decide +kernel
theorem dX9_findRow_90 : decode cX9_findRow 90 = .ok (.iaload, 1) := by decide +kernel
theorem dX9_findRow_91 : decode cX9_findRow 91 = .ok (.iload 6, 2) := by decide +kernel
theorem dX9_findRow_93 : decode cX9_findRow 93 = .ok (.if_icmp .ne 77, 3) := by decide +kernel
theorem dX9_findRow_96 : decode cX9_findRow 96 = .ok (.aload_n 0, 1) := by decide +kernel
theorem dX9_findRow_97 : decode cX9_findRow 97 = .ok (.getfield 29, 3) := by decide +kernel
theorem dX9_findRow_100 : decode cX9_findRow 100 = .ok (.bipush 16, 2) := by decide +kernel
theorem dX9_findRow_102 : decode cX9_findRow 102 = .ok (.aload_n 0, 1) := by decide +kernel
theorem dX9_findRow_103 : decode cX9_findRow 103 = .ok (.getfield 109, 3) := by decide +kernel
theorem dX9_findRow_106 : decode cX9_findRow 106 = .ok (.iload 9, 2) := by decide +kernel
theorem dX9_findRow_108 : decode cX9_findRow 108 = .ok (.isub, 1) := by decide +kernel
theorem dX9_findRow_109 : decode cX9_findRow 109 = .ok (.iconst 1, 1) := by decide +kernel
theorem dX9_findRow_110 : decode cX9_findRow 110 = .ok (.isub, 1) := by decide +kernel
theorem dX9_findRow_111 : decode cX9_findRow 111 = .ok (.imul, 1) := by decide +kernel
theorem dX9_findRow_112 : decode cX9_findRow 112 = .ok (.aload_n 0, 1) := by decide +kernel
theorem dX9_findRow_113 : decode cX9_findRow 113 = .ok (.getfield 13, 3) := by decide +kernel
theorem dX9_findRow_116 : decode cX9_findRow 116 = .ok (.iload 10, 2) := by decide +kernel
theorem dX9_findRow_118 : decode cX9_findRow 118 = .ok (.iaload, 1) := by decide +kernel
theorem dX9_findRow_119 : decode cX9_findRow 119 = .ok (.iadd, 1) := by decide +kernel
theorem dX9_findRow_120 : decode cX9_findRow 120 = .ok (.laload, 1) := by decide +kernel
theorem dX9_findRow_121 : decode cX9_findRow 121 = .ok (.ldc2_w 103, 3) := by decide +kernel
theorem dX9_findRow_124 : decode cX9_findRow 124 = .ok (.lcmp, 1) := by decide +kernel
theorem dX9_findRow_125 : decode cX9_findRow 125 = .ok (.ifCond .ge 45, 3) := by decide +kernel
theorem dX9_findRow_128 : decode cX9_findRow 128 = .ok (.lload 7, 2) := by decide +kernel
theorem dX9_findRow_130 : decode cX9_findRow 130 = .ok (.aload_n 0, 1) := by decide +kernel
theorem dX9_findRow_131 : decode cX9_findRow 131 = .ok (.getfield 16, 3) := by decide +kernel
theorem dX9_findRow_134 : decode cX9_findRow 134 = .ok (.iload 10, 2) := by decide +kernel
theorem dX9_findRow_136 : decode cX9_findRow 136 = .ok (.iaload, 1) := by decide +kernel
theorem dX9_findRow_137 : decode cX9_findRow 137 = .ok (.i2l, 1) := by decide +kernel
theorem dX9_findRow_138 : decode cX9_findRow 138 = .ok (.ladd, 1) := by decide +kernel
theorem dX9_findRow_139 : decode cX9_findRow 139 = .ok (.aload_n 0, 1) := by decide +kernel
theorem dX9_findRow_140 : decode cX9_findRow 140 = .ok (.getfield 29, 3) := by decide +kernel
theorem dX9_findRow_143 : decode cX9_findRow 143 = .ok (.bipush 16, 2) := by decide +kernel
theorem dX9_findRow_145 : decode cX9_findRow 145 = .ok (.aload_n 0, 1) := by decide +kernel
theorem dX9_findRow_146 : decode cX9_findRow 146 = .ok (.getfield 109, 3) := by decide +kernel
theorem dX9_findRow_149 : decode cX9_findRow 149 = .ok (.iload 9, 2) := by decide +kernel
theorem dX9_findRow_151 : decode cX9_findRow 151 = .ok (.isub, 1) := by decide +kernel
theorem dX9_findRow_152 : decode cX9_findRow 152 = .ok (.iconst 1, 1) := by decide +kernel
theorem dX9_findRow_153 : decode cX9_findRow 153 = .ok (.isub, 1) := by decide +kernel
theorem dX9_findRow_154 : decode cX9_findRow 154 = .ok (.imul, 1) := by decide +kernel
theorem dX9_findRow_155 : decode cX9_findRow 155 = .ok (.aload_n 0, 1) := by decide +kernel
theorem dX9_findRow_156 : decode cX9_findRow 156 = .ok (.getfield 13, 3) := by decide +kernel
theorem dX9_findRow_159 : decode cX9_findRow 159 = .ok (.iload 10, 2) := by decide +kernel
theorem dX9_findRow_161 : decode cX9_findRow 161 = .ok (.iaload, 1) := by decide +kernel
theorem dX9_findRow_162 : decode cX9_findRow 162 = .ok (.iadd, 1) := by decide +kernel
theorem dX9_findRow_163 : decode cX9_findRow 163 = .ok (.laload, 1) := by decide +kernel
theorem dX9_findRow_164 : decode cX9_findRow 164 = .ok (.ladd, 1) := by decide +kernel
theorem dX9_findRow_165 : decode cX9_findRow 165 = .ok (.lload_n 3, 1) := by decide +kernel
theorem dX9_findRow_166 : decode cX9_findRow 166 = .ok (.lcmp, 1) := by decide +kernel
theorem dX9_findRow_167 : decode cX9_findRow 167 = .ok (.ifCond .le 9, 3) := by decide +kernel
theorem dX9_findRow_170 : decode cX9_findRow 170 = .ok (.iinc 10 1, 3) := by decide +kernel
theorem dX9_findRow_173 : decode cX9_findRow 173 = .ok (.goto (-99), 3) := by decide +kernel
theorem dX9_findRow_176 : decode cX9_findRow 176 = .ok (.aload_n 0, 1) := by decide +kernel
theorem dX9_findRow_177 : decode cX9_findRow 177 = .ok (.getfield 33, 3) := by decide +kernel
theorem dX9_findRow_180 : decode cX9_findRow 180 = .ok (.iload 9, 2) := by decide +kernel
theorem dX9_findRow_182 : decode cX9_findRow 182 = .ok (.iload 10, 2) := by decide +kernel
theorem dX9_findRow_184 : decode cX9_findRow 184 = .ok (.iastore, 1) := by decide +kernel
theorem dX9_findRow_185 : decode cX9_findRow 185 = .ok (.lload 7, 2) := by decide +kernel
theorem dX9_findRow_187 : decode cX9_findRow 187 = .ok (.aload_n 0, 1) := by decide +kernel
theorem dX9_findRow_188 : decode cX9_findRow 188 = .ok (.getfield 16, 3) := by decide +kernel
theorem dX9_findRow_191 : decode cX9_findRow 191 = .ok (.iload 10, 2) := by decide +kernel
theorem dX9_findRow_193 : decode cX9_findRow 193 = .ok (.iaload, 1) := by decide +kernel
theorem dX9_findRow_194 : decode cX9_findRow 194 = .ok (.i2l, 1) := by decide +kernel
theorem dX9_findRow_195 : decode cX9_findRow 195 = .ok (.ladd, 1) := by decide +kernel
theorem dX9_findRow_196 : decode cX9_findRow 196 = .ok (.lstore 7, 2) := by decide +kernel
theorem dX9_findRow_198 : decode cX9_findRow 198 = .ok (.aload_n 0, 1) := by decide +kernel
theorem dX9_findRow_199 : decode cX9_findRow 199 = .ok (.getfield 13, 3) := by decide +kernel
theorem dX9_findRow_202 : decode cX9_findRow 202 = .ok (.iload 10, 2) := by decide +kernel
theorem dX9_findRow_204 : decode cX9_findRow 204 = .ok (.iaload, 1) := by decide +kernel
theorem dX9_findRow_205 : decode cX9_findRow 205 = .ok (.istore 6, 2) := by decide +kernel
theorem dX9_findRow_207 : decode cX9_findRow 207 = .ok (.iinc 9 1, 3) := by decide +kernel
theorem dX9_findRow_210 : decode cX9_findRow 210 = .ok (.goto (-148), 3) := by decide +kernel
theorem dX9_findRow_213 : decode cX9_findRow 213 = .ok (.iconst 1, 1) := by decide +kernel
theorem dX9_findRow_214 : decode cX9_findRow 214 = .ok (.ireturn, 1) := by decide +kernel
theorem dX9_add_0 : decode cX9_add 0 = .ok (.aload_n 0, 1) := by decide +kernel
theorem dX9_add_1 : decode cX9_add 1 = .ok (.aload_n 0, 1) := by decide +kernel
theorem dX9_add_2 : decode cX9_add 2 = .ok (.iload_n 1, 1) := by decide +kernel
theorem dX9_add_3 : decode cX9_add 3 = .ok (.invokevirtual 112, 3) := by decide +kernel
theorem dX9_add_6 : decode cX9_add 6 = .ok (.ifCond .eq 15, 3) := by decide +kernel
theorem dX9_add_9 : decode cX9_add 9 = .ok (.aload_n 0, 1) := by decide +kernel
theorem dX9_add_10 : decode cX9_add 10 = .ok (.iload_n 2, 1) := by decide +kernel
theorem dX9_add_11 : decode cX9_add 11 = .ok (.invokevirtual 112, 3) := by decide +kernel
theorem dX9_add_14 : decode cX9_add 14 = .ok (.ifCond .eq 7, 3) := by decide +kernel
theorem dX9_add_17 : decode cX9_add 17 = .ok (.iconst 1, 1) := by decide +kernel
theorem dX9_add_18 : decode cX9_add 18 = .ok (.goto 4, 3) := by decide +kernel
theorem dX9_add_21 : decode cX9_add 21 = .ok (.iconst 0, 1) := by decide +kernel
theorem dX9_add_22 : decode cX9_add 22 = .ok (.iload_n 3, 1) := by decide +kernel
theorem dX9_add_23 : decode cX9_add 23 = .ok (.i2l, 1) := by decide +kernel
theorem dX9_add_24 : decode cX9_add 24 = .ok (.ldc2_w 116, 3) := by decide +kernel
theorem dX9_add_27 : decode cX9_add 27 = .ok (.ldc2_w 118, 3) := by decide +kernel
theorem dX9_add_30 : decode cX9_add 30 = .ok (.invokestatic 96, 3) := by decide +kernel
theorem dX9_add_33 : decode cX9_add 33 = .ok (.aload_n 0, 1) := by decide +kernel
theorem dX9_add_34 : decode cX9_add 34 = .ok (.getfield 100, 3) := by decide +kernel
theorem dX9_add_37 : decode cX9_add 37 = .ok (.bipush 60, 2) := by decide +kernel
theorem dX9_add_39 : decode cX9_add 39 = .ok (.if_icmp .ge 7, 3) := by decide +kernel
theorem dX9_add_42 : decode cX9_add 42 = .ok (.iconst 1, 1) := by decide +kernel
theorem dX9_add_43 : decode cX9_add 43 = .ok (.goto 4, 3) := by decide +kernel
theorem dX9_add_46 : decode cX9_add 46 = .ok (.iconst 0, 1) := by decide +kernel
theorem dX9_add_47 : decode cX9_add 47 = .ok (.invokevirtual 120, 3) := by decide +kernel
theorem dX9_add_50 : decode cX9_add 50 = .ok (.ifCond .ne 5, 3) := by decide +kernel
theorem dX9_add_53 : decode cX9_add 53 = .ok (.iconst 0, 1) := by decide +kernel
theorem dX9_add_54 : decode cX9_add 54 = .ok (.ireturn, 1) := by decide +kernel
theorem dX9_add_55 : decode cX9_add 55 = .ok (.aload_n 0, 1) := by decide +kernel
theorem dX9_add_56 : decode cX9_add 56 = .ok (.invokevirtual 124, 3) := by decide +kernel
theorem dX9_add_59 : decode cX9_add 59 = .ok (.aload_n 0, 1) := by decide +kernel
theorem dX9_add_60 : decode cX9_add 60 = .ok (.iload_n 2, 1) := by decide +kernel
theorem dX9_add_61 : decode cX9_add 61 = .ok (.iload_n 1, 1) := by decide +kernel
theorem dX9_add_62 : decode cX9_add 62 = .ok (.ldc2_w 127, 3) := by decide +kernel
theorem dX9_add_65 : decode cX9_add 65 = .ok (.iload_n 3, 1) := by decide +kernel
theorem dX9_add_66 : decode cX9_add 66 = .ok (.i2l, 1) := by decide +kernel
theorem dX9_add_67 : decode cX9_add 67 = .ok (.lsub, 1) := by decide +kernel
theorem dX9_add_68 : decode cX9_add 68 = .ok (.invokevirtual 129, 3) := by decide +kernel
theorem dX9_add_71 : decode cX9_add 71 = .ok (.ifCond .eq 56, 3) := by decide +kernel
theorem dX9_add_74 : decode cX9_add 74 = .ok (.aload_n 0, 1) := by decide +kernel
theorem dX9_add_75 : decode cX9_add 75 = .ok (.iconst 1, 1) := by decide +kernel
theorem dX9_add_76 : decode cX9_add 76 = .ok (.aload_n 0, 1) := by decide +kernel
theorem dX9_add_77 : decode cX9_add 77 = .ok (.getfield 109, 3) := by decide +kernel
theorem dX9_add_80 : decode cX9_add 80 = .ok (.iadd, 1) := by decide +kernel
theorem dX9_add_81 : decode cX9_add 81 = .ok (.putfield 87, 3) := by decide +kernel
theorem dX9_add_84 : decode cX9_add 84 = .ok (.aload_n 0, 1) := by decide +kernel
theorem dX9_add_85 : decode cX9_add 85 = .ok (.getfield 26, 3) := by decide +kernel
theorem dX9_add_88 : decode cX9_add 88 = .ok (.iconst 0, 1) := by decide +kernel
theorem dX9_add_89 : decode cX9_add 89 = .ok (.iconst (-1), 1) := by decide +kernel
theorem dX9_add_90 : decode cX9_add 90 = .ok (.iastore, 1) := by decide +kernel
theorem dX9_add_91 : decode cX9_add 91 = .ok (.iconst 0, 1) := by decide +kernel
theorem dX9_add_92 : decode cX9_add 92 = .ok (.istore 4, 2) := by decide +kernel
theorem dX9_add_94 : decode cX9_add 94 = .ok (.iload 4, 2) := by decide +kernel
theorem dX9_add_96 : decode cX9_add 96 = .ok (.aload_n 0, 1) := by decide +kernel
theorem dX9_add_97 : decode cX9_add 97 = .ok (.getfield 109, 3) := by decide +kernel
theorem dX9_add_100 : decode cX9_add 100 = .ok (.if_icmp .ge 25, 3) := by decide +kernel
theorem dX9_add_103 : decode cX9_add 103 = .ok (.aload_n 0, 1) := by decide +kernel
theorem dX9_add_104 : decode cX9_add 104 = .ok (.getfield 26, 3) := by decide +kernel
theorem dX9_add_107 : decode cX9_add 107 = .ok (.iconst 1, 1) := by decide +kernel
theorem dX9_add_108 : decode cX9_add 108 = .ok (.iload 4, 2) := by decide +kernel
theorem dX9_add_110 : decode cX9_add 110 = .ok (.iadd, 1) := by decide +kernel
theorem dX9_add_111 : decode cX9_add 111 = .ok (.aload_n 0, 1) := by decide +kernel
theorem dX9_add_112 : decode cX9_add 112 = .ok (.getfield 33, 3) := by decide +kernel
theorem dX9_add_115 : decode cX9_add 115 = .ok (.iload 4, 2) := by decide +kernel
theorem dX9_add_117 : decode cX9_add 117 = .ok (.iaload, 1) := by decide +kernel
theorem dX9_add_118 : decode cX9_add 118 = .ok (.iastore, 1) := by decide +kernel
theorem dX9_add_119 : decode cX9_add 119 = .ok (.iinc 4 1, 3) := by decide +kernel
theorem dX9_add_122 : decode cX9_add 122 = .ok (.goto (-28), 3) := by decide +kernel
theorem dX9_add_125 : decode cX9_add 125 = .ok (.iconst (-1), 1) := by decide +kernel
theorem dX9_add_126 : decode cX9_add 126 = .ok (.ireturn, 1) := by decide +kernel
theorem dX9_add_127 : decode cX9_add 127 = .ok (.aload_n 0, 1) := by decide +kernel
theorem dX9_add_128 : decode cX9_add 128 = .ok (.getfield 7, 3) := by decide +kernel
theorem dX9_add_131 : decode cX9_add 131 = .ok (.aload_n 0, 1) := by decide +kernel
theorem dX9_add_132 : decode cX9_add 132 = .ok (.getfield 100, 3) := by decide +kernel
theorem dX9_add_135 : decode cX9_add 135 = .ok (.iload_n 1, 1) := by decide +kernel
theorem dX9_add_136 : decode cX9_add 136 = .ok (.iastore, 1) := by decide +kernel
theorem dX9_add_137 : decode cX9_add 137 = .ok (.aload_n 0, 1) := by decide +kernel
theorem dX9_add_138 : decode cX9_add 138 = .ok (.getfield 13, 3) := by decide +kernel
theorem dX9_add_141 : decode cX9_add 141 = .ok (.aload_n 0, 1) := by decide +kernel
theorem dX9_add_142 : decode cX9_add 142 = .ok (.getfield 100, 3) := by decide +kernel
theorem dX9_add_145 : decode cX9_add 145 = .ok (.iload_n 2, 1) := by decide +kernel
theorem dX9_add_146 : decode cX9_add 146 = .ok (.iastore, 1) := by decide +kernel
theorem dX9_add_147 : decode cX9_add 147 = .ok (.aload_n 0, 1) := by decide +kernel
theorem dX9_add_148 : decode cX9_add 148 = .ok (.getfield 16, 3) := by decide +kernel
theorem dX9_add_151 : decode cX9_add 151 = .ok (.aload_n 0, 1) := by decide +kernel
theorem dX9_add_152 : decode cX9_add 152 = .ok (.getfield 100, 3) := by decide +kernel
theorem dX9_add_155 : decode cX9_add 155 = .ok (.iload_n 3, 1) := by decide +kernel
theorem dX9_add_156 : decode cX9_add 156 = .ok (.iastore, 1) := by decide +kernel
theorem dX9_add_157 : decode cX9_add 157 = .ok (.aload_n 0, 1) := by decide +kernel
theorem dX9_add_158 : decode cX9_add 158 = .ok (.dup, 1) := by decide +kernel
theorem dX9_add_159 : decode cX9_add 159 = .ok (.getfield 100, 3) := by decide +kernel
theorem dX9_add_162 : decode cX9_add 162 = .ok (.iconst 1, 1) := by decide +kernel
theorem dX9_add_163 : decode cX9_add 163 = .ok (.iadd, 1) := by decide +kernel
theorem dX9_add_164 : decode cX9_add 164 = .ok (.putfield 100, 3) := by decide +kernel
theorem dX9_add_167 : decode cX9_add 167 = .ok (.aload_n 0, 1) := by decide +kernel
theorem dX9_add_168 : decode cX9_add 168 = .ok (.getfield 100, 3) := by decide +kernel
theorem dX9_add_171 : decode cX9_add 171 = .ok (.iconst 1, 1) := by decide +kernel
theorem dX9_add_172 : decode cX9_add 172 = .ok (.isub, 1) := by decide +kernel
theorem dX9_add_173 : decode cX9_add 173 = .ok (.ireturn, 1) := by decide +kernel
theorem dX9_push_0 : decode cX9_push 0 = .ok (.aload_n 0, 1) := by decide +kernel
theorem dX9_push_1 : decode cX9_push 1 = .ok (.aload_n 0, 1) := by decide +kernel
theorem dX9_push_2 : decode cX9_push 2 = .ok (.getfield 133, 3) := by decide +kernel
theorem dX9_push_5 : decode cX9_push 5 = .ok (.bipush 20, 2) := by decide +kernel
theorem dX9_push_7 : decode cX9_push 7 = .ok (.if_icmp .ge 7, 3) := by decide +kernel
theorem dX9_push_10 : decode cX9_push 10 = .ok (.iconst 1, 1) := by decide +kernel
theorem dX9_push_11 : decode cX9_push 11 = .ok (.goto 4, 3) := by decide +kernel
theorem dX9_push_14 : decode cX9_push 14 = .ok (.iconst 0, 1) := by decide +kernel
theorem dX9_push_15 : decode cX9_push 15 = .ok (.iconst 1, 1) := by decide +kernel
theorem dX9_push_16 : decode cX9_push 16 = .ok (.iconst 1, 1) := by decide +kernel
theorem dX9_push_17 : decode cX9_push 17 = .ok (.invokevirtual 120, 3) := by decide +kernel
theorem dX9_push_20 : decode cX9_push 20 = .ok (.ifCond .ne 5, 3) := by decide +kernel
theorem dX9_push_23 : decode cX9_push 23 = .ok (.iconst 0, 1) := by decide +kernel
theorem dX9_push_24 : decode cX9_push 24 = .ok (.ireturn, 1) := by decide +kernel
theorem dX9_push_25 : decode cX9_push 25 = .ok (.aload_n 0, 1) := by decide +kernel
theorem dX9_push_26 : decode cX9_push 26 = .ok (.getfield 23, 3) := by decide +kernel
theorem dX9_push_29 : decode cX9_push 29 = .ok (.aload_n 0, 1) := by decide +kernel
theorem dX9_push_30 : decode cX9_push 30 = .ok (.getfield 133, 3) := by decide +kernel
theorem dX9_push_33 : decode cX9_push 33 = .ok (.aload_n 0, 1) := by decide +kernel
theorem dX9_push_34 : decode cX9_push 34 = .ok (.getfield 100, 3) := by decide +kernel
theorem dX9_push_37 : decode cX9_push 37 = .ok (.iastore, 1) := by decide +kernel
theorem dX9_push_38 : decode cX9_push 38 = .ok (.aload_n 0, 1) := by decide +kernel
theorem dX9_push_39 : decode cX9_push 39 = .ok (.dup, 1) := by decide +kernel
theorem dX9_push_40 : decode cX9_push 40 = .ok (.getfield 133, 3) := by decide +kernel
theorem dX9_push_43 : decode cX9_push 43 = .ok (.iconst 1, 1) := by decide +kernel
theorem dX9_push_44 : decode cX9_push 44 = .ok (.iadd, 1) := by decide +kernel
theorem dX9_push_45 : decode cX9_push 45 = .ok (.putfield 133, 3) := by decide +kernel
theorem dX9_push_48 : decode cX9_push 48 = .ok (.aload_n 0, 1) := by decide +kernel
theorem dX9_push_49 : decode cX9_push 49 = .ok (.getfield 133, 3) := by decide +kernel
theorem dX9_push_52 : decode cX9_push 52 = .ok (.ireturn, 1) := by decide +kernel
theorem dX9_pop_0 : decode cX9_pop 0 = .ok (.aload_n 0, 1) := by decide +kernel
theorem dX9_pop_1 : decode cX9_pop 1 = .ok (.iload_n 1, 1) := by decide +kernel
theorem dX9_pop_2 : decode cX9_pop 2 = .ok (.i2l, 1) := by decide +kernel
theorem dX9_pop_3 : decode cX9_pop 3 = .ok (.lconst 0, 1) := by decide +kernel
theorem dX9_pop_4 : decode cX9_pop 4 = .ok (.aload_n 0, 1) := by decide +kernel
theorem dX9_pop_5 : decode cX9_pop 5 = .ok (.getfield 133, 3) := by decide +kernel
theorem dX9_pop_8 : decode cX9_pop 8 = .ok (.i2l, 1) := by decide +kernel
theorem dX9_pop_9 : decode cX9_pop 9 = .ok (.invokestatic 96, 3) := by decide +kernel
theorem dX9_pop_12 : decode cX9_pop 12 = .ok (.iconst 1, 1) := by decide +kernel
theorem dX9_pop_13 : decode cX9_pop 13 = .ok (.iconst 1, 1) := by decide +kernel
theorem dX9_pop_14 : decode cX9_pop 14 = .ok (.invokevirtual 120, 3) := by decide +kernel
theorem dX9_pop_17 : decode cX9_pop 17 = .ok (.ifCond .ne 5, 3) := by decide +kernel
theorem dX9_pop_20 : decode cX9_pop 20 = .ok (.iconst 0, 1) := by decide +kernel
theorem dX9_pop_21 : decode cX9_pop 21 = .ok (.ireturn, 1) := by decide +kernel
theorem dX9_pop_22 : decode cX9_pop 22 = .ok (.aload_n 0, 1) := by decide +kernel
theorem dX9_pop_23 : decode cX9_pop 23 = .ok (.dup, 1) := by decide +kernel
theorem dX9_pop_24 : decode cX9_pop 24 = .ok (.getfield 133, 3) := by decide +kernel
theorem dX9_pop_27 : decode cX9_pop 27 = .ok (.iload_n 1, 1) := by decide +kernel
theorem dX9_pop_28 : decode cX9_pop 28 = .ok (.isub, 1) := by decide +kernel
theorem dX9_pop_29 : decode cX9_pop 29 = .ok (.putfield 133, 3) := by decide +kernel
theorem dX9_pop_32 : decode cX9_pop 32 = .ok (.aload_n 0, 1) := by decide +kernel
theorem dX9_pop_33 : decode cX9_pop 33 = .ok (.iload_n 1, 1) := by decide +kernel
theorem dX9_pop_34 : decode cX9_pop 34 = .ok (.ifCond .le 15, 3) := by decide +kernel
theorem dX9_pop_37 : decode cX9_pop 37 = .ok (.aload_n 0, 1) := by decide +kernel
theorem dX9_pop_38 : decode cX9_pop 38 = .ok (.getfield 23, 3) := by decide +kernel
theorem dX9_pop_41 : decode cX9_pop 41 = .ok (.aload_n 0, 1) := by decide +kernel
theorem dX9_pop_42 : decode cX9_pop 42 = .ok (.getfield 133, 3) := by decide +kernel
theorem dX9_pop_45 : decode cX9_pop 45 = .ok (.iaload, 1) := by decide +kernel
theorem dX9_pop_46 : decode cX9_pop 46 = .ok (.goto 7, 3) := by decide +kernel
theorem dX9_pop_49 : decode cX9_pop 49 = .ok (.aload_n 0, 1) := by decide +kernel
theorem dX9_pop_50 : decode cX9_pop 50 = .ok (.getfield 100, 3) := by decide +kernel
theorem dX9_pop_53 : decode cX9_pop 53 = .ok (.putfield 100, 3) := by decide +kernel
theorem dX9_pop_56 : decode cX9_pop 56 = .ok (.aload_n 0, 1) := by decide +kernel
theorem dX9_pop_57 : decode cX9_pop 57 = .ok (.getfield 100, 3) := by decide +kernel
theorem dX9_pop_60 : decode cX9_pop 60 = .ok (.ireturn, 1) := by decide +kernel
theorem dX9_core_0 : decode cX9_core 0 = .ok (.aload_n 0, 1) := by decide +kernel
theorem dX9_core_1 : decode cX9_core 1 = .ok (.iload_n 1, 1) := by decide +kernel
theorem dX9_core_2 : decode cX9_core 2 = .ok (.i2l, 1) := by decide +kernel
theorem dX9_core_3 : decode cX9_core 3 = .ok (.lconst 0, 1) := by decide +kernel
theorem dX9_core_4 : decode cX9_core 4 = .ok (.aload_n 0, 1) := by decide +kernel
theorem dX9_core_5 : decode cX9_core 5 = .ok (.getfield 87, 3) := by decide +kernel
theorem dX9_core_8 : decode cX9_core 8 = .ok (.iconst 1, 1) := by decide +kernel
theorem dX9_core_9 : decode cX9_core 9 = .ok (.isub, 1) := by decide +kernel
theorem dX9_core_10 : decode cX9_core 10 = .ok (.i2l, 1) := by decide +kernel
theorem dX9_core_11 : decode cX9_core 11 = .ok (.invokestatic 96, 3) := by decide +kernel
theorem dX9_core_14 : decode cX9_core 14 = .ok (.iconst 1, 1) := by decide +kernel
theorem dX9_core_15 : decode cX9_core 15 = .ok (.iconst 1, 1) := by decide +kernel
theorem dX9_core_16 : decode cX9_core 16 = .ok (.invokevirtual 120, 3) := by decide +kernel
theorem dX9_core_19 : decode cX9_core 19 = .ok (.ifCond .eq 12, 3) := by decide +kernel
theorem dX9_core_22 : decode cX9_core 22 = .ok (.aload_n 0, 1) := by decide +kernel
theorem dX9_core_23 : decode cX9_core 23 = .ok (.getfield 26, 3) := by decide +kernel
theorem dX9_core_26 : decode cX9_core 26 = .ok (.iload_n 1, 1) := by decide +kernel
theorem dX9_core_27 : decode cX9_core 27 = .ok (.iaload, 1) := by decide +kernel
theorem dX9_core_28 : decode cX9_core 28 = .ok (.goto 4, 3) := by decide +kernel
theorem dX9_core_31 : decode cX9_core 31 = .ok (.iconst 0, 1) := by decide +kernel
theorem dX9_core_32 : decode cX9_core 32 = .ok (.ireturn, 1) := by decide +kernel
theorem dX9_findValues_0 : decode cX9_findValues 0 = .ok (.iconst 0, 1) := by decide +kernel
theorem dX9_findValues_1 : decode cX9_findValues 1 = .ok (.istore_n 1, 1) := by decide +kernel
theorem dX9_findValues_2 : decode cX9_findValues 2 = .ok (.iload_n 1, 1) := by decide +kernel
theorem dX9_findValues_3 : decode cX9_findValues 3 = .ok (.bipush 16, 2) := by decide +kernel
theorem dX9_findValues_5 : decode cX9_findValues 5 = .ok (.if_icmp .ge 16, 3) := by decide +kernel
theorem dX9_findValues_8 : decode cX9_findValues 8 = .ok (.aload_n 0, 1) := by decide +kernel
theorem dX9_findValues_9 : decode cX9_findValues 9 = .ok (.getfield 36, 3) := by decide +kernel
theorem dX9_findValues_12 : decode cX9_findValues 12 = .ok (.iload_n 1, 1) := by decide +kernel
theorem dX9_findValues_13 : decode cX9_findValues 13 = .ok (.lconst 0, 1) := by decide +kernel
theorem dX9_findValues_14 : decode cX9_findValues 14 = .ok (.lastore, 1) := by decide +kernel
theorem dX9_findValues_15 : decode cX9_findValues 15 = .ok (.iinc 1 1, 3) := by decide +kernel
theorem dX9_findValues_18 : decode cX9_findValues 18 = .ok (.goto (-16), 3) := by decide +kernel
theorem dX9_findValues_21 : decode cX9_findValues 21 = .ok (.iconst 1, 1) := by decide +kernel
theorem dX9_findValues_22 : decode cX9_findValues 22 = .ok (.istore_n 1, 1) := by decide +kernel
theorem dX9_findValues_23 : decode cX9_findValues 23 = .ok (.iconst 0, 1) := by decide +kernel
theorem dX9_findValues_24 : decode cX9_findValues 24 = .ok (.istore_n 2, 1) := by decide +kernel
theorem dX9_findValues_25 : decode cX9_findValues 25 = .ok (.iload_n 2, 1) := by decide +kernel
theorem dX9_findValues_26 : decode cX9_findValues 26 = .ok (.bipush 16, 2) := by decide +kernel
theorem dX9_findValues_28 : decode cX9_findValues 28 = .ok (.if_icmp .gt 104, 3) := by decide +kernel
theorem dX9_findValues_31 : decode cX9_findValues 31 = .ok (.iload_n 1, 1) := by decide +kernel
theorem dX9_findValues_32 : decode cX9_findValues 32 = .ok (.ifCond .eq 100, 3) := by decide +kernel
theorem dX9_findValues_35 : decode cX9_findValues 35 = .ok (.iconst 0, 1) := by decide +kernel
theorem dX9_findValues_36 : decode cX9_findValues 36 = .ok (.istore_n 1, 1) := by decide +kernel
theorem dX9_findValues_37 : decode cX9_findValues 37 = .ok (.iconst 0, 1) := by decide +kernel
theorem dX9_findValues_38 : decode cX9_findValues 38 = .ok (.istore_n 3, 1) := by decide +kernel
theorem dX9_findValues_39 : decode cX9_findValues 39 = .ok (.iload_n 3, 1) := by decide +kernel
theorem dX9_findValues_40 : decode cX9_findValues 40 = .ok (.bipush 70, 2) := by decide +kernel
theorem dX9_findValues_42 : decode cX9_findValues 42 = .ok (.if_icmp .ge 84, 3) := by decide +kernel
theorem dX9_findValues_45 : decode cX9_findValues 45 = .ok (.aload_n 0, 1) := by decide +kernel
theorem dX9_findValues_46 : decode cX9_findValues 46 = .ok (.getfield 19, 3) := by decide +kernel
theorem dX9_findValues_49 : decode cX9_findValues 49 = .ok (.iload_n 3, 1) := by decide +kernel
theorem dX9_findValues_50 : decode cX9_findValues 50 = .ok (.baload, 1) := by decide +kernel
theorem dX9_findValues_51 : decode cX9_findValues 51 = .ok (.ifCond .eq 69, 3) := by decide +kernel
theorem dX9_findValues_54 : decode cX9_findValues 54 = .ok (.aload_n 0, 1) := by decide +kernel
theorem dX9_findValues_55 : decode cX9_findValues 55 = .ok (.getfield 36, 3) := by decide +kernel
theorem dX9_findValues_58 : decode cX9_findValues 58 = .ok (.aload_n 0, 1) := by decide +kernel
theorem dX9_findValues_59 : decode cX9_findValues 59 = .ok (.getfield 13, 3) := by decide +kernel
theorem dX9_findValues_62 : decode cX9_findValues 62 = .ok (.iload_n 3, 1) := by decide +kernel
theorem dX9_findValues_63 : decode cX9_findValues 63 = .ok (.iaload, 1) := by decide +kernel
theorem dX9_findValues_64 : decode cX9_findValues 64 = .ok (.laload, 1) := by decide +kernel
theorem dX9_findValues_65 : decode cX9_findValues 65 = .ok (.aload_n 0, 1) := by decide +kernel
theorem dX9_findValues_66 : decode cX9_findValues 66 = .ok (.getfield 16, 3) := by decide +kernel
theorem dX9_findValues_69 : decode cX9_findValues 69 = .ok (.iload_n 3, 1) := by decide +kernel
theorem dX9_findValues_70 : decode cX9_findValues 70 = .ok (.iaload, 1) := by decide +kernel
theorem dX9_findValues_71 : decode cX9_findValues 71 = .ok (.i2l, 1) := by decide +kernel
theorem dX9_findValues_72 : decode cX9_findValues 72 = .ok (.ladd, 1) := by decide +kernel
theorem dX9_findValues_73 : decode cX9_findValues 73 = .ok (.aload_n 0, 1) := by decide +kernel
theorem dX9_findValues_74 : decode cX9_findValues 74 = .ok (.getfield 36, 3) := by decide +kernel
theorem dX9_findValues_77 : decode cX9_findValues 77 = .ok (.aload_n 0, 1) := by decide +kernel
theorem dX9_findValues_78 : decode cX9_findValues 78 = .ok (.getfield 7, 3) := by decide +kernel
theorem dX9_findValues_81 : decode cX9_findValues 81 = .ok (.iload_n 3, 1) := by decide +kernel
theorem dX9_findValues_82 : decode cX9_findValues 82 = .ok (.iaload, 1) := by decide +kernel
theorem dX9_findValues_83 : decode cX9_findValues 83 = .ok (.laload, 1) := by decide +kernel
theorem dX9_findValues_84 : decode cX9_findValues 84 = .ok (.lcmp, 1) := by decide +kernel
theorem dX9_findValues_85 : decode cX9_findValues 85 = .ok (.ifCond .ge 35, 3) := by decide +kernel
theorem dX9_findValues_88 : decode cX9_findValues 88 = .ok (.aload_n 0, 1) := by decide +kernel
theorem dX9_findValues_89 : decode cX9_findValues 89 = .ok (.getfield 36, 3) := by decide +kernel
theorem dX9_findValues_92 : decode cX9_findValues 92 = .ok (.aload_n 0, 1) := by decide +kernel
theorem dX9_findValues_93 : decode cX9_findValues 93 = .ok (.getfield 7, 3) := by decide +kernel
theorem dX9_findValues_96 : decode cX9_findValues 96 = .ok (.iload_n 3, 1) := by decide +kernel
theorem dX9_findValues_97 : decode cX9_findValues 97 = .ok (.iaload, 1) := by decide +kernel
theorem dX9_findValues_98 : decode cX9_findValues 98 = .ok (.aload_n 0, 1) := by decide +kernel
theorem dX9_findValues_99 : decode cX9_findValues 99 = .ok (.getfield 36, 3) := by decide +kernel
theorem dX9_findValues_102 : decode cX9_findValues 102 = .ok (.aload_n 0, 1) := by decide +kernel
theorem dX9_findValues_103 : decode cX9_findValues 103 = .ok (.getfield 13, 3) := by decide +kernel
theorem dX9_findValues_106 : decode cX9_findValues 106 = .ok (.iload_n 3, 1) := by decide +kernel
theorem dX9_findValues_107 : decode cX9_findValues 107 = .ok (.iaload, 1) := by decide +kernel
theorem dX9_findValues_108 : decode cX9_findValues 108 = .ok (.laload, 1) := by decide +kernel
theorem dX9_findValues_109 : decode cX9_findValues 109 = .ok (.aload_n 0, 1) := by decide +kernel
theorem dX9_findValues_110 : decode cX9_findValues 110 = .ok (.getfield 16, 3) := by decide +kernel
theorem dX9_findValues_113 : decode cX9_findValues 113 = .ok (.iload_n 3, 1) := by decide +kernel
theorem dX9_findValues_114 : decode cX9_findValues 114 = .ok (.iaload, 1) := by decide +kernel
theorem dX9_findValues_115 : decode cX9_findValues 115 = .ok (.i2l, 1) := by decide +kernel
theorem dX9_findValues_116 : decode cX9_findValues 116 = .ok (.ladd, 1) := by decide +kernel
theorem dX9_findValues_117 : decode cX9_findValues 117 = .ok (.lastore, 1) := by decide +kernel
theorem dX9_findValues_118 : decode cX9_findValues 118 = .ok (.iconst 1, 1) := by decide +kernel
theorem dX9_findValues_119 : decode cX9_findValues 119 = .ok (.istore_n 1, 1) := by decide +kernel
theorem dX9_findValues_120 : decode cX9_findValues 120 = .ok (.iinc 3 1, 3) := by decide +kernel
theorem dX9_findValues_123 : decode cX9_findValues 123 = .ok (.goto (-84), 3) := by decide +kernel
theorem dX9_findValues_126 : decode cX9_findValues 126 = .ok (.iinc 2 1, 3) := by decide +kernel
theorem dX9_findValues_129 : decode cX9_findValues 129 = .ok (.goto (-104), 3) := by decide +kernel
theorem dX9_findValues_132 : decode cX9_findValues 132 = .ok (.iload_n 1, 1) := by decide +kernel
theorem dX9_findValues_133 : decode cX9_findValues 133 = .ok (.ifCond .ne 7, 3) := by decide +kernel
theorem dX9_findValues_136 : decode cX9_findValues 136 = .ok (.iconst 1, 1) := by decide +kernel
theorem dX9_findValues_137 : decode cX9_findValues 137 = .ok (.goto 4, 3) := by decide +kernel
theorem dX9_findValues_140 : decode cX9_findValues 140 = .ok (.iconst 0, 1) := by decide +kernel
theorem dX9_findValues_141 : decode cX9_findValues 141 = .ok (.ireturn, 1) := by decide +kernel
theorem dX9_value_0 : decode cX9_value 0 = .ok (.aload_n 0, 1) := by decide +kernel
theorem dX9_value_1 : decode cX9_value 1 = .ok (.aload_n 0, 1) := by decide +kernel
theorem dX9_value_2 : decode cX9_value 2 = .ok (.iload_n 1, 1) := by decide +kernel
theorem dX9_value_3 : decode cX9_value 3 = .ok (.invokevirtual 112, 3) := by decide +kernel
theorem dX9_value_6 : decode cX9_value 6 = .ok (.iconst 1, 1) := by decide +kernel
theorem dX9_value_7 : decode cX9_value 7 = .ok (.iconst 1, 1) := by decide +kernel
theorem dX9_value_8 : decode cX9_value 8 = .ok (.invokevirtual 120, 3) := by decide +kernel
theorem dX9_value_11 : decode cX9_value 11 = .ok (.ifCond .ne 5, 3) := by decide +kernel
theorem dX9_value_14 : decode cX9_value 14 = .ok (.lconst 0, 1) := by decide +kernel
theorem dX9_value_15 : decode cX9_value 15 = .ok (.lreturn, 1) := by decide +kernel
theorem dX9_value_16 : decode cX9_value 16 = .ok (.aload_n 0, 1) := by decide +kernel
theorem dX9_value_17 : decode cX9_value 17 = .ok (.invokevirtual 124, 3) := by decide +kernel
theorem dX9_value_20 : decode cX9_value 20 = .ok (.aload_n 0, 1) := by decide +kernel
theorem dX9_value_21 : decode cX9_value 21 = .ok (.invokevirtual 136, 3) := by decide +kernel
theorem dX9_value_24 : decode cX9_value 24 = .ok (.pop, 1) := by decide +kernel
theorem dX9_value_25 : decode cX9_value 25 = .ok (.aload_n 0, 1) := by decide +kernel
theorem dX9_value_26 : decode cX9_value 26 = .ok (.getfield 36, 3) := by decide +kernel
theorem dX9_value_29 : decode cX9_value 29 = .ok (.iload_n 1, 1) := by decide +kernel
theorem dX9_value_30 : decode cX9_value 30 = .ok (.laload, 1) := by decide +kernel
theorem dX9_value_31 : decode cX9_value 31 = .ok (.aload_n 0, 1) := by decide +kernel
theorem dX9_value_32 : decode cX9_value 32 = .ok (.getfield 36, 3) := by decide +kernel
theorem dX9_value_35 : decode cX9_value 35 = .ok (.iconst 0, 1) := by decide +kernel
theorem dX9_value_36 : decode cX9_value 36 = .ok (.laload, 1) := by decide +kernel
theorem dX9_value_37 : decode cX9_value 37 = .ok (.lsub, 1) := by decide +kernel
theorem dX9_value_38 : decode cX9_value 38 = .ok (.lreturn, 1) := by decide +kernel
theorem dX9_boundOf_0 : decode cX9_boundOf 0 = .ok (.aload_n 0, 1) := by decide +kernel
theorem dX9_boundOf_1 : decode cX9_boundOf 1 = .ok (.iload_n 2, 1) := by decide +kernel
theorem dX9_boundOf_2 : decode cX9_boundOf 2 = .ok (.invokevirtual 105, 3) := by decide +kernel
theorem dX9_boundOf_5 : decode cX9_boundOf 5 = .ok (.ldc2_w 103, 3) := by decide +kernel
theorem dX9_boundOf_8 : decode cX9_boundOf 8 = .ok (.lstore_n 3, 1) := by decide +kernel
theorem dX9_boundOf_9 : decode cX9_boundOf 9 = .ok (.iconst 0, 1) := by decide +kernel
theorem dX9_boundOf_10 : decode cX9_boundOf 10 = .ok (.istore 5, 2) := by decide +kernel
theorem dX9_boundOf_12 : decode cX9_boundOf 12 = .ok (.iload 5, 2) := by decide +kernel
theorem dX9_boundOf_14 : decode cX9_boundOf 14 = .ok (.bipush 16, 2) := by decide +kernel
theorem dX9_boundOf_16 : decode cX9_boundOf 16 = .ok (.if_icmp .gt 43, 3) := by decide +kernel
theorem dX9_boundOf_19 : decode cX9_boundOf 19 = .ok (.aload_n 0, 1) := by decide +kernel
theorem dX9_boundOf_20 : decode cX9_boundOf 20 = .ok (.getfield 29, 3) := by decide +kernel
theorem dX9_boundOf_23 : decode cX9_boundOf 23 = .ok (.bipush 16, 2) := by decide +kernel
theorem dX9_boundOf_25 : decode cX9_boundOf 25 = .ok (.iload 5, 2) := by decide +kernel
theorem dX9_boundOf_27 : decode cX9_boundOf 27 = .ok (.imul, 1) := by decide +kernel
theorem dX9_boundOf_28 : decode cX9_boundOf 28 = .ok (.iload_n 1, 1) := by decide +kernel
theorem dX9_boundOf_29 : decode cX9_boundOf 29 = .ok (.iadd, 1) := by decide +kernel
theorem dX9_boundOf_30 : decode cX9_boundOf 30 = .ok (.laload, 1) := by decide +kernel
theorem dX9_boundOf_31 : decode cX9_boundOf 31 = .ok (.lload_n 3, 1) := by decide +kernel
theorem dX9_boundOf_32 : decode cX9_boundOf 32 = .ok (.lcmp, 1) := by decide +kernel
theorem dX9_boundOf_33 : decode cX9_boundOf 33 = .ok (.ifCond .ge 18, 3) := by decide +kernel
theorem dX9_boundOf_36 : decode cX9_boundOf 36 = .ok (.aload_n 0, 1) := by decide +kernel
theorem dX9_boundOf_37 : decode cX9_boundOf 37 = .ok (.getfield 29, 3) := by decide +kernel
theorem dX9_boundOf_40 : decode cX9_boundOf 40 = .ok (.bipush 16, 2) := by decide +kernel
theorem dX9_boundOf_42 : decode cX9_boundOf 42 = .ok (.iload 5, 2) := by decide +kernel
theorem dX9_boundOf_44 : decode cX9_boundOf 44 = .ok (.imul, 1) := by decide +kernel
theorem dX9_boundOf_45 : decode cX9_boundOf 45 = .ok (.iload_n 1, 1) := by decide +kernel
theorem dX9_boundOf_46 : decode cX9_boundOf 46 = .ok (.iadd, 1) := by decide +kernel
theorem dX9_boundOf_47 : decode cX9_boundOf 47 = .ok (.laload, 1) := by decide +kernel
theorem dX9_boundOf_48 : decode cX9_boundOf 48 = .ok (.goto 4, 3) := by decide +kernel
theorem dX9_boundOf_51 : decode cX9_boundOf 51 = .ok (.lload_n 3, 1) := by decide +kernel
theorem dX9_boundOf_52 : decode cX9_boundOf 52 = .ok (.lstore_n 3, 1) := by decide +kernel
theorem dX9_boundOf_53 : decode cX9_boundOf 53 = .ok (.iinc 5 1, 3) := by decide +kernel
theorem dX9_boundOf_56 : decode cX9_boundOf 56 = .ok (.goto (-44), 3) := by decide +kernel
theorem dX9_boundOf_59 : decode cX9_boundOf 59 = .ok (.lload_n 3, 1) := by decide +kernel
theorem dX9_boundOf_60 : decode cX9_boundOf 60 = .ok (.lreturn, 1) := by decide +kernel
theorem dX9_bound_0 : decode cX9_bound 0 = .ok (.aload_n 0, 1) := by decide +kernel
theorem dX9_bound_1 : decode cX9_bound 1 = .ok (.aload_n 0, 1) := by decide +kernel
theorem dX9_bound_2 : decode cX9_bound 2 = .ok (.iload_n 1, 1) := by decide +kernel
theorem dX9_bound_3 : decode cX9_bound 3 = .ok (.invokevirtual 112, 3) := by decide +kernel
theorem dX9_bound_6 : decode cX9_bound 6 = .ok (.ifCond .eq 15, 3) := by decide +kernel
theorem dX9_bound_9 : decode cX9_bound 9 = .ok (.aload_n 0, 1) := by decide +kernel
theorem dX9_bound_10 : decode cX9_bound 10 = .ok (.iload_n 2, 1) := by decide +kernel
theorem dX9_bound_11 : decode cX9_bound 11 = .ok (.invokevirtual 112, 3) := by decide +kernel
theorem dX9_bound_14 : decode cX9_bound 14 = .ok (.ifCond .eq 7, 3) := by decide +kernel
theorem dX9_bound_17 : decode cX9_bound 17 = .ok (.iconst 1, 1) := by decide +kernel
theorem dX9_bound_18 : decode cX9_bound 18 = .ok (.goto 4, 3) := by decide +kernel
theorem dX9_bound_21 : decode cX9_bound 21 = .ok (.iconst 0, 1) := by decide +kernel
theorem dX9_bound_22 : decode cX9_bound 22 = .ok (.iconst 1, 1) := by decide +kernel
theorem dX9_bound_23 : decode cX9_bound 23 = .ok (.iconst 1, 1) := by decide +kernel
theorem dX9_bound_24 : decode cX9_bound 24 = .ok (.invokevirtual 120, 3) := by decide +kernel
theorem dX9_bound_27 : decode cX9_bound 27 = .ok (.ifCond .ne 5, 3) := by decide +kernel
theorem dX9_bound_30 : decode cX9_bound 30 = .ok (.lconst 0, 1) := by decide +kernel
theorem dX9_bound_31 : decode cX9_bound 31 = .ok (.lreturn, 1) := by decide +kernel
theorem dX9_bound_32 : decode cX9_bound 32 = .ok (.aload_n 0, 1) := by decide +kernel
theorem dX9_bound_33 : decode cX9_bound 33 = .ok (.invokevirtual 124, 3) := by decide +kernel
theorem dX9_bound_36 : decode cX9_bound 36 = .ok (.aload_n 0, 1) := by decide +kernel
theorem dX9_bound_37 : decode cX9_bound 37 = .ok (.iload_n 1, 1) := by decide +kernel
theorem dX9_bound_38 : decode cX9_bound 38 = .ok (.iload_n 2, 1) := by decide +kernel
theorem dX9_bound_39 : decode cX9_bound 39 = .ok (.invokevirtual 140, 3) := by decide +kernel
theorem dX9_bound_42 : decode cX9_bound 42 = .ok (.lstore_n 3, 1) := by decide +kernel
theorem dX9_bound_43 : decode cX9_bound 43 = .ok (.lload_n 3, 1) := by decide +kernel
theorem dX9_bound_44 : decode cX9_bound 44 = .ok (.ldc2_w 103, 3) := by decide +kernel
theorem dX9_bound_47 : decode cX9_bound 47 = .ok (.lcmp, 1) := by decide +kernel
theorem dX9_bound_48 : decode cX9_bound 48 = .ok (.ifCond .ne 9, 3) := by decide +kernel
theorem dX9_bound_51 : decode cX9_bound 51 = .ok (.ldc2_w 144, 3) := by decide +kernel
theorem dX9_bound_54 : decode cX9_bound 54 = .ok (.goto 4, 3) := by decide +kernel
theorem dX9_bound_57 : decode cX9_bound 57 = .ok (.lload_n 3, 1) := by decide +kernel
theorem dX9_bound_58 : decode cX9_bound 58 = .ok (.lreturn, 1) := by decide +kernel
theorem dX9_why_0 : decode cX9_why 0 = .ok (.aload_n 0, 1) := by decide +kernel
theorem dX9_why_1 : decode cX9_why 1 = .ok (.aload_n 0, 1) := by decide +kernel
theorem dX9_why_2 : decode cX9_why 2 = .ok (.iload_n 1, 1) := by decide +kernel
theorem dX9_why_3 : decode cX9_why 3 = .ok (.invokevirtual 112, 3) := by decide +kernel
theorem dX9_why_6 : decode cX9_why 6 = .ok (.ifCond .eq 15, 3) := by decide +kernel
theorem dX9_why_9 : decode cX9_why 9 = .ok (.aload_n 0, 1) := by decide +kernel
theorem dX9_why_10 : decode cX9_why 10 = .ok (.iload_n 2, 1) := by decide +kernel
theorem dX9_why_11 : decode cX9_why 11 = .ok (.invokevirtual 112, 3) := by decide +kernel
theorem dX9_why_14 : decode cX9_why 14 = .ok (.ifCond .eq 7, 3) := by decide +kernel
theorem dX9_why_17 : decode cX9_why 17 = .ok (.iconst 1, 1) := by decide +kernel
theorem dX9_why_18 : decode cX9_why 18 = .ok (.goto 4, 3) := by decide +kernel
theorem dX9_why_21 : decode cX9_why 21 = .ok (.iconst 0, 1) := by decide +kernel
theorem dX9_why_22 : decode cX9_why 22 = .ok (.iload_n 3, 1) := by decide +kernel
theorem dX9_why_23 : decode cX9_why 23 = .ok (.ifCond .lt 7, 3) := by decide +kernel
theorem dX9_why_26 : decode cX9_why 26 = .ok (.iconst 1, 1) := by decide +kernel
theorem dX9_why_27 : decode cX9_why 27 = .ok (.goto 4, 3) := by decide +kernel
theorem dX9_why_30 : decode cX9_why 30 = .ok (.iconst 0, 1) := by decide +kernel
theorem dX9_why_31 : decode cX9_why 31 = .ok (.iconst 1, 1) := by decide +kernel
theorem dX9_why_32 : decode cX9_why 32 = .ok (.invokevirtual 120, 3) := by decide +kernel
theorem dX9_why_35 : decode cX9_why 35 = .ok (.ifCond .ne 5, 3) := by decide +kernel
theorem dX9_why_38 : decode cX9_why 38 = .ok (.iconst 0, 1) := by decide +kernel
theorem dX9_why_39 : decode cX9_why 39 = .ok (.ireturn, 1) := by decide +kernel
theorem dX9_why_40 : decode cX9_why 40 = .ok (.aload_n 0, 1) := by decide +kernel
theorem dX9_why_41 : decode cX9_why 41 = .ok (.invokevirtual 124, 3) := by decide +kernel
theorem dX9_why_44 : decode cX9_why 44 = .ok (.aload_n 0, 1) := by decide +kernel
theorem dX9_why_45 : decode cX9_why 45 = .ok (.iload_n 1, 1) := by decide +kernel
theorem dX9_why_46 : decode cX9_why 46 = .ok (.iload_n 2, 1) := by decide +kernel
theorem dX9_why_47 : decode cX9_why 47 = .ok (.invokevirtual 140, 3) := by decide +kernel
theorem dX9_why_50 : decode cX9_why 50 = .ok (.lstore 4, 2) := by decide +kernel
theorem dX9_why_52 : decode cX9_why 52 = .ok (.lload 4, 2) := by decide +kernel
theorem dX9_why_54 : decode cX9_why 54 = .ok (.ldc2_w 103, 3) := by decide +kernel
theorem dX9_why_57 : decode cX9_why 57 = .ok (.lcmp, 1) := by decide +kernel
theorem dX9_why_58 : decode cX9_why 58 = .ok (.ifCond .ne 5, 3) := by decide +kernel
theorem dX9_why_61 : decode cX9_why 61 = .ok (.iconst (-1), 1) := by decide +kernel
theorem dX9_why_62 : decode cX9_why 62 = .ok (.ireturn, 1) := by decide +kernel
theorem dX9_why_63 : decode cX9_why 63 = .ok (.aload_n 0, 1) := by decide +kernel
theorem dX9_why_64 : decode cX9_why 64 = .ok (.iload_n 1, 1) := by decide +kernel
theorem dX9_why_65 : decode cX9_why 65 = .ok (.iload_n 2, 1) := by decide +kernel
theorem dX9_why_66 : decode cX9_why 66 = .ok (.lload 4, 2) := by decide +kernel
theorem dX9_why_68 : decode cX9_why 68 = .ok (.invokevirtual 129, 3) := by decide +kernel
theorem dX9_why_71 : decode cX9_why 71 = .ok (.pop, 1) := by decide +kernel
theorem dX9_why_72 : decode cX9_why 72 = .ok (.iload_n 3, 1) := by decide +kernel
theorem dX9_why_73 : decode cX9_why 73 = .ok (.aload_n 0, 1) := by decide +kernel
theorem dX9_why_74 : decode cX9_why 74 = .ok (.getfield 109, 3) := by decide +kernel
theorem dX9_why_77 : decode cX9_why 77 = .ok (.if_icmp .ge 12, 3) := by decide +kernel
theorem dX9_why_80 : decode cX9_why 80 = .ok (.aload_n 0, 1) := by decide +kernel
theorem dX9_why_81 : decode cX9_why 81 = .ok (.getfield 33, 3) := by decide +kernel
theorem dX9_why_84 : decode cX9_why 84 = .ok (.iload_n 3, 1) := by decide +kernel
theorem dX9_why_85 : decode cX9_why 85 = .ok (.iaload, 1) := by decide +kernel
theorem dX9_why_86 : decode cX9_why 86 = .ok (.goto 4, 3) := by decide +kernel
theorem dX9_why_89 : decode cX9_why 89 = .ok (.iconst (-1), 1) := by decide +kernel
theorem dX9_why_90 : decode cX9_why 90 = .ok (.ireturn, 1) := by decide +kernel
theorem dX9_isIdle_0 : decode cX9_isIdle 0 = .ok (.aload_n 0, 1) := by decide +kernel
theorem dX9_isIdle_1 : decode cX9_isIdle 1 = .ok (.invokevirtual 124, 3) := by decide +kernel
theorem dX9_isIdle_4 : decode cX9_isIdle 4 = .ok (.aload_n 0, 1) := by decide +kernel
theorem dX9_isIdle_5 : decode cX9_isIdle 5 = .ok (.getfield 19, 3) := by decide +kernel
theorem dX9_isIdle_8 : decode cX9_isIdle 8 = .ok (.iload_n 1, 1) := by decide +kernel
theorem dX9_isIdle_9 : decode cX9_isIdle 9 = .ok (.iconst 0, 1) := by decide +kernel
theorem dX9_isIdle_10 : decode cX9_isIdle 10 = .ok (.bastore, 1) := by decide +kernel
theorem dX9_isIdle_11 : decode cX9_isIdle 11 = .ok (.aload_n 0, 1) := by decide +kernel
theorem dX9_isIdle_12 : decode cX9_isIdle 12 = .ok (.aload_n 0, 1) := by decide +kernel
theorem dX9_isIdle_13 : decode cX9_isIdle 13 = .ok (.getfield 7, 3) := by decide +kernel
theorem dX9_isIdle_16 : decode cX9_isIdle 16 = .ok (.iload_n 1, 1) := by decide +kernel
theorem dX9_isIdle_17 : decode cX9_isIdle 17 = .ok (.iaload, 1) := by decide +kernel
theorem dX9_isIdle_18 : decode cX9_isIdle 18 = .ok (.aload_n 0, 1) := by decide +kernel
theorem dX9_isIdle_19 : decode cX9_isIdle 19 = .ok (.getfield 13, 3) := by decide +kernel
theorem dX9_isIdle_22 : decode cX9_isIdle 22 = .ok (.iload_n 1, 1) := by decide +kernel
theorem dX9_isIdle_23 : decode cX9_isIdle 23 = .ok (.iaload, 1) := by decide +kernel
theorem dX9_isIdle_24 : decode cX9_isIdle 24 = .ok (.invokevirtual 140, 3) := by decide +kernel
theorem dX9_isIdle_27 : decode cX9_isIdle 27 = .ok (.aload_n 0, 1) := by decide +kernel
theorem dX9_isIdle_28 : decode cX9_isIdle 28 = .ok (.getfield 16, 3) := by decide +kernel
theorem dX9_isIdle_31 : decode cX9_isIdle 31 = .ok (.iload_n 1, 1) := by decide +kernel
theorem dX9_isIdle_32 : decode cX9_isIdle 32 = .ok (.iaload, 1) := by decide +kernel
theorem dX9_isIdle_33 : decode cX9_isIdle 33 = .ok (.i2l, 1) := by decide +kernel
theorem dX9_isIdle_34 : decode cX9_isIdle 34 = .ok (.lcmp, 1) := by decide +kernel
theorem dX9_isIdle_35 : decode cX9_isIdle 35 = .ok (.ifCond .gt 7, 3) := by decide +kernel
theorem dX9_isIdle_38 : decode cX9_isIdle 38 = .ok (.iconst 1, 1) := by decide +kernel
theorem dX9_isIdle_39 : decode cX9_isIdle 39 = .ok (.goto 4, 3) := by decide +kernel
theorem dX9_isIdle_42 : decode cX9_isIdle 42 = .ok (.iconst 0, 1) := by decide +kernel
theorem dX9_isIdle_43 : decode cX9_isIdle 43 = .ok (.ireturn, 1) := by decide +kernel
theorem dX9_constraint_0 : decode cX9_constraint 0 = .ok (.aload_n 0, 1) := by decide +kernel
theorem dX9_constraint_1 : decode cX9_constraint 1 = .ok (.iload_n 1, 1) := by decide +kernel
theorem dX9_constraint_2 : decode cX9_constraint 2 = .ok (.i2l, 1) := by decide +kernel
theorem dX9_constraint_3 : decode cX9_constraint 3 = .ok (.lconst 0, 1) := by decide +kernel
theorem dX9_constraint_4 : decode cX9_constraint 4 = .ok (.aload_n 0, 1) := by decide +kernel
theorem dX9_constraint_5 : decode cX9_constraint 5 = .ok (.getfield 100, 3) := by decide +kernel
theorem dX9_constraint_8 : decode cX9_constraint 8 = .ok (.iconst 1, 1) := by decide +kernel
theorem dX9_constraint_9 : decode cX9_constraint 9 = .ok (.isub, 1) := by decide +kernel
theorem dX9_constraint_10 : decode cX9_constraint 10 = .ok (.i2l, 1) := by decide +kernel
theorem dX9_constraint_11 : decode cX9_constraint 11 = .ok (.invokestatic 96, 3) := by decide +kernel
theorem dX9_constraint_14 : decode cX9_constraint 14 = .ok (.iload_n 2, 1) := by decide +kernel
theorem dX9_constraint_15 : decode cX9_constraint 15 = .ok (.i2l, 1) := by decide +kernel
theorem dX9_constraint_16 : decode cX9_constraint 16 = .ok (.lconst 0, 1) := by decide +kernel
theorem dX9_constraint_17 : decode cX9_constraint 17 = .ok (.ldc2_w 146, 3) := by decide +kernel
theorem dX9_constraint_20 : decode cX9_constraint 20 = .ok (.invokestatic 96, 3) := by decide +kernel
theorem dX9_constraint_23 : decode cX9_constraint 23 = .ok (.iconst 1, 1) := by decide +kernel
theorem dX9_constraint_24 : decode cX9_constraint 24 = .ok (.invokevirtual 120, 3) := by decide +kernel
theorem dX9_constraint_27 : decode cX9_constraint 27 = .ok (.ifCond .ne 5, 3) := by decide +kernel
theorem dX9_constraint_30 : decode cX9_constraint 30 = .ok (.iconst 0, 1) := by decide +kernel
theorem dX9_constraint_31 : decode cX9_constraint 31 = .ok (.ireturn, 1) := by decide +kernel
theorem dX9_constraint_32 : decode cX9_constraint 32 = .ok (.iconst 0, 1) := by decide +kernel
theorem dX9_constraint_33 : decode cX9_constraint 33 = .ok (.istore_n 3, 1) := by decide +kernel
theorem dX9_constraint_34 : decode cX9_constraint 34 = .ok (.iconst 0, 1) := by decide +kernel
theorem dX9_constraint_35 : decode cX9_constraint 35 = .ok (.istore 4, 2) := by decide +kernel
theorem dX9_constraint_37 : decode cX9_constraint 37 = .ok (.iload 4, 2) := by decide +kernel
theorem dX9_constraint_39 : decode cX9_constraint 39 = .ok (.aload_n 0, 1) := by decide +kernel
theorem dX9_constraint_40 : decode cX9_constraint 40 = .ok (.getfield 133, 3) := by decide +kernel
theorem dX9_constraint_43 : decode cX9_constraint 43 = .ok (.if_icmp .ge 28, 3) := by decide +kernel
theorem dX9_constraint_46 : decode cX9_constraint 46 = .ok (.iload_n 3, 1) := by decide +kernel
theorem dX9_constraint_47 : decode cX9_constraint 47 = .ok (.aload_n 0, 1) := by decide +kernel
theorem dX9_constraint_48 : decode cX9_constraint 48 = .ok (.getfield 23, 3) := by decide +kernel
theorem dX9_constraint_51 : decode cX9_constraint 51 = .ok (.iload 4, 2) := by decide +kernel
theorem dX9_constraint_53 : decode cX9_constraint 53 = .ok (.iaload, 1) := by decide +kernel
theorem dX9_constraint_54 : decode cX9_constraint 54 = .ok (.iload_n 1, 1) := by decide +kernel
theorem dX9_constraint_55 : decode cX9_constraint 55 = .ok (.if_icmp .gt 7, 3) := by decide +kernel
theorem dX9_constraint_58 : decode cX9_constraint 58 = .ok (.iconst 1, 1) := by decide +kernel
theorem dX9_constraint_59 : decode cX9_constraint 59 = .ok (.goto 4, 3) := by decide +kernel
theorem dX9_constraint_62 : decode cX9_constraint 62 = .ok (.iconst 0, 1) := by decide +kernel
theorem dX9_constraint_63 : decode cX9_constraint 63 = .ok (.iadd, 1) := by decide +kernel
theorem dX9_constraint_64 : decode cX9_constraint 64 = .ok (.istore_n 3, 1) := by decide +kernel
theorem dX9_constraint_65 : decode cX9_constraint 65 = .ok (.iinc 4 1, 3) := by decide +kernel
theorem dX9_constraint_68 : decode cX9_constraint 68 = .ok (.goto (-31), 3) := by decide +kernel
theorem dX9_constraint_71 : decode cX9_constraint 71 = .ok (.iload_n 2, 1) := by decide +kernel
theorem dX9_constraint_72 : decode cX9_constraint 72 = .ok (.ifCond .ne 12, 3) := by decide +kernel
theorem dX9_constraint_75 : decode cX9_constraint 75 = .ok (.aload_n 0, 1) := by decide +kernel
theorem dX9_constraint_76 : decode cX9_constraint 76 = .ok (.getfield 7, 3) := by decide +kernel
theorem dX9_constraint_79 : decode cX9_constraint 79 = .ok (.iload_n 1, 1) := by decide +kernel
theorem dX9_constraint_80 : decode cX9_constraint 80 = .ok (.iaload, 1) := by decide +kernel
theorem dX9_constraint_81 : decode cX9_constraint 81 = .ok (.goto 53, 3) := by decide +kernel
theorem dX9_constraint_84 : decode cX9_constraint 84 = .ok (.iload_n 2, 1) := by decide +kernel
theorem dX9_constraint_85 : decode cX9_constraint 85 = .ok (.iconst 1, 1) := by decide +kernel
theorem dX9_constraint_86 : decode cX9_constraint 86 = .ok (.if_icmp .ne 12, 3) := by decide +kernel
theorem dX9_constraint_89 : decode cX9_constraint 89 = .ok (.aload_n 0, 1) := by decide +kernel
theorem dX9_constraint_90 : decode cX9_constraint 90 = .ok (.getfield 13, 3) := by decide +kernel
theorem dX9_constraint_93 : decode cX9_constraint 93 = .ok (.iload_n 1, 1) := by decide +kernel
theorem dX9_constraint_94 : decode cX9_constraint 94 = .ok (.iaload, 1) := by decide +kernel
theorem dX9_constraint_95 : decode cX9_constraint 95 = .ok (.goto 39, 3) := by decide +kernel
theorem dX9_constraint_98 : decode cX9_constraint 98 = .ok (.iload_n 2, 1) := by decide +kernel
theorem dX9_constraint_99 : decode cX9_constraint 99 = .ok (.iconst 2, 1) := by decide +kernel
theorem dX9_constraint_100 : decode cX9_constraint 100 = .ok (.if_icmp .ne 12, 3) := by decide +kernel
theorem dX9_constraint_103 : decode cX9_constraint 103 = .ok (.aload_n 0, 1) := by decide +kernel
theorem dX9_constraint_104 : decode cX9_constraint 104 = .ok (.getfield 16, 3) := by decide +kernel
theorem dX9_constraint_107 : decode cX9_constraint 107 = .ok (.iload_n 1, 1) := by decide +kernel
theorem dX9_constraint_108 : decode cX9_constraint 108 = .ok (.iaload, 1) := by decide +kernel
theorem dX9_constraint_109 : decode cX9_constraint 109 = .ok (.goto 25, 3) := by decide +kernel
theorem dX9_constraint_112 : decode cX9_constraint 112 = .ok (.iload_n 2, 1) := by decide +kernel
theorem dX9_constraint_113 : decode cX9_constraint 113 = .ok (.iconst 3, 1) := by decide +kernel
theorem dX9_constraint_114 : decode cX9_constraint 114 = .ok (.if_icmp .ne 19, 3) := by decide +kernel
theorem dX9_constraint_117 : decode cX9_constraint 117 = .ok (.aload_n 0, 1) := by decide +kernel
theorem dX9_constraint_118 : decode cX9_constraint 118 = .ok (.iload_n 1, 1) := by decide +kernel
theorem dX9_constraint_119 : decode cX9_constraint 119 = .ok (.invokevirtual 148, 3) := by decide +kernel
theorem dX9_constraint_122 : decode cX9_constraint 122 = .ok (.ifCond .eq 7, 3) := by decide +kernel
theorem dX9_constraint_125 : decode cX9_constraint 125 = .ok (.iconst 1, 1) := by decide +kernel
theorem dX9_constraint_126 : decode cX9_constraint 126 = .ok (.goto 8, 3) := by decide +kernel
theorem dX9_constraint_129 : decode cX9_constraint 129 = .ok (.iconst 0, 1) := by decide +kernel
theorem dX9_constraint_130 : decode cX9_constraint 130 = .ok (.goto 4, 3) := by decide +kernel
theorem dX9_constraint_133 : decode cX9_constraint 133 = .ok (.iload_n 3, 1) := by decide +kernel
theorem dX9_constraint_134 : decode cX9_constraint 134 = .ok (.ireturn, 1) := by decide +kernel
theorem dX9_feed_0 : decode cX9_feed 0 = .ok (.aload_n 0, 1) := by decide +kernel
theorem dX9_feed_1 : decode cX9_feed 1 = .ok (.iload_n 3, 1) := by decide +kernel
theorem dX9_feed_2 : decode cX9_feed 2 = .ok (.i2l, 1) := by decide +kernel
theorem dX9_feed_3 : decode cX9_feed 3 = .ok (.lconst 1, 1) := by decide +kernel
theorem dX9_feed_4 : decode cX9_feed 4 = .ok (.ldc2_w 151, 3) := by decide +kernel
theorem dX9_feed_7 : decode cX9_feed 7 = .ok (.invokestatic 96, 3) := by decide +kernel
theorem dX9_feed_10 : decode cX9_feed 10 = .ok (.aload_n 0, 1) := by decide +kernel
theorem dX9_feed_11 : decode cX9_feed 11 = .ok (.getfield 153, 3) := by decide +kernel
theorem dX9_feed_14 : decode cX9_feed 14 = .ok (.iload_n 3, 1) := by decide +kernel
theorem dX9_feed_15 : decode cX9_feed 15 = .ok (.iadd, 1) := by decide +kernel
theorem dX9_feed_16 : decode cX9_feed 16 = .ok (.sipush 400, 3) := by decide +kernel
theorem dX9_feed_19 : decode cX9_feed 19 = .ok (.if_icmp .gt 7, 3) := by decide +kernel
theorem dX9_feed_22 : decode cX9_feed 22 = .ok (.iconst 1, 1) := by decide +kernel
theorem dX9_feed_23 : decode cX9_feed 23 = .ok (.goto 4, 3) := by decide +kernel
theorem dX9_feed_26 : decode cX9_feed 26 = .ok (.iconst 0, 1) := by decide +kernel
theorem dX9_feed_27 : decode cX9_feed 27 = .ok (.iconst 1, 1) := by decide +kernel
theorem dX9_feed_28 : decode cX9_feed 28 = .ok (.invokevirtual 120, 3) := by decide +kernel
theorem dX9_feed_31 : decode cX9_feed 31 = .ok (.ifCond .ne 5, 3) := by decide +kernel
theorem dX9_feed_34 : decode cX9_feed 34 = .ok (.iconst 0, 1) := by decide +kernel
theorem dX9_feed_35 : decode cX9_feed 35 = .ok (.ireturn, 1) := by decide +kernel
theorem dX9_feed_36 : decode cX9_feed 36 = .ok (.iload_n 3, 1) := by decide +kernel
theorem dX9_feed_37 : decode cX9_feed 37 = .ok (.iconst 1, 1) := by decide +kernel
theorem dX9_feed_38 : decode cX9_feed 38 = .ok (.isub, 1) := by decide +kernel
theorem dX9_feed_39 : decode cX9_feed 39 = .ok (.istore 4, 2) := by decide +kernel
theorem dX9_feed_41 : decode cX9_feed 41 = .ok (.iload 4, 2) := by decide +kernel
theorem dX9_feed_43 : decode cX9_feed 43 = .ok (.ifCond .lt 40, 3) := by decide +kernel
theorem dX9_feed_46 : decode cX9_feed 46 = .ok (.aload_n 0, 1) := by decide +kernel
theorem dX9_feed_47 : decode cX9_feed 47 = .ok (.getfield 39, 3) := by decide +kernel
theorem dX9_feed_50 : decode cX9_feed 50 = .ok (.aload_n 0, 1) := by decide +kernel
theorem dX9_feed_51 : decode cX9_feed 51 = .ok (.getfield 153, 3) := by decide +kernel
theorem dX9_feed_54 : decode cX9_feed 54 = .ok (.lload_n 1, 1) := by decide +kernel
theorem dX9_feed_55 : decode cX9_feed 55 = .ok (.bipush 8, 2) := by decide +kernel
theorem dX9_feed_57 : decode cX9_feed 57 = .ok (.iload 4, 2) := by decide +kernel
theorem dX9_feed_59 : decode cX9_feed 59 = .ok (.imul, 1) := by decide +kernel
theorem dX9_feed_60 : decode cX9_feed 60 = .ok (.lshr, 1) := by decide +kernel
theorem dX9_feed_61 : decode cX9_feed 61 = .ok (.ldc2_w 156, 3) := by decide +kernel
theorem dX9_feed_64 : decode cX9_feed 64 = .ok (.land, 1) := by decide +kernel
theorem dX9_feed_65 : decode cX9_feed 65 = .ok (.l2i, 1) := by decide +kernel
theorem dX9_feed_66 : decode cX9_feed 66 = .ok (.iastore, 1) := by decide +kernel
theorem dX9_feed_67 : decode cX9_feed 67 = .ok (.aload_n 0, 1) := by decide +kernel
theorem dX9_feed_68 : decode cX9_feed 68 = .ok (.dup, 1) := by decide +kernel
theorem dX9_feed_69 : decode cX9_feed 69 = .ok (.getfield 153, 3) := by decide +kernel
theorem dX9_feed_72 : decode cX9_feed 72 = .ok (.iconst 1, 1) := by decide +kernel
theorem dX9_feed_73 : decode cX9_feed 73 = .ok (.iadd, 1) := by decide +kernel
theorem dX9_feed_74 : decode cX9_feed 74 = .ok (.putfield 153, 3) := by decide +kernel
theorem dX9_feed_77 : decode cX9_feed 77 = .ok (.iinc 4 (-1), 3) := by decide +kernel
theorem dX9_feed_80 : decode cX9_feed 80 = .ok (.goto (-39), 3) := by decide +kernel
theorem dX9_feed_83 : decode cX9_feed 83 = .ok (.aload_n 0, 1) := by decide +kernel
theorem dX9_feed_84 : decode cX9_feed 84 = .ok (.getfield 153, 3) := by decide +kernel
theorem dX9_feed_87 : decode cX9_feed 87 = .ok (.ireturn, 1) := by decide +kernel
theorem dX9_fail_0 : decode cX9_fail 0 = .ok (.aload_n 0, 1) := by decide +kernel
theorem dX9_fail_1 : decode cX9_fail 1 = .ok (.getfield 158, 3) := by decide +kernel
theorem dX9_fail_4 : decode cX9_fail 4 = .ok (.ifCond .eq 22, 3) := by decide +kernel
theorem dX9_fail_7 : decode cX9_fail 7 = .ok (.aload_n 0, 1) := by decide +kernel
theorem dX9_fail_8 : decode cX9_fail 8 = .ok (.getfield 161, 3) := by decide +kernel
theorem dX9_fail_11 : decode cX9_fail 11 = .ok (.aload_n 0, 1) := by decide +kernel
theorem dX9_fail_12 : decode cX9_fail 12 = .ok (.getfield 164, 3) := by decide +kernel
theorem dX9_fail_15 : decode cX9_fail 15 = .ok (.if_icmp .ne 24, 3) := by decide +kernel
theorem dX9_fail_18 : decode cX9_fail 18 = .ok (.iload_n 1, 1) := by decide +kernel
theorem dX9_fail_19 : decode cX9_fail 19 = .ok (.aload_n 0, 1) := by decide +kernel
theorem dX9_fail_20 : decode cX9_fail 20 = .ok (.getfield 158, 3) := by decide +kernel
theorem dX9_fail_23 : decode cX9_fail 23 = .ok (.if_icmp .ge 16, 3) := by decide +kernel
theorem dX9_fail_26 : decode cX9_fail 26 = .ok (.aload_n 0, 1) := by decide +kernel
theorem dX9_fail_27 : decode cX9_fail 27 = .ok (.iload_n 1, 1) := by decide +kernel
theorem dX9_fail_28 : decode cX9_fail 28 = .ok (.putfield 158, 3) := by decide +kernel
theorem dX9_fail_31 : decode cX9_fail 31 = .ok (.aload_n 0, 1) := by decide +kernel
theorem dX9_fail_32 : decode cX9_fail 32 = .ok (.aload_n 0, 1) := by decide +kernel
theorem dX9_fail_33 : decode cX9_fail 33 = .ok (.getfield 161, 3) := by decide +kernel
theorem dX9_fail_36 : decode cX9_fail 36 = .ok (.putfield 164, 3) := by decide +kernel
theorem dX9_fail_39 : decode cX9_fail 39 = .ok (.return_, 1) := by decide +kernel
theorem dX9_byteAt_0 : decode cX9_byteAt 0 = .ok (.iload_n 1, 1) := by decide +kernel
theorem dX9_byteAt_1 : decode cX9_byteAt 1 = .ok (.aload_n 0, 1) := by decide +kernel
theorem dX9_byteAt_2 : decode cX9_byteAt 2 = .ok (.getfield 153, 3) := by decide +kernel
theorem dX9_byteAt_5 : decode cX9_byteAt 5 = .ok (.if_icmp .ge 12, 3) := by decide +kernel
theorem dX9_byteAt_8 : decode cX9_byteAt 8 = .ok (.aload_n 0, 1) := by decide +kernel
theorem dX9_byteAt_9 : decode cX9_byteAt 9 = .ok (.getfield 39, 3) := by decide +kernel
theorem dX9_byteAt_12 : decode cX9_byteAt 12 = .ok (.iload_n 1, 1) := by decide +kernel
theorem dX9_byteAt_13 : decode cX9_byteAt 13 = .ok (.iaload, 1) := by decide +kernel
theorem dX9_byteAt_14 : decode cX9_byteAt 14 = .ok (.goto 4, 3) := by decide +kernel
theorem dX9_byteAt_17 : decode cX9_byteAt 17 = .ok (.iconst 0, 1) := by decide +kernel
theorem dX9_byteAt_18 : decode cX9_byteAt 18 = .ok (.ireturn, 1) := by decide +kernel
theorem dX9_isFigure_0 : decode cX9_isFigure 0 = .ok (.iload_n 0, 1) := by decide +kernel
theorem dX9_isFigure_1 : decode cX9_isFigure 1 = .ok (.bipush 48, 2) := by decide +kernel
theorem dX9_isFigure_3 : decode cX9_isFigure 3 = .ok (.if_icmp .lt 13, 3) := by decide +kernel
theorem dX9_isFigure_6 : decode cX9_isFigure 6 = .ok (.iload_n 0, 1) := by decide +kernel
theorem dX9_isFigure_7 : decode cX9_isFigure 7 = .ok (.bipush 57, 2) := by decide +kernel
theorem dX9_isFigure_9 : decode cX9_isFigure 9 = .ok (.if_icmp .gt 7, 3) := by decide +kernel
theorem dX9_isFigure_12 : decode cX9_isFigure 12 = .ok (.iconst 1, 1) := by decide +kernel
theorem dX9_isFigure_13 : decode cX9_isFigure 13 = .ok (.goto 4, 3) := by decide +kernel
theorem dX9_isFigure_16 : decode cX9_isFigure 16 = .ok (.iconst 0, 1) := by decide +kernel
theorem dX9_isFigure_17 : decode cX9_isFigure 17 = .ok (.ireturn, 1) := by decide +kernel
theorem dX9_next_0 : decode cX9_next 0 = .ok (.aload_n 0, 1) := by decide +kernel
theorem dX9_next_1 : decode cX9_next 1 = .ok (.getfield 167, 3) := by decide +kernel
theorem dX9_next_4 : decode cX9_next 4 = .ok (.bipush 100, 2) := by decide +kernel
theorem dX9_next_6 : decode cX9_next 6 = .ok (.if_icmp .le 9, 3) := by decide +kernel
theorem dX9_next_9 : decode cX9_next 9 = .ok (.aload_n 0, 1) := by decide +kernel
theorem dX9_next_10 : decode cX9_next 10 = .ok (.iconst 5, 1) := by decide +kernel
theorem dX9_next_11 : decode cX9_next 11 = .ok (.invokevirtual 170, 3) := by decide +kernel
theorem dX9_next_14 : decode cX9_next 14 = .ok (.return_, 1) := by decide +kernel
theorem dX9_next_15 : decode cX9_next 15 = .ok (.aload_n 0, 1) := by decide +kernel
theorem dX9_next_16 : decode cX9_next 16 = .ok (.getfield 173, 3) := by decide +kernel
theorem dX9_next_19 : decode cX9_next 19 = .ok (.istore_n 1, 1) := by decide +kernel
theorem dX9_next_20 : decode cX9_next 20 = .ok (.aload_n 0, 1) := by decide +kernel
theorem dX9_next_21 : decode cX9_next 21 = .ok (.iload_n 1, 1) := by decide +kernel
theorem dX9_next_22 : decode cX9_next 22 = .ok (.invokevirtual 176, 3) := by decide +kernel
theorem dX9_next_25 : decode cX9_next 25 = .ok (.bipush 32, 2) := by decide +kernel
theorem dX9_next_27 : decode cX9_next 27 = .ok (.if_icmp .ne 9, 3) := by decide +kernel
theorem dX9_next_30 : decode cX9_next 30 = .ok (.iinc 1 1, 3) := by decide +kernel
theorem dX9_next_33 : decode cX9_next 33 = .ok (.goto (-13), 3) := by decide +kernel
theorem dX9_next_36 : decode cX9_next 36 = .ok (.aload_n 0, 1) := by decide +kernel
theorem dX9_next_37 : decode cX9_next 37 = .ok (.iload_n 1, 1) := by decide +kernel
theorem dX9_next_38 : decode cX9_next 38 = .ok (.putfield 161, 3) := by decide +kernel
theorem dX9_next_41 : decode cX9_next 41 = .ok (.aload_n 0, 1) := by decide +kernel
theorem dX9_next_42 : decode cX9_next 42 = .ok (.iload_n 1, 1) := by decide +kernel
theorem dX9_next_43 : decode cX9_next 43 = .ok (.iconst 1, 1) := by decide +kernel
theorem dX9_next_44 : decode cX9_next 44 = .ok (.iadd, 1) := by decide +kernel
theorem dX9_next_45 : decode cX9_next 45 = .ok (.putfield 173, 3) := by decide +kernel
theorem dX9_next_48 : decode cX9_next 48 = .ok (.aload_n 0, 1) := by decide +kernel
theorem dX9_next_49 : decode cX9_next 49 = .ok (.iconst 0, 1) := by decide +kernel
theorem dX9_next_50 : decode cX9_next 50 = .ok (.putfield 180, 3) := by decide +kernel
theorem dX9_next_53 : decode cX9_next 53 = .ok (.aload_n 0, 1) := by decide +kernel
theorem dX9_next_54 : decode cX9_next 54 = .ok (.iconst 0, 1) := by decide +kernel
theorem dX9_next_55 : decode cX9_next 55 = .ok (.putfield 183, 3) := by decide +kernel
theorem dX9_next_58 : decode cX9_next 58 = .ok (.iload_n 1, 1) := by decide +kernel
theorem dX9_next_59 : decode cX9_next 59 = .ok (.aload_n 0, 1) := by decide +kernel
theorem dX9_next_60 : decode cX9_next 60 = .ok (.getfield 153, 3) := by decide +kernel
theorem dX9_next_63 : decode cX9_next 63 = .ok (.if_icmp .lt 20, 3) := by decide +kernel
theorem dX9_next_66 : decode cX9_next 66 = .ok (.aload_n 0, 1) := by decide +kernel
theorem dX9_next_67 : decode cX9_next 67 = .ok (.aload_n 0, 1) := by decide +kernel
theorem dX9_next_68 : decode cX9_next 68 = .ok (.getfield 153, 3) := by decide +kernel
theorem dX9_next_71 : decode cX9_next 71 = .ok (.putfield 161, 3) := by decide +kernel
theorem dX9_next_74 : decode cX9_next 74 = .ok (.aload_n 0, 1) := by decide +kernel
theorem dX9_next_75 : decode cX9_next 75 = .ok (.aload_n 0, 1) := by decide +kernel
theorem dX9_next_76 : decode cX9_next 76 = .ok (.getfield 153, 3) := by decide +kernel
theorem dX9_next_79 : decode cX9_next 79 = .ok (.putfield 173, 3) := by decide +kernel
theorem dX9_next_82 : decode cX9_next 82 = .ok (.return_, 1) := by decide +kernel
theorem dX9_next_83 : decode cX9_next 83 = .ok (.aload_n 0, 1) := by decide +kernel
theorem dX9_next_84 : decode cX9_next 84 = .ok (.dup, 1) := by decide +kernel
theorem dX9_next_85 : decode cX9_next 85 = .ok (.getfield 167, 3) := by decide +kernel
theorem dX9_next_88 : decode cX9_next 88 = .ok (.iconst 1, 1) := by decide +kernel
theorem dX9_next_89 : decode cX9_next 89 = .ok (.iadd, 1) := by decide +kernel
theorem dX9_next_90 : decode cX9_next 90 = .ok (.putfield 167, 3) := by decide +kernel
theorem dX9_next_93 : decode cX9_next 93 = .ok (.aload_n 0, 1) := by decide +kernel
theorem dX9_next_94 : decode cX9_next 94 = .ok (.getfield 39, 3) := by decide +kernel
theorem dX9_next_97 : decode cX9_next 97 = .ok (.iload_n 1, 1) := by decide +kernel
theorem dX9_next_98 : decode cX9_next 98 = .ok (.iaload, 1) := by decide +kernel
theorem dX9_next_99 : decode cX9_next 99 = .ok (.istore_n 2, 1) := by decide +kernel
theorem dX9_next_100 : decode cX9_next 100 = .ok (.iload_n 2, 1) := by decide +kernel
theorem dX9_next_101 : decode cX9_next 101 = .ok (.bipush 97, 2) := by decide +kernel
theorem dX9_next_103 : decode cX9_next 103 = .ok (.if_icmp .lt 9, 3) := by decide +kernel
theorem dX9_next_106 : decode cX9_next 106 = .ok (.iload_n 2, 1) := by decide +kernel
theorem dX9_next_107 : decode cX9_next 107 = .ok (.bipush 111, 2) := by decide +kernel
theorem dX9_next_109 : decode cX9_next 109 = .ok (.if_icmp .le 9, 3) := by decide +kernel
theorem dX9_next_112 : decode cX9_next 112 = .ok (.iload_n 2, 1) := by decide +kernel
theorem dX9_next_113 : decode cX9_next 113 = .ok (.bipush 122, 2) := by decide +kernel
theorem dX9_next_115 : decode cX9_next 115 = .ok (.if_icmp .ne 29, 3) := by decide +kernel
theorem dX9_next_118 : decode cX9_next 118 = .ok (.aload_n 0, 1) := by decide +kernel
theorem dX9_next_119 : decode cX9_next 119 = .ok (.iconst 1, 1) := by decide +kernel
theorem dX9_next_120 : decode cX9_next 120 = .ok (.putfield 180, 3) := by decide +kernel
theorem dX9_next_123 : decode cX9_next 123 = .ok (.aload_n 0, 1) := by decide +kernel
theorem dX9_next_124 : decode cX9_next 124 = .ok (.iload_n 2, 1) := by decide +kernel
theorem dX9_next_125 : decode cX9_next 125 = .ok (.bipush 122, 2) := by decide +kernel
theorem dX9_next_127 : decode cX9_next 127 = .ok (.if_icmp .ne 7, 3) := by decide +kernel
theorem dX9_next_130 : decode cX9_next 130 = .ok (.iconst 0, 1) := by decide +kernel
theorem dX9_next_131 : decode cX9_next 131 = .ok (.goto 7, 3) := by decide +kernel
theorem dX9_next_134 : decode cX9_next 134 = .ok (.iload_n 2, 1) := by decide +kernel
theorem dX9_next_135 : decode cX9_next 135 = .ok (.bipush 96, 2) := by decide +kernel
theorem dX9_next_137 : decode cX9_next 137 = .ok (.isub, 1) := by decide +kernel
theorem dX9_next_138 : decode cX9_next 138 = .ok (.putfield 183, 3) := by decide +kernel
theorem dX9_next_141 : decode cX9_next 141 = .ok (.goto 109, 3) := by decide +kernel
theorem dX9_next_144 : decode cX9_next 144 = .ok (.iload_n 2, 1) := by decide +kernel
theorem dX9_next_145 : decode cX9_next 145 = .ok (.invokestatic 186, 3) := by decide +kernel
theorem dX9_next_148 : decode cX9_next 148 = .ok (.ifCond .eq 97, 3) := by decide +kernel
theorem dX9_next_151 : decode cX9_next 151 = .ok (.aload_n 0, 1) := by decide +kernel
theorem dX9_next_152 : decode cX9_next 152 = .ok (.iconst 2, 1) := by decide +kernel
theorem dX9_next_153 : decode cX9_next 153 = .ok (.putfield 180, 3) := by decide +kernel
theorem dX9_next_156 : decode cX9_next 156 = .ok (.aload_n 0, 1) := by decide +kernel
theorem dX9_next_157 : decode cX9_next 157 = .ok (.iload_n 1, 1) := by decide +kernel
theorem dX9_next_158 : decode cX9_next 158 = .ok (.invokevirtual 176, 3) := by decide +kernel
theorem dX9_next_161 : decode cX9_next 161 = .ok (.invokestatic 186, 3) := by decide +kernel
theorem dX9_next_164 : decode cX9_next 164 = .ok (.ifCond .eq 48, 3) := by decide +kernel
theorem dX9_next_167 : decode cX9_next 167 = .ok (.aload_n 0, 1) := by decide +kernel
theorem dX9_next_168 : decode cX9_next 168 = .ok (.iload_n 1, 1) := by decide +kernel
theorem dX9_next_169 : decode cX9_next 169 = .ok (.aload_n 0, 1) := by decide +kernel
theorem dX9_next_170 : decode cX9_next 170 = .ok (.getfield 161, 3) := by decide +kernel
theorem dX9_next_173 : decode cX9_next 173 = .ok (.isub, 1) := by decide +kernel
theorem dX9_next_174 : decode cX9_next 174 = .ok (.bipush 7, 2) := by decide +kernel
theorem dX9_next_176 : decode cX9_next 176 = .ok (.if_icmp .ge 23, 3) := by decide +kernel
theorem dX9_next_179 : decode cX9_next 179 = .ok (.bipush 10, 2) := by decide +kernel
theorem dX9_next_181 : decode cX9_next 181 = .ok (.aload_n 0, 1) := by decide +kernel
theorem dX9_next_182 : decode cX9_next 182 = .ok (.getfield 183, 3) := by decide +kernel
theorem dX9_next_185 : decode cX9_next 185 = .ok (.imul, 1) := by decide +kernel
theorem dX9_next_186 : decode cX9_next 186 = .ok (.aload_n 0, 1) := by decide +kernel
theorem dX9_next_187 : decode cX9_next 187 = .ok (.getfield 39, 3) := by decide +kernel
theorem dX9_next_190 : decode cX9_next 190 = .ok (.iload_n 1, 1) := by decide +kernel
theorem dX9_next_191 : decode cX9_next 191 = .ok (.iaload, 1) := by decide +kernel
theorem dX9_next_192 : decode cX9_next 192 = .ok (.iadd, 1) := by decide +kernel
theorem dX9_next_193 : decode cX9_next 193 = .ok (.bipush 48, 2) := by decide +kernel
theorem dX9_next_195 : decode cX9_next 195 = .ok (.isub, 1) := by decide +kernel
theorem dX9_next_196 : decode cX9_next 196 = .ok (.goto 7, 3) := by decide +kernel
theorem dX9_next_199 : decode cX9_next 199 = .ok (.aload_n 0, 1) := by decide +kernel
theorem dX9_next_200 : decode cX9_next 200 = .ok (.getfield 183, 3) := by decide +kernel
theorem dX9_next_203 : decode cX9_next 203 = .ok (.putfield 183, 3) := by decide +kernel
theorem dX9_next_206 : decode cX9_next 206 = .ok (.iinc 1 1, 3) := by decide +kernel
theorem dX9_next_209 : decode cX9_next 209 = .ok (.goto (-53), 3) := by decide +kernel
theorem dX9_next_212 : decode cX9_next 212 = .ok (.aload_n 0, 1) := by decide +kernel
theorem dX9_next_213 : decode cX9_next 213 = .ok (.iload_n 1, 1) := by decide +kernel
theorem dX9_next_214 : decode cX9_next 214 = .ok (.putfield 173, 3) := by decide +kernel
theorem dX9_next_217 : decode cX9_next 217 = .ok (.aload_n 0, 1) := by decide +kernel
theorem dX9_next_218 : decode cX9_next 218 = .ok (.getfield 183, 3) := by decide +kernel
theorem dX9_next_221 : decode cX9_next 221 = .ok (.ldc 189, 2) := by decide +kernel
theorem dX9_next_223 : decode cX9_next 223 = .ok (.if_icmp .gt 14, 3) := by decide +kernel
theorem dX9_next_226 : decode cX9_next 226 = .ok (.iload_n 1, 1) := by decide +kernel
theorem dX9_next_227 : decode cX9_next 227 = .ok (.aload_n 0, 1) := by decide +kernel
theorem dX9_next_228 : decode cX9_next 228 = .ok (.getfield 161, 3) := by decide +kernel
theorem dX9_next_231 : decode cX9_next 231 = .ok (.isub, 1) := by decide +kernel
theorem dX9_next_232 : decode cX9_next 232 = .ok (.bipush 7, 2) := by decide +kernel
theorem dX9_next_234 : decode cX9_next 234 = .ok (.if_icmp .le 16, 3) := by decide +kernel
theorem dX9_next_237 : decode cX9_next 237 = .ok (.aload_n 0, 1) := by decide +kernel
theorem dX9_next_238 : decode cX9_next 238 = .ok (.iconst 1, 1) := by decide +kernel
theorem dX9_next_239 : decode cX9_next 239 = .ok (.invokevirtual 170, 3) := by decide +kernel
theorem dX9_next_242 : decode cX9_next 242 = .ok (.goto 8, 3) := by decide +kernel
theorem dX9_next_245 : decode cX9_next 245 = .ok (.aload_n 0, 1) := by decide +kernel
theorem dX9_next_246 : decode cX9_next 246 = .ok (.iload_n 2, 1) := by decide +kernel
theorem dX9_next_247 : decode cX9_next 247 = .ok (.invokevirtual 190, 3) := by decide +kernel
theorem dX9_next_250 : decode cX9_next 250 = .ok (.return_, 1) := by decide +kernel
theorem dX9_signToken_0 : decode cX9_signToken 0 = .ok (.aload_n 0, 1) := by decide +kernel
theorem dX9_signToken_1 : decode cX9_signToken 1 = .ok (.iconst 3, 1) := by decide +kernel
theorem dX9_signToken_2 : decode cX9_signToken 2 = .ok (.putfield 180, 3) := by decide +kernel
theorem dX9_signToken_5 : decode cX9_signToken 5 = .ok (.aload_n 0, 1) := by decide +kernel
theorem dX9_signToken_6 : decode cX9_signToken 6 = .ok (.iload_n 1, 1) := by decide +kernel
theorem dX9_signToken_7 : decode cX9_signToken 7 = .ok (.putfield 183, 3) := by decide +kernel
theorem dX9_signToken_10 : decode cX9_signToken 10 = .ok (.aload_n 0, 1) := by decide +kernel
theorem dX9_signToken_11 : decode cX9_signToken 11 = .ok (.aload_n 0, 1) := by decide +kernel
theorem dX9_signToken_12 : decode cX9_signToken 12 = .ok (.getfield 161, 3) := by decide +kernel
theorem dX9_signToken_15 : decode cX9_signToken 15 = .ok (.iconst 1, 1) := by decide +kernel
theorem dX9_signToken_16 : decode cX9_signToken 16 = .ok (.iadd, 1) := by decide +kernel
theorem dX9_signToken_17 : decode cX9_signToken 17 = .ok (.invokevirtual 176, 3) := by decide +kernel
theorem dX9_signToken_20 : decode cX9_signToken 20 = .ok (.istore_n 2, 1) := by decide +kernel
theorem dX9_signToken_21 : decode cX9_signToken 21 = .ok (.iload_n 1, 1) := by decide +kernel
theorem dX9_signToken_22 : decode cX9_signToken 22 = .ok (.bipush 60, 2) := by decide +kernel
theorem dX9_signToken_24 : decode cX9_signToken 24 = .ok (.if_icmp .eq 9, 3) := by decide +kernel
theorem dX9_signToken_27 : decode cX9_signToken 27 = .ok (.iload_n 1, 1) := by decide +kernel
theorem dX9_signToken_28 : decode cX9_signToken 28 = .ok (.bipush 62, 2) := by decide +kernel
theorem dX9_signToken_30 : decode cX9_signToken 30 = .ok (.if_icmp .ne 30, 3) := by decide +kernel
theorem dX9_signToken_33 : decode cX9_signToken 33 = .ok (.iload_n 2, 1) := by decide +kernel
theorem dX9_signToken_34 : decode cX9_signToken 34 = .ok (.bipush 61, 2) := by decide +kernel
theorem dX9_signToken_36 : decode cX9_signToken 36 = .ok (.if_icmp .ne 24, 3) := by decide +kernel
theorem dX9_signToken_39 : decode cX9_signToken 39 = .ok (.aload_n 0, 1) := by decide +kernel
theorem dX9_signToken_40 : decode cX9_signToken 40 = .ok (.iload_n 1, 1) := by decide +kernel
theorem dX9_signToken_41 : decode cX9_signToken 41 = .ok (.bipush 100, 2) := by decide +kernel
theorem dX9_signToken_43 : decode cX9_signToken 43 = .ok (.iadd, 1) := by decide +kernel
theorem dX9_signToken_44 : decode cX9_signToken 44 = .ok (.putfield 183, 3) := by decide +kernel
theorem dX9_signToken_47 : decode cX9_signToken 47 = .ok (.aload_n 0, 1) := by decide +kernel
theorem dX9_signToken_48 : decode cX9_signToken 48 = .ok (.dup, 1) := by decide +kernel
theorem dX9_signToken_49 : decode cX9_signToken 49 = .ok (.getfield 173, 3) := by decide +kernel
theorem dX9_signToken_52 : decode cX9_signToken 52 = .ok (.iconst 1, 1) := by decide +kernel
theorem dX9_signToken_53 : decode cX9_signToken 53 = .ok (.iadd, 1) := by decide +kernel
theorem dX9_signToken_54 : decode cX9_signToken 54 = .ok (.putfield 173, 3) := by decide +kernel
theorem dX9_signToken_57 : decode cX9_signToken 57 = .ok (.goto 32, 3) := by decide +kernel
theorem dX9_signToken_60 : decode cX9_signToken 60 = .ok (.iload_n 1, 1) := by decide +kernel
theorem dX9_signToken_61 : decode cX9_signToken 61 = .ok (.bipush 45, 2) := by decide +kernel
theorem dX9_signToken_63 : decode cX9_signToken 63 = .ok (.if_icmp .ne 26, 3) := by decide +kernel
theorem dX9_signToken_66 : decode cX9_signToken 66 = .ok (.iload_n 2, 1) := by decide +kernel
theorem dX9_signToken_67 : decode cX9_signToken 67 = .ok (.bipush 62, 2) := by decide +kernel
theorem dX9_signToken_69 : decode cX9_signToken 69 = .ok (.if_icmp .ne 20, 3) := by decide +kernel
theorem dX9_signToken_72 : decode cX9_signToken 72 = .ok (.aload_n 0, 1) := by decide +kernel
theorem dX9_signToken_73 : decode cX9_signToken 73 = .ok (.sipush 245, 3) := by decide +kernel
theorem dX9_signToken_76 : decode cX9_signToken 76 = .ok (.putfield 183, 3) := by decide +kernel
theorem dX9_signToken_79 : decode cX9_signToken 79 = .ok (.aload_n 0, 1) := by decide +kernel
theorem dX9_signToken_80 : decode cX9_signToken 80 = .ok (.dup, 1) := by decide +kernel
theorem dX9_signToken_81 : decode cX9_signToken 81 = .ok (.getfield 173, 3) := by decide +kernel
theorem dX9_signToken_84 : decode cX9_signToken 84 = .ok (.iconst 1, 1) := by decide +kernel
theorem dX9_signToken_85 : decode cX9_signToken 85 = .ok (.iadd, 1) := by decide +kernel
theorem dX9_signToken_86 : decode cX9_signToken 86 = .ok (.putfield 173, 3) := by decide +kernel
theorem dX9_signToken_89 : decode cX9_signToken 89 = .ok (.iload_n 1, 1) := by decide +kernel
theorem dX9_signToken_90 : decode cX9_signToken 90 = .ok (.bipush 45, 2) := by decide +kernel
theorem dX9_signToken_92 : decode cX9_signToken 92 = .ok (.if_icmp .eq 62, 3) := by decide +kernel
theorem dX9_signToken_95 : decode cX9_signToken 95 = .ok (.iload_n 1, 1) := by decide +kernel
theorem dX9_signToken_96 : decode cX9_signToken 96 = .ok (.bipush 60, 2) := by decide +kernel
theorem dX9_signToken_98 : decode cX9_signToken 98 = .ok (.if_icmp .eq 56, 3) := by decide +kernel
theorem dX9_signToken_101 : decode cX9_signToken 101 = .ok (.iload_n 1, 1) := by decide +kernel
theorem dX9_signToken_102 : decode cX9_signToken 102 = .ok (.bipush 62, 2) := by decide +kernel
theorem dX9_signToken_104 : decode cX9_signToken 104 = .ok (.if_icmp .eq 50, 3) := by decide +kernel
theorem dX9_signToken_107 : decode cX9_signToken 107 = .ok (.iload_n 1, 1) := by decide +kernel
theorem dX9_signToken_108 : decode cX9_signToken 108 = .ok (.bipush 61, 2) := by decide +kernel
theorem dX9_signToken_110 : decode cX9_signToken 110 = .ok (.if_icmp .eq 44, 3) := by decide +kernel
theorem dX9_signToken_113 : decode cX9_signToken 113 = .ok (.iload_n 1, 1) := by decide +kernel
theorem dX9_signToken_114 : decode cX9_signToken 114 = .ok (.bipush 35, 2) := by decide +kernel
theorem dX9_signToken_116 : decode cX9_signToken 116 = .ok (.if_icmp .eq 38, 3) := by decide +kernel
theorem dX9_signToken_119 : decode cX9_signToken 119 = .ok (.iload_n 1, 1) := by decide +kernel
theorem dX9_signToken_120 : decode cX9_signToken 120 = .ok (.bipush 38, 2) := by decide +kernel
theorem dX9_signToken_122 : decode cX9_signToken 122 = .ok (.if_icmp .eq 32, 3) := by decide +kernel
theorem dX9_signToken_125 : decode cX9_signToken 125 = .ok (.iload_n 1, 1) := by decide +kernel
theorem dX9_signToken_126 : decode cX9_signToken 126 = .ok (.bipush 124, 2) := by decide +kernel
theorem dX9_signToken_128 : decode cX9_signToken 128 = .ok (.if_icmp .eq 26, 3) := by decide +kernel
theorem dX9_signToken_131 : decode cX9_signToken 131 = .ok (.iload_n 1, 1) := by decide +kernel
theorem dX9_signToken_132 : decode cX9_signToken 132 = .ok (.bipush 126, 2) := by decide +kernel
theorem dX9_signToken_134 : decode cX9_signToken 134 = .ok (.if_icmp .eq 20, 3) := by decide +kernel
theorem dX9_signToken_137 : decode cX9_signToken 137 = .ok (.iload_n 1, 1) := by decide +kernel
theorem dX9_signToken_138 : decode cX9_signToken 138 = .ok (.bipush 40, 2) := by decide +kernel
theorem dX9_signToken_140 : decode cX9_signToken 140 = .ok (.if_icmp .eq 14, 3) := by decide +kernel
theorem dX9_signToken_143 : decode cX9_signToken 143 = .ok (.iload_n 1, 1) := by decide +kernel
theorem dX9_signToken_144 : decode cX9_signToken 144 = .ok (.bipush 41, 2) := by decide +kernel
theorem dX9_signToken_146 : decode cX9_signToken 146 = .ok (.if_icmp .eq 8, 3) := by decide +kernel
theorem dX9_signToken_149 : decode cX9_signToken 149 = .ok (.aload_n 0, 1) := by decide +kernel
theorem dX9_signToken_150 : decode cX9_signToken 150 = .ok (.iconst 1, 1) := by decide +kernel
theorem dX9_signToken_151 : decode cX9_signToken 151 = .ok (.invokevirtual 170, 3) := by decide +kernel
theorem dX9_signToken_154 : decode cX9_signToken 154 = .ok (.return_, 1) := by decide +kernel
theorem dX9_sign_0 : decode cX9_sign 0 = .ok (.aload_n 0, 1) := by decide +kernel
theorem dX9_sign_1 : decode cX9_sign 1 = .ok (.getfield 180, 3) := by decide +kernel
theorem dX9_sign_4 : decode cX9_sign 4 = .ok (.iconst 3, 1) := by decide +kernel
theorem dX9_sign_5 : decode cX9_sign 5 = .ok (.if_icmp .ne 15, 3) := by decide +kernel
theorem dX9_sign_8 : decode cX9_sign 8 = .ok (.aload_n 0, 1) := by decide +kernel
theorem dX9_sign_9 : decode cX9_sign 9 = .ok (.getfield 183, 3) := by decide +kernel
theorem dX9_sign_12 : decode cX9_sign 12 = .ok (.iload_n 1, 1) := by decide +kernel
theorem dX9_sign_13 : decode cX9_sign 13 = .ok (.if_icmp .ne 7, 3) := by decide +kernel
theorem dX9_sign_16 : decode cX9_sign 16 = .ok (.iconst 1, 1) := by decide +kernel
theorem dX9_sign_17 : decode cX9_sign 17 = .ok (.goto 4, 3) := by decide +kernel
theorem dX9_sign_20 : decode cX9_sign 20 = .ok (.iconst 0, 1) := by decide +kernel
theorem dX9_sign_21 : decode cX9_sign 21 = .ok (.ireturn, 1) := by decide +kernel
theorem dX9_put_0 : decode cX9_put 0 = .ok (.aload_n 0, 1) := by decide +kernel
theorem dX9_put_1 : decode cX9_put 1 = .ok (.getfield 63, 3) := by decide +kernel
theorem dX9_put_4 : decode cX9_put 4 = .ok (.aload_n 0, 1) := by decide +kernel
theorem dX9_put_5 : decode cX9_put 5 = .ok (.getfield 193, 3) := by decide +kernel
theorem dX9_put_8 : decode cX9_put 8 = .ok (.iload_n 1, 1) := by decide +kernel
theorem dX9_put_9 : decode cX9_put 9 = .ok (.iastore, 1) := by decide +kernel
theorem dX9_put_10 : decode cX9_put 10 = .ok (.aload_n 0, 1) := by decide +kernel
theorem dX9_put_11 : decode cX9_put 11 = .ok (.dup, 1) := by decide +kernel
theorem dX9_put_12 : decode cX9_put 12 = .ok (.getfield 193, 3) := by decide +kernel
theorem dX9_put_15 : decode cX9_put 15 = .ok (.iconst 1, 1) := by decide +kernel
theorem dX9_put_16 : decode cX9_put 16 = .ok (.iadd, 1) := by decide +kernel
theorem dX9_put_17 : decode cX9_put 17 = .ok (.putfield 193, 3) := by decide +kernel
theorem dX9_put_20 : decode cX9_put 20 = .ok (.return_, 1) := by decide +kernel
theorem dX9_opened_0 : decode cX9_opened 0 = .ok (.aload_n 0, 1) := by decide +kernel
theorem dX9_opened_1 : decode cX9_opened 1 = .ok (.dup, 1) := by decide +kernel
theorem dX9_opened_2 : decode cX9_opened 2 = .ok (.getfield 196, 3) := by decide +kernel
theorem dX9_opened_5 : decode cX9_opened 5 = .ok (.iconst 1, 1) := by decide +kernel
theorem dX9_opened_6 : decode cX9_opened 6 = .ok (.iadd, 1) := by decide +kernel
theorem dX9_opened_7 : decode cX9_opened 7 = .ok (.putfield 196, 3) := by decide +kernel
theorem dX9_opened_10 : decode cX9_opened 10 = .ok (.aload_n 0, 1) := by decide +kernel
theorem dX9_opened_11 : decode cX9_opened 11 = .ok (.getfield 196, 3) := by decide +kernel
theorem dX9_opened_14 : decode cX9_opened 14 = .ok (.bipush 20, 2) := by decide +kernel
theorem dX9_opened_16 : decode cX9_opened 16 = .ok (.if_icmp .le 8, 3) := by decide +kernel
theorem dX9_opened_19 : decode cX9_opened 19 = .ok (.aload_n 0, 1) := by decide +kernel
theorem dX9_opened_20 : decode cX9_opened 20 = .ok (.iconst 4, 1) := by decide +kernel
theorem dX9_opened_21 : decode cX9_opened 21 = .ok (.invokevirtual 170, 3) := by decide +kernel
theorem dX9_opened_24 : decode cX9_opened 24 = .ok (.return_, 1) := by decide +kernel
theorem dX9_await1_0 : decode cX9_await1 0 = .ok (.aload_n 0, 1) := by decide +kernel
theorem dX9_await1_1 : decode cX9_await1 1 = .ok (.getfield 66, 3) := by decide +kernel
theorem dX9_await1_4 : decode cX9_await1 4 = .ok (.aload_n 0, 1) := by decide +kernel
theorem dX9_await1_5 : decode cX9_await1 5 = .ok (.getfield 199, 3) := by decide +kernel
theorem dX9_await1_8 : decode cX9_await1 8 = .ok (.iload_n 1, 1) := by decide +kernel
theorem dX9_await1_9 : decode cX9_await1 9 = .ok (.iastore, 1) := by decide +kernel
theorem dX9_await1_10 : decode cX9_await1 10 = .ok (.aload_n 0, 1) := by decide +kernel
theorem dX9_await1_11 : decode cX9_await1 11 = .ok (.dup, 1) := by decide +kernel
theorem dX9_await1_12 : decode cX9_await1 12 = .ok (.getfield 199, 3) := by decide +kernel
theorem dX9_await1_15 : decode cX9_await1 15 = .ok (.iconst 1, 1) := by decide +kernel
theorem dX9_await1_16 : decode cX9_await1 16 = .ok (.iadd, 1) := by decide +kernel
theorem dX9_await1_17 : decode cX9_await1 17 = .ok (.putfield 199, 3) := by decide +kernel
theorem dX9_await1_20 : decode cX9_await1 20 = .ok (.return_, 1) := by decide +kernel
theorem dX9_atMost_0 : decode cX9_atMost 0 = .ok (.iload_n 1, 1) := by decide +kernel
theorem dX9_atMost_1 : decode cX9_atMost 1 = .ok (.iload_n 2, 1) := by decide +kernel
theorem dX9_atMost_2 : decode cX9_atMost 2 = .ok (.if_icmp .ne 19, 3) := by decide +kernel
theorem dX9_atMost_5 : decode cX9_atMost 5 = .ok (.aload_n 0, 1) := by decide +kernel
theorem dX9_atMost_6 : decode cX9_atMost 6 = .ok (.iload_n 3, 1) := by decide +kernel
theorem dX9_atMost_7 : decode cX9_atMost 7 = .ok (.ifCond .lt 8, 3) := by decide +kernel
theorem dX9_atMost_10 : decode cX9_atMost 10 = .ok (.bipush 21, 2) := by decide +kernel
theorem dX9_atMost_12 : decode cX9_atMost 12 = .ok (.goto 5, 3) := by decide +kernel
theorem dX9_atMost_15 : decode cX9_atMost 15 = .ok (.bipush 20, 2) := by decide +kernel
theorem dX9_atMost_17 : decode cX9_atMost 17 = .ok (.invokevirtual 202, 3) := by decide +kernel
theorem dX9_atMost_20 : decode cX9_atMost 20 = .ok (.return_, 1) := by decide +kernel
theorem dX9_atMost_21 : decode cX9_atMost 21 = .ok (.iload_n 1, 1) := by decide +kernel
theorem dX9_atMost_22 : decode cX9_atMost 22 = .ok (.iload_n 2, 1) := by decide +kernel
theorem dX9_atMost_23 : decode cX9_atMost 23 = .ok (.if_icmp .le 7, 3) := by decide +kernel
theorem dX9_atMost_26 : decode cX9_atMost 26 = .ok (.iconst 1, 1) := by decide +kernel
theorem dX9_atMost_27 : decode cX9_atMost 27 = .ok (.goto 4, 3) := by decide +kernel
theorem dX9_atMost_30 : decode cX9_atMost 30 = .ok (.iconst 0, 1) := by decide +kernel
theorem dX9_atMost_31 : decode cX9_atMost 31 = .ok (.istore 4, 2) := by decide +kernel
theorem dX9_atMost_33 : decode cX9_atMost 33 = .ok (.iload 4, 2) := by decide +kernel
theorem dX9_atMost_35 : decode cX9_atMost 35 = .ok (.ifCond .eq 7, 3) := by decide +kernel
theorem dX9_atMost_38 : decode cX9_atMost 38 = .ok (.iload_n 2, 1) := by decide +kernel
theorem dX9_atMost_39 : decode cX9_atMost 39 = .ok (.goto 4, 3) := by decide +kernel
theorem dX9_atMost_42 : decode cX9_atMost 42 = .ok (.iload_n 1, 1) := by decide +kernel
theorem dX9_atMost_43 : decode cX9_atMost 43 = .ok (.istore 5, 2) := by decide +kernel
theorem dX9_atMost_45 : decode cX9_atMost 45 = .ok (.iload 4, 2) := by decide +kernel
theorem dX9_atMost_47 : decode cX9_atMost 47 = .ok (.ifCond .eq 7, 3) := by decide +kernel
theorem dX9_atMost_50 : decode cX9_atMost 50 = .ok (.iload_n 1, 1) := by decide +kernel
theorem dX9_atMost_51 : decode cX9_atMost 51 = .ok (.goto 4, 3) := by decide +kernel
theorem dX9_atMost_54 : decode cX9_atMost 54 = .ok (.iload_n 2, 1) := by decide +kernel
theorem dX9_atMost_55 : decode cX9_atMost 55 = .ok (.istore 6, 2) := by decide +kernel
theorem dX9_atMost_57 : decode cX9_atMost 57 = .ok (.iload 4, 2) := by decide +kernel
theorem dX9_atMost_59 : decode cX9_atMost 59 = .ok (.ifCond .eq 10, 3) := by decide +kernel
theorem dX9_atMost_62 : decode cX9_atMost 62 = .ok (.iload_n 3, 1) := by decide +kernel
theorem dX9_atMost_63 : decode cX9_atMost 63 = .ok (.ineg, 1) := by decide +kernel
theorem dX9_atMost_64 : decode cX9_atMost 64 = .ok (.iconst 1, 1) := by decide +kernel
theorem dX9_atMost_65 : decode cX9_atMost 65 = .ok (.isub, 1) := by decide +kernel
theorem dX9_atMost_66 : decode cX9_atMost 66 = .ok (.goto 4, 3) := by decide +kernel
theorem dX9_atMost_69 : decode cX9_atMost 69 = .ok (.iload_n 3, 1) := by decide +kernel
theorem dX9_atMost_70 : decode cX9_atMost 70 = .ok (.istore 7, 2) := by decide +kernel
theorem dX9_atMost_72 : decode cX9_atMost 72 = .ok (.iconst 0, 1) := by decide +kernel
theorem dX9_atMost_73 : decode cX9_atMost 73 = .ok (.istore 8, 2) := by decide +kernel
theorem dX9_atMost_75 : decode cX9_atMost 75 = .ok (.iload 8, 2) := by decide +kernel
theorem dX9_atMost_77 : decode cX9_atMost 77 = .ok (.aload_n 0, 1) := by decide +kernel
theorem dX9_atMost_78 : decode cX9_atMost 78 = .ok (.getfield 205, 3) := by decide +kernel
theorem dX9_atMost_81 : decode cX9_atMost 81 = .ok (.if_icmp .ge 45, 3) := by decide +kernel
theorem dX9_atMost_84 : decode cX9_atMost 84 = .ok (.aload_n 0, 1) := by decide +kernel
theorem dX9_atMost_85 : decode cX9_atMost 85 = .ok (.getfield 54, 3) := by decide +kernel
theorem dX9_atMost_88 : decode cX9_atMost 88 = .ok (.iload 8, 2) := by decide +kernel
theorem dX9_atMost_90 : decode cX9_atMost 90 = .ok (.iaload, 1) := by decide +kernel
theorem dX9_atMost_91 : decode cX9_atMost 91 = .ok (.iload 5, 2) := by decide +kernel
theorem dX9_atMost_93 : decode cX9_atMost 93 = .ok (.if_icmp .ne 27, 3) := by decide +kernel
theorem dX9_atMost_96 : decode cX9_atMost 96 = .ok (.aload_n 0, 1) := by decide +kernel
theorem dX9_atMost_97 : decode cX9_atMost 97 = .ok (.getfield 57, 3) := by decide +kernel
theorem dX9_atMost_100 : decode cX9_atMost 100 = .ok (.iload 8, 2) := by decide +kernel
theorem dX9_atMost_102 : decode cX9_atMost 102 = .ok (.iaload, 1) := by decide +kernel
theorem dX9_atMost_103 : decode cX9_atMost 103 = .ok (.iload 6, 2) := by decide +kernel
theorem dX9_atMost_105 : decode cX9_atMost 105 = .ok (.if_icmp .ne 15, 3) := by decide +kernel
theorem dX9_atMost_108 : decode cX9_atMost 108 = .ok (.aload_n 0, 1) := by decide +kernel
theorem dX9_atMost_109 : decode cX9_atMost 109 = .ok (.getfield 60, 3) := by decide +kernel
theorem dX9_atMost_112 : decode cX9_atMost 112 = .ok (.iload 8, 2) := by decide +kernel
theorem dX9_atMost_114 : decode cX9_atMost 114 = .ok (.iaload, 1) := by decide +kernel
theorem dX9_atMost_115 : decode cX9_atMost 115 = .ok (.iload 7, 2) := by decide +kernel
theorem dX9_atMost_117 : decode cX9_atMost 117 = .ok (.if_icmp .eq 9, 3) := by decide +kernel
theorem dX9_atMost_120 : decode cX9_atMost 120 = .ok (.iinc 8 1, 3) := by decide +kernel
theorem dX9_atMost_123 : decode cX9_atMost 123 = .ok (.goto (-48), 3) := by decide +kernel
theorem dX9_atMost_126 : decode cX9_atMost 126 = .ok (.iload 8, 2) := by decide +kernel
theorem dX9_atMost_128 : decode cX9_atMost 128 = .ok (.aload_n 0, 1) := by decide +kernel
theorem dX9_atMost_129 : decode cX9_atMost 129 = .ok (.getfield 205, 3) := by decide +kernel
theorem dX9_atMost_132 : decode cX9_atMost 132 = .ok (.if_icmp .ne 53, 3) := by decide +kernel
theorem dX9_atMost_135 : decode cX9_atMost 135 = .ok (.iload 8, 2) := by decide +kernel
theorem dX9_atMost_137 : decode cX9_atMost 137 = .ok (.bipush 10, 2) := by decide +kernel
theorem dX9_atMost_139 : decode cX9_atMost 139 = .ok (.if_icmp .lt 9, 3) := by decide +kernel
theorem dX9_atMost_142 : decode cX9_atMost 142 = .ok (.aload_n 0, 1) := by decide +kernel
theorem dX9_atMost_143 : decode cX9_atMost 143 = .ok (.iconst 3, 1) := by decide +kernel
theorem dX9_atMost_144 : decode cX9_atMost 144 = .ok (.invokevirtual 170, 3) := by decide +kernel
theorem dX9_atMost_147 : decode cX9_atMost 147 = .ok (.return_, 1) := by decide +kernel
theorem dX9_atMost_148 : decode cX9_atMost 148 = .ok (.aload_n 0, 1) := by decide +kernel
theorem dX9_atMost_149 : decode cX9_atMost 149 = .ok (.getfield 54, 3) := by decide +kernel
theorem dX9_atMost_152 : decode cX9_atMost 152 = .ok (.iload 8, 2) := by decide +kernel
theorem dX9_atMost_154 : decode cX9_atMost 154 = .ok (.iload 5, 2) := by decide +kernel
theorem dX9_atMost_156 : decode cX9_atMost 156 = .ok (.iastore, 1) := by decide +kernel
theorem dX9_atMost_157 : decode cX9_atMost 157 = .ok (.aload_n 0, 1) := by decide +kernel
theorem dX9_atMost_158 : decode cX9_atMost 158 = .ok (.getfield 57, 3) := by decide +kernel
theorem dX9_atMost_161 : decode cX9_atMost 161 = .ok (.iload 8, 2) := by decide +kernel
theorem dX9_atMost_163 : decode cX9_atMost 163 = .ok (.iload 6, 2) := by decide +kernel
theorem dX9_atMost_165 : decode cX9_atMost 165 = .ok (.iastore, 1) := by decide +kernel
theorem dX9_atMost_166 : decode cX9_atMost 166 = .ok (.aload_n 0, 1) := by decide +kernel
theorem dX9_atMost_167 : decode cX9_atMost 167 = .ok (.getfield 60, 3) := by decide +kernel
theorem dX9_atMost_170 : decode cX9_atMost 170 = .ok (.iload 8, 2) := by decide +kernel
theorem dX9_atMost_172 : decode cX9_atMost 172 = .ok (.iload 7, 2) := by decide +kernel
theorem dX9_atMost_174 : decode cX9_atMost 174 = .ok (.iastore, 1) := by decide +kernel
theorem dX9_atMost_175 : decode cX9_atMost 175 = .ok (.aload_n 0, 1) := by decide +kernel
theorem dX9_atMost_176 : decode cX9_atMost 176 = .ok (.dup, 1) := by decide +kernel
theorem dX9_atMost_177 : decode cX9_atMost 177 = .ok (.getfield 205, 3) := by decide +kernel
theorem dX9_atMost_180 : decode cX9_atMost 180 = .ok (.iconst 1, 1) := by decide +kernel
theorem dX9_atMost_181 : decode cX9_atMost 181 = .ok (.iadd, 1) := by decide +kernel
theorem dX9_atMost_182 : decode cX9_atMost 182 = .ok (.putfield 205, 3) := by decide +kernel
theorem dX9_atMost_185 : decode cX9_atMost 185 = .ok (.aload_n 0, 1) := by decide +kernel
theorem dX9_atMost_186 : decode cX9_atMost 186 = .ok (.iload 8, 2) := by decide +kernel
theorem dX9_atMost_188 : decode cX9_atMost 188 = .ok (.invokevirtual 202, 3) := by decide +kernel
theorem dX9_atMost_191 : decode cX9_atMost 191 = .ok (.iload 4, 2) := by decide +kernel
theorem dX9_atMost_193 : decode cX9_atMost 193 = .ok (.ifCond .eq 9, 3) := by decide +kernel
theorem dX9_atMost_196 : decode cX9_atMost 196 = .ok (.aload_n 0, 1) := by decide +kernel
theorem dX9_atMost_197 : decode cX9_atMost 197 = .ok (.bipush 22, 2) := by decide +kernel
theorem dX9_atMost_199 : decode cX9_atMost 199 = .ok (.invokevirtual 202, 3) := by decide +kernel
theorem dX9_atMost_202 : decode cX9_atMost 202 = .ok (.return_, 1) := by decide +kernel
theorem dX9_comparison_0 : decode cX9_comparison 0 = .ok (.iload_n 1, 1) := by decide +kernel
theorem dX9_comparison_1 : decode cX9_comparison 1 = .ok (.bipush 60, 2) := by decide +kernel
theorem dX9_comparison_3 : decode cX9_comparison 3 = .ok (.if_icmp .eq 10, 3) := by decide +kernel
theorem dX9_comparison_6 : decode cX9_comparison 6 = .ok (.iload_n 1, 1) := by decide +kernel
theorem dX9_comparison_7 : decode cX9_comparison 7 = .ok (.sipush 162, 3) := by decide +kernel
theorem dX9_comparison_10 : decode cX9_comparison 10 = .ok (.if_icmp .ne 7, 3) := by decide +kernel
theorem dX9_comparison_13 : decode cX9_comparison 13 = .ok (.iconst 1, 1) := by decide +kernel
theorem dX9_comparison_14 : decode cX9_comparison 14 = .ok (.goto 4, 3) := by decide +kernel
theorem dX9_comparison_17 : decode cX9_comparison 17 = .ok (.iconst 0, 1) := by decide +kernel
theorem dX9_comparison_18 : decode cX9_comparison 18 = .ok (.istore 5, 2) := by decide +kernel
theorem dX9_comparison_20 : decode cX9_comparison 20 = .ok (.iload_n 1, 1) := by decide +kernel
theorem dX9_comparison_21 : decode cX9_comparison 21 = .ok (.bipush 61, 2) := by decide +kernel
theorem dX9_comparison_23 : decode cX9_comparison 23 = .ok (.if_icmp .eq 9, 3) := by decide +kernel
theorem dX9_comparison_26 : decode cX9_comparison 26 = .ok (.iload_n 1, 1) := by decide +kernel
theorem dX9_comparison_27 : decode cX9_comparison 27 = .ok (.bipush 35, 2) := by decide +kernel
theorem dX9_comparison_29 : decode cX9_comparison 29 = .ok (.if_icmp .ne 36, 3) := by decide +kernel
theorem dX9_comparison_32 : decode cX9_comparison 32 = .ok (.aload_n 0, 1) := by decide +kernel
theorem dX9_comparison_33 : decode cX9_comparison 33 = .ok (.iload_n 2, 1) := by decide +kernel
theorem dX9_comparison_34 : decode cX9_comparison 34 = .ok (.iload_n 3, 1) := by decide +kernel
theorem dX9_comparison_35 : decode cX9_comparison 35 = .ok (.iload 4, 2) := by decide +kernel
theorem dX9_comparison_37 : decode cX9_comparison 37 = .ok (.invokevirtual 208, 3) := by decide +kernel
theorem dX9_comparison_40 : decode cX9_comparison 40 = .ok (.aload_n 0, 1) := by decide +kernel
theorem dX9_comparison_41 : decode cX9_comparison 41 = .ok (.iload_n 2, 1) := by decide +kernel
theorem dX9_comparison_42 : decode cX9_comparison 42 = .ok (.iload_n 3, 1) := by decide +kernel
theorem dX9_comparison_43 : decode cX9_comparison 43 = .ok (.iload 4, 2) := by decide +kernel
theorem dX9_comparison_45 : decode cX9_comparison 45 = .ok (.iconst 1, 1) := by decide +kernel
theorem dX9_comparison_46 : decode cX9_comparison 46 = .ok (.isub, 1) := by decide +kernel
theorem dX9_comparison_47 : decode cX9_comparison 47 = .ok (.invokevirtual 208, 3) := by decide +kernel
theorem dX9_comparison_50 : decode cX9_comparison 50 = .ok (.aload_n 0, 1) := by decide +kernel
theorem dX9_comparison_51 : decode cX9_comparison 51 = .ok (.bipush 22, 2) := by decide +kernel
theorem dX9_comparison_53 : decode cX9_comparison 53 = .ok (.invokevirtual 202, 3) := by decide +kernel
theorem dX9_comparison_56 : decode cX9_comparison 56 = .ok (.aload_n 0, 1) := by decide +kernel
theorem dX9_comparison_57 : decode cX9_comparison 57 = .ok (.bipush 23, 2) := by decide +kernel
theorem dX9_comparison_59 : decode cX9_comparison 59 = .ok (.invokevirtual 202, 3) := by decide +kernel
theorem dX9_comparison_62 : decode cX9_comparison 62 = .ok (.goto 23, 3) := by decide +kernel
theorem dX9_comparison_65 : decode cX9_comparison 65 = .ok (.aload_n 0, 1) := by decide +kernel
theorem dX9_comparison_66 : decode cX9_comparison 66 = .ok (.iload_n 2, 1) := by decide +kernel
theorem dX9_comparison_67 : decode cX9_comparison 67 = .ok (.iload_n 3, 1) := by decide +kernel
theorem dX9_comparison_68 : decode cX9_comparison 68 = .ok (.iload 5, 2) := by decide +kernel
theorem dX9_comparison_70 : decode cX9_comparison 70 = .ok (.ifCond .eq 10, 3) := by decide +kernel
theorem dX9_comparison_73 : decode cX9_comparison 73 = .ok (.iload 4, 2) := by decide +kernel
theorem dX9_comparison_75 : decode cX9_comparison 75 = .ok (.iconst 1, 1) := by decide +kernel
theorem dX9_comparison_76 : decode cX9_comparison 76 = .ok (.isub, 1) := by decide +kernel
theorem dX9_comparison_77 : decode cX9_comparison 77 = .ok (.goto 5, 3) := by decide +kernel
theorem dX9_comparison_80 : decode cX9_comparison 80 = .ok (.iload 4, 2) := by decide +kernel
theorem dX9_comparison_82 : decode cX9_comparison 82 = .ok (.invokevirtual 208, 3) := by decide +kernel
theorem dX9_comparison_85 : decode cX9_comparison 85 = .ok (.iload_n 1, 1) := by decide +kernel
theorem dX9_comparison_86 : decode cX9_comparison 86 = .ok (.bipush 35, 2) := by decide +kernel
theorem dX9_comparison_88 : decode cX9_comparison 88 = .ok (.if_icmp .eq 16, 3) := by decide +kernel
theorem dX9_comparison_91 : decode cX9_comparison 91 = .ok (.iload_n 1, 1) := by decide +kernel
theorem dX9_comparison_92 : decode cX9_comparison 92 = .ok (.sipush 162, 3) := by decide +kernel
theorem dX9_comparison_95 : decode cX9_comparison 95 = .ok (.if_icmp .eq 9, 3) := by decide +kernel
theorem dX9_comparison_98 : decode cX9_comparison 98 = .ok (.iload_n 1, 1) := by decide +kernel
theorem dX9_comparison_99 : decode cX9_comparison 99 = .ok (.bipush 62, 2) := by decide +kernel
theorem dX9_comparison_101 : decode cX9_comparison 101 = .ok (.if_icmp .ne 9, 3) := by decide +kernel
theorem dX9_comparison_104 : decode cX9_comparison 104 = .ok (.aload_n 0, 1) := by decide +kernel
theorem dX9_comparison_105 : decode cX9_comparison 105 = .ok (.bipush 22, 2) := by decide +kernel
theorem dX9_comparison_107 : decode cX9_comparison 107 = .ok (.invokevirtual 202, 3) := by decide +kernel
theorem dX9_comparison_110 : decode cX9_comparison 110 = .ok (.return_, 1) := by decide +kernel
theorem dX9_difference_0 : decode cX9_difference 0 = .ok (.aload_n 0, 1) := by decide +kernel
theorem dX9_difference_1 : decode cX9_difference 1 = .ok (.getfield 183, 3) := by decide +kernel
theorem dX9_difference_4 : decode cX9_difference 4 = .ok (.istore_n 1, 1) := by decide +kernel
theorem dX9_difference_5 : decode cX9_difference 5 = .ok (.iconst 0, 1) := by decide +kernel
theorem dX9_difference_6 : decode cX9_difference 6 = .ok (.istore_n 2, 1) := by decide +kernel
theorem dX9_difference_7 : decode cX9_difference 7 = .ok (.aload_n 0, 1) := by decide +kernel
theorem dX9_difference_8 : decode cX9_difference 8 = .ok (.invokevirtual 212, 3) := by decide +kernel
theorem dX9_difference_11 : decode cX9_difference 11 = .ok (.aload_n 0, 1) := by decide +kernel
theorem dX9_difference_12 : decode cX9_difference 12 = .ok (.getfield 158, 3) := by decide +kernel
theorem dX9_difference_15 : decode cX9_difference 15 = .ok (.ifCond .ne 52, 3) := by decide +kernel
theorem dX9_difference_18 : decode cX9_difference 18 = .ok (.aload_n 0, 1) := by decide +kernel
theorem dX9_difference_19 : decode cX9_difference 19 = .ok (.bipush 45, 2) := by decide +kernel
theorem dX9_difference_21 : decode cX9_difference 21 = .ok (.invokevirtual 215, 3) := by decide +kernel
theorem dX9_difference_24 : decode cX9_difference 24 = .ok (.ifCond .eq 43, 3) := by decide +kernel
theorem dX9_difference_27 : decode cX9_difference 27 = .ok (.aload_n 0, 1) := by decide +kernel
theorem dX9_difference_28 : decode cX9_difference 28 = .ok (.invokevirtual 212, 3) := by decide +kernel
theorem dX9_difference_31 : decode cX9_difference 31 = .ok (.aload_n 0, 1) := by decide +kernel
theorem dX9_difference_32 : decode cX9_difference 32 = .ok (.getfield 158, 3) := by decide +kernel
theorem dX9_difference_35 : decode cX9_difference 35 = .ok (.ifCond .ne 16, 3) := by decide +kernel
theorem dX9_difference_38 : decode cX9_difference 38 = .ok (.aload_n 0, 1) := by decide +kernel
theorem dX9_difference_39 : decode cX9_difference 39 = .ok (.getfield 180, 3) := by decide +kernel
theorem dX9_difference_42 : decode cX9_difference 42 = .ok (.iconst 1, 1) := by decide +kernel
theorem dX9_difference_43 : decode cX9_difference 43 = .ok (.if_icmp .eq 8, 3) := by decide +kernel
theorem dX9_difference_46 : decode cX9_difference 46 = .ok (.aload_n 0, 1) := by decide +kernel
theorem dX9_difference_47 : decode cX9_difference 47 = .ok (.iconst 2, 1) := by decide +kernel
theorem dX9_difference_48 : decode cX9_difference 48 = .ok (.invokevirtual 170, 3) := by decide +kernel
theorem dX9_difference_51 : decode cX9_difference 51 = .ok (.aload_n 0, 1) := by decide +kernel
theorem dX9_difference_52 : decode cX9_difference 52 = .ok (.getfield 183, 3) := by decide +kernel
theorem dX9_difference_55 : decode cX9_difference 55 = .ok (.istore_n 2, 1) := by decide +kernel
theorem dX9_difference_56 : decode cX9_difference 56 = .ok (.aload_n 0, 1) := by decide +kernel
theorem dX9_difference_57 : decode cX9_difference 57 = .ok (.getfield 158, 3) := by decide +kernel
theorem dX9_difference_60 : decode cX9_difference 60 = .ok (.ifCond .ne 7, 3) := by decide +kernel
theorem dX9_difference_63 : decode cX9_difference 63 = .ok (.aload_n 0, 1) := by decide +kernel
theorem dX9_difference_64 : decode cX9_difference 64 = .ok (.invokevirtual 212, 3) := by decide +kernel
theorem dX9_difference_67 : decode cX9_difference 67 = .ok (.aload_n 0, 1) := by decide +kernel
theorem dX9_difference_68 : decode cX9_difference 68 = .ok (.getfield 180, 3) := by decide +kernel
theorem dX9_difference_71 : decode cX9_difference 71 = .ok (.iconst 3, 1) := by decide +kernel
theorem dX9_difference_72 : decode cX9_difference 72 = .ok (.if_icmp .ne 10, 3) := by decide +kernel
theorem dX9_difference_75 : decode cX9_difference 75 = .ok (.aload_n 0, 1) := by decide +kernel
theorem dX9_difference_76 : decode cX9_difference 76 = .ok (.getfield 183, 3) := by decide +kernel
theorem dX9_difference_79 : decode cX9_difference 79 = .ok (.goto 4, 3) := by decide +kernel
theorem dX9_difference_82 : decode cX9_difference 82 = .ok (.iconst 0, 1) := by decide +kernel
theorem dX9_difference_83 : decode cX9_difference 83 = .ok (.istore_n 3, 1) := by decide +kernel
theorem dX9_difference_84 : decode cX9_difference 84 = .ok (.iload_n 3, 1) := by decide +kernel
theorem dX9_difference_85 : decode cX9_difference 85 = .ok (.bipush 60, 2) := by decide +kernel
theorem dX9_difference_87 : decode cX9_difference 87 = .ok (.if_icmp .eq 35, 3) := by decide +kernel
theorem dX9_difference_90 : decode cX9_difference 90 = .ok (.iload_n 3, 1) := by decide +kernel
theorem dX9_difference_91 : decode cX9_difference 91 = .ok (.sipush 160, 3) := by decide +kernel
theorem dX9_difference_94 : decode cX9_difference 94 = .ok (.if_icmp .eq 28, 3) := by decide +kernel
theorem dX9_difference_97 : decode cX9_difference 97 = .ok (.iload_n 3, 1) := by decide +kernel
theorem dX9_difference_98 : decode cX9_difference 98 = .ok (.bipush 62, 2) := by decide +kernel
theorem dX9_difference_100 : decode cX9_difference 100 = .ok (.if_icmp .eq 22, 3) := by decide +kernel
theorem dX9_difference_103 : decode cX9_difference 103 = .ok (.iload_n 3, 1) := by decide +kernel
theorem dX9_difference_104 : decode cX9_difference 104 = .ok (.sipush 162, 3) := by decide +kernel
theorem dX9_difference_107 : decode cX9_difference 107 = .ok (.if_icmp .eq 15, 3) := by decide +kernel
theorem dX9_difference_110 : decode cX9_difference 110 = .ok (.iload_n 3, 1) := by decide +kernel
theorem dX9_difference_111 : decode cX9_difference 111 = .ok (.bipush 61, 2) := by decide +kernel
theorem dX9_difference_113 : decode cX9_difference 113 = .ok (.if_icmp .eq 9, 3) := by decide +kernel
theorem dX9_difference_116 : decode cX9_difference 116 = .ok (.iload_n 3, 1) := by decide +kernel
theorem dX9_difference_117 : decode cX9_difference 117 = .ok (.bipush 35, 2) := by decide +kernel
theorem dX9_difference_119 : decode cX9_difference 119 = .ok (.if_icmp .ne 7, 3) := by decide +kernel
theorem dX9_difference_122 : decode cX9_difference 122 = .ok (.iconst 1, 1) := by decide +kernel
theorem dX9_difference_123 : decode cX9_difference 123 = .ok (.goto 4, 3) := by decide +kernel
theorem dX9_difference_126 : decode cX9_difference 126 = .ok (.iconst 0, 1) := by decide +kernel
theorem dX9_difference_127 : decode cX9_difference 127 = .ok (.istore 4, 2) := by decide +kernel
theorem dX9_difference_129 : decode cX9_difference 129 = .ok (.aload_n 0, 1) := by decide +kernel
theorem dX9_difference_130 : decode cX9_difference 130 = .ok (.getfield 158, 3) := by decide +kernel
theorem dX9_difference_133 : decode cX9_difference 133 = .ok (.ifCond .ne 13, 3) := by decide +kernel
theorem dX9_difference_136 : decode cX9_difference 136 = .ok (.iload 4, 2) := by decide +kernel
theorem dX9_difference_138 : decode cX9_difference 138 = .ok (.ifCond .ne 8, 3) := by decide +kernel
theorem dX9_difference_141 : decode cX9_difference 141 = .ok (.aload_n 0, 1) := by decide +kernel
theorem dX9_difference_142 : decode cX9_difference 142 = .ok (.iconst 2, 1) := by decide +kernel
theorem dX9_difference_143 : decode cX9_difference 143 = .ok (.invokevirtual 170, 3) := by decide +kernel
theorem dX9_difference_146 : decode cX9_difference 146 = .ok (.aload_n 0, 1) := by decide +kernel
theorem dX9_difference_147 : decode cX9_difference 147 = .ok (.getfield 158, 3) := by decide +kernel
theorem dX9_difference_150 : decode cX9_difference 150 = .ok (.ifCond .le 4, 3) := by decide +kernel
theorem dX9_difference_153 : decode cX9_difference 153 = .ok (.return_, 1) := by decide +kernel
theorem dX9_difference_154 : decode cX9_difference 154 = .ok (.aload_n 0, 1) := by decide +kernel
theorem dX9_difference_155 : decode cX9_difference 155 = .ok (.invokevirtual 212, 3) := by decide +kernel
theorem dX9_difference_158 : decode cX9_difference 158 = .ok (.aload_n 0, 1) := by decide +kernel
theorem dX9_difference_159 : decode cX9_difference 159 = .ok (.getfield 158, 3) := by decide +kernel
theorem dX9_difference_162 : decode cX9_difference 162 = .ok (.ifCond .ne 16, 3) := by decide +kernel
theorem dX9_difference_165 : decode cX9_difference 165 = .ok (.aload_n 0, 1) := by decide +kernel
theorem dX9_difference_166 : decode cX9_difference 166 = .ok (.bipush 45, 2) := by decide +kernel
theorem dX9_difference_168 : decode cX9_difference 168 = .ok (.invokevirtual 215, 3) := by decide +kernel
theorem dX9_difference_171 : decode cX9_difference 171 = .ok (.ifCond .eq 7, 3) := by decide +kernel
theorem dX9_difference_174 : decode cX9_difference 174 = .ok (.iconst 1, 1) := by decide +kernel
theorem dX9_difference_175 : decode cX9_difference 175 = .ok (.goto 4, 3) := by decide +kernel
theorem dX9_difference_178 : decode cX9_difference 178 = .ok (.iconst 0, 1) := by decide +kernel
theorem dX9_difference_179 : decode cX9_difference 179 = .ok (.istore 5, 2) := by decide +kernel
theorem dX9_difference_181 : decode cX9_difference 181 = .ok (.iload 5, 2) := by decide +kernel
theorem dX9_difference_183 : decode cX9_difference 183 = .ok (.ifCond .eq 7, 3) := by decide +kernel
theorem dX9_difference_186 : decode cX9_difference 186 = .ok (.aload_n 0, 1) := by decide +kernel
theorem dX9_difference_187 : decode cX9_difference 187 = .ok (.invokevirtual 212, 3) := by decide +kernel
theorem dX9_difference_190 : decode cX9_difference 190 = .ok (.aload_n 0, 1) := by decide +kernel
theorem dX9_difference_191 : decode cX9_difference 191 = .ok (.getfield 158, 3) := by decide +kernel
theorem dX9_difference_194 : decode cX9_difference 194 = .ok (.ifCond .ne 16, 3) := by decide +kernel
theorem dX9_difference_197 : decode cX9_difference 197 = .ok (.aload_n 0, 1) := by decide +kernel
theorem dX9_difference_198 : decode cX9_difference 198 = .ok (.getfield 180, 3) := by decide +kernel
theorem dX9_difference_201 : decode cX9_difference 201 = .ok (.iconst 2, 1) := by decide +kernel
theorem dX9_difference_202 : decode cX9_difference 202 = .ok (.if_icmp .eq 8, 3) := by decide +kernel
theorem dX9_difference_205 : decode cX9_difference 205 = .ok (.aload_n 0, 1) := by decide +kernel
theorem dX9_difference_206 : decode cX9_difference 206 = .ok (.iconst 2, 1) := by decide +kernel
theorem dX9_difference_207 : decode cX9_difference 207 = .ok (.invokevirtual 170, 3) := by decide +kernel
theorem dX9_difference_210 : decode cX9_difference 210 = .ok (.aload_n 0, 1) := by decide +kernel
theorem dX9_difference_211 : decode cX9_difference 211 = .ok (.getfield 158, 3) := by decide +kernel
theorem dX9_difference_214 : decode cX9_difference 214 = .ok (.ifCond .le 4, 3) := by decide +kernel
theorem dX9_difference_217 : decode cX9_difference 217 = .ok (.return_, 1) := by decide +kernel
theorem dX9_difference_218 : decode cX9_difference 218 = .ok (.aload_n 0, 1) := by decide +kernel
theorem dX9_difference_219 : decode cX9_difference 219 = .ok (.iload_n 3, 1) := by decide +kernel
theorem dX9_difference_220 : decode cX9_difference 220 = .ok (.iload_n 1, 1) := by decide +kernel
theorem dX9_difference_221 : decode cX9_difference 221 = .ok (.iload_n 2, 1) := by decide +kernel
theorem dX9_difference_222 : decode cX9_difference 222 = .ok (.iload 5, 2) := by decide +kernel
theorem dX9_difference_224 : decode cX9_difference 224 = .ok (.ifCond .eq 11, 3) := by decide +kernel
theorem dX9_difference_227 : decode cX9_difference 227 = .ok (.aload_n 0, 1) := by decide +kernel
theorem dX9_difference_228 : decode cX9_difference 228 = .ok (.getfield 183, 3) := by decide +kernel
theorem dX9_difference_231 : decode cX9_difference 231 = .ok (.ineg, 1) := by decide +kernel
theorem dX9_difference_232 : decode cX9_difference 232 = .ok (.goto 7, 3) := by decide +kernel
theorem dX9_difference_235 : decode cX9_difference 235 = .ok (.aload_n 0, 1) := by decide +kernel
theorem dX9_difference_236 : decode cX9_difference 236 = .ok (.getfield 183, 3) := by decide +kernel
theorem dX9_difference_239 : decode cX9_difference 239 = .ok (.invokevirtual 218, 3) := by decide +kernel
theorem dX9_difference_242 : decode cX9_difference 242 = .ok (.aload_n 0, 1) := by decide +kernel
theorem dX9_difference_243 : decode cX9_difference 243 = .ok (.getfield 158, 3) := by decide +kernel
theorem dX9_difference_246 : decode cX9_difference 246 = .ok (.ifCond .ne 7, 3) := by decide +kernel
theorem dX9_difference_249 : decode cX9_difference 249 = .ok (.aload_n 0, 1) := by decide +kernel
theorem dX9_difference_250 : decode cX9_difference 250 = .ok (.invokevirtual 212, 3) := by decide +kernel
theorem dX9_difference_253 : decode cX9_difference 253 = .ok (.return_, 1) := by decide +kernel
theorem dX9_done_0 : decode cX9_done 0 = .ok (.aload_n 0, 1) := by decide +kernel
theorem dX9_done_1 : decode cX9_done 1 = .ok (.dup, 1) := by decide +kernel
theorem dX9_done_2 : decode cX9_done 2 = .ok (.getfield 199, 3) := by decide +kernel
theorem dX9_done_5 : decode cX9_done 5 = .ok (.iconst 1, 1) := by decide +kernel
theorem dX9_done_6 : decode cX9_done 6 = .ok (.isub, 1) := by decide +kernel
theorem dX9_done_7 : decode cX9_done 7 = .ok (.putfield 199, 3) := by decide +kernel
theorem dX9_done_10 : decode cX9_done 10 = .ok (.aload_n 0, 1) := by decide +kernel
theorem dX9_done_11 : decode cX9_done 11 = .ok (.getfield 66, 3) := by decide +kernel
theorem dX9_done_14 : decode cX9_done 14 = .ok (.aload_n 0, 1) := by decide +kernel
theorem dX9_done_15 : decode cX9_done 15 = .ok (.getfield 199, 3) := by decide +kernel
theorem dX9_done_18 : decode cX9_done 18 = .ok (.iaload, 1) := by decide +kernel
theorem dX9_done_19 : decode cX9_done 19 = .ok (.istore_n 1, 1) := by decide +kernel
theorem dX9_done_20 : decode cX9_done 20 = .ok (.aload_n 0, 1) := by decide +kernel
theorem dX9_done_21 : decode cX9_done 21 = .ok (.dup, 1) := by decide +kernel
theorem dX9_done_22 : decode cX9_done 22 = .ok (.getfield 196, 3) := by decide +kernel
theorem dX9_done_25 : decode cX9_done 25 = .ok (.iload_n 1, 1) := by decide +kernel
theorem dX9_done_26 : decode cX9_done 26 = .ok (.iconst 2, 1) := by decide +kernel
theorem dX9_done_27 : decode cX9_done 27 = .ok (.if_icmp .eq 8, 3) := by decide +kernel
theorem dX9_done_30 : decode cX9_done 30 = .ok (.iload_n 1, 1) := by decide +kernel
theorem dX9_done_31 : decode cX9_done 31 = .ok (.iconst 5, 1) := by decide +kernel
theorem dX9_done_32 : decode cX9_done 32 = .ok (.if_icmp .ne 7, 3) := by decide +kernel
theorem dX9_done_35 : decode cX9_done 35 = .ok (.iconst 1, 1) := by decide +kernel
theorem dX9_done_36 : decode cX9_done 36 = .ok (.goto 4, 3) := by decide +kernel
theorem dX9_done_39 : decode cX9_done 39 = .ok (.iconst 0, 1) := by decide +kernel
theorem dX9_done_40 : decode cX9_done 40 = .ok (.isub, 1) := by decide +kernel
theorem dX9_done_41 : decode cX9_done 41 = .ok (.putfield 196, 3) := by decide +kernel
theorem dX9_done_44 : decode cX9_done 44 = .ok (.aload_n 0, 1) := by decide +kernel
theorem dX9_done_45 : decode cX9_done 45 = .ok (.iload_n 1, 1) := by decide +kernel
theorem dX9_done_46 : decode cX9_done 46 = .ok (.iconst 2, 1) := by decide +kernel
theorem dX9_done_47 : decode cX9_done 47 = .ok (.if_icmp .ne 8, 3) := by decide +kernel
theorem dX9_done_50 : decode cX9_done 50 = .ok (.bipush 22, 2) := by decide +kernel
theorem dX9_done_52 : decode cX9_done 52 = .ok (.goto 25, 3) := by decide +kernel
theorem dX9_done_55 : decode cX9_done 55 = .ok (.iload_n 1, 1) := by decide +kernel
theorem dX9_done_56 : decode cX9_done 56 = .ok (.iconst 3, 1) := by decide +kernel
theorem dX9_done_57 : decode cX9_done 57 = .ok (.if_icmp .ne 8, 3) := by decide +kernel
theorem dX9_done_60 : decode cX9_done 60 = .ok (.bipush 23, 2) := by decide +kernel
theorem dX9_done_62 : decode cX9_done 62 = .ok (.goto 15, 3) := by decide +kernel
theorem dX9_done_65 : decode cX9_done 65 = .ok (.iload_n 1, 1) := by decide +kernel
theorem dX9_done_66 : decode cX9_done 66 = .ok (.iconst 4, 1) := by decide +kernel
theorem dX9_done_67 : decode cX9_done 67 = .ok (.if_icmp .ne 8, 3) := by decide +kernel
theorem dX9_done_70 : decode cX9_done 70 = .ok (.bipush 24, 2) := by decide +kernel
theorem dX9_done_72 : decode cX9_done 72 = .ok (.goto 5, 3) := by decide +kernel
theorem dX9_done_75 : decode cX9_done 75 = .ok (.bipush 25, 2) := by decide +kernel
theorem dX9_done_77 : decode cX9_done 77 = .ok (.invokevirtual 202, 3) := by decide +kernel
theorem dX9_done_80 : decode cX9_done 80 = .ok (.return_, 1) := by decide +kernel
theorem dX9_doneTo_0 : decode cX9_doneTo 0 = .ok (.aload_n 0, 1) := by decide +kernel
theorem dX9_doneTo_1 : decode cX9_doneTo 1 = .ok (.getfield 199, 3) := by decide +kernel
theorem dX9_doneTo_4 : decode cX9_doneTo 4 = .ok (.ifCond .le 40, 3) := by decide +kernel
theorem dX9_doneTo_7 : decode cX9_doneTo 7 = .ok (.aload_n 0, 1) := by decide +kernel
theorem dX9_doneTo_8 : decode cX9_doneTo 8 = .ok (.getfield 66, 3) := by decide +kernel
theorem dX9_doneTo_11 : decode cX9_doneTo 11 = .ok (.aload_n 0, 1) := by decide +kernel
theorem dX9_doneTo_12 : decode cX9_doneTo 12 = .ok (.getfield 199, 3) := by decide +kernel
theorem dX9_doneTo_15 : decode cX9_doneTo 15 = .ok (.iconst 1, 1) := by decide +kernel
theorem dX9_doneTo_16 : decode cX9_doneTo 16 = .ok (.isub, 1) := by decide +kernel
theorem dX9_doneTo_17 : decode cX9_doneTo 17 = .ok (.iaload, 1) := by decide +kernel
theorem dX9_doneTo_18 : decode cX9_doneTo 18 = .ok (.iconst 1, 1) := by decide +kernel
theorem dX9_doneTo_19 : decode cX9_doneTo 19 = .ok (.if_icmp .le 25, 3) := by decide +kernel
theorem dX9_doneTo_22 : decode cX9_doneTo 22 = .ok (.aload_n 0, 1) := by decide +kernel
theorem dX9_doneTo_23 : decode cX9_doneTo 23 = .ok (.getfield 66, 3) := by decide +kernel
theorem dX9_doneTo_26 : decode cX9_doneTo 26 = .ok (.aload_n 0, 1) := by decide +kernel
theorem dX9_doneTo_27 : decode cX9_doneTo 27 = .ok (.getfield 199, 3) := by decide +kernel
theorem dX9_doneTo_30 : decode cX9_doneTo 30 = .ok (.iconst 1, 1) := by decide +kernel
theorem dX9_doneTo_31 : decode cX9_doneTo 31 = .ok (.isub, 1) := by decide +kernel
theorem dX9_doneTo_32 : decode cX9_doneTo 32 = .ok (.iaload, 1) := by decide +kernel
theorem dX9_doneTo_33 : decode cX9_doneTo 33 = .ok (.iload_n 1, 1) := by decide +kernel
theorem dX9_doneTo_34 : decode cX9_doneTo 34 = .ok (.if_icmp .gt 10, 3) := by decide +kernel
theorem dX9_doneTo_37 : decode cX9_doneTo 37 = .ok (.aload_n 0, 1) := by decide +kernel
theorem dX9_doneTo_38 : decode cX9_doneTo 38 = .ok (.invokevirtual 222, 3) := by decide +kernel
theorem dX9_doneTo_41 : decode cX9_doneTo 41 = .ok (.goto (-41), 3) := by decide +kernel
theorem dX9_doneTo_44 : decode cX9_doneTo 44 = .ok (.return_, 1) := by decide +kernel
theorem dX9_unit_0 : decode cX9_unit 0 = .ok (.aload_n 0, 1) := by decide +kernel
theorem dX9_unit_1 : decode cX9_unit 1 = .ok (.bipush 126, 2) := by decide +kernel
theorem dX9_unit_3 : decode cX9_unit 3 = .ok (.invokevirtual 215, 3) := by decide +kernel
theorem dX9_unit_6 : decode cX9_unit 6 = .ok (.ifCond .ne 12, 3) := by decide +kernel
theorem dX9_unit_9 : decode cX9_unit 9 = .ok (.aload_n 0, 1) := by decide +kernel
theorem dX9_unit_10 : decode cX9_unit 10 = .ok (.bipush 40, 2) := by decide +kernel
theorem dX9_unit_12 : decode cX9_unit 12 = .ok (.invokevirtual 215, 3) := by decide +kernel
theorem dX9_unit_15 : decode cX9_unit 15 = .ok (.ifCond .eq 38, 3) := by decide +kernel
theorem dX9_unit_18 : decode cX9_unit 18 = .ok (.aload_n 0, 1) := by decide +kernel
theorem dX9_unit_19 : decode cX9_unit 19 = .ok (.invokevirtual 225, 3) := by decide +kernel
theorem dX9_unit_22 : decode cX9_unit 22 = .ok (.aload_n 0, 1) := by decide +kernel
theorem dX9_unit_23 : decode cX9_unit 23 = .ok (.aload_n 0, 1) := by decide +kernel
theorem dX9_unit_24 : decode cX9_unit 24 = .ok (.bipush 126, 2) := by decide +kernel
theorem dX9_unit_26 : decode cX9_unit 26 = .ok (.invokevirtual 215, 3) := by decide +kernel
theorem dX9_unit_29 : decode cX9_unit 29 = .ok (.ifCond .eq 7, 3) := by decide +kernel
theorem dX9_unit_32 : decode cX9_unit 32 = .ok (.iconst 2, 1) := by decide +kernel
theorem dX9_unit_33 : decode cX9_unit 33 = .ok (.goto 4, 3) := by decide +kernel
theorem dX9_unit_36 : decode cX9_unit 36 = .ok (.iconst 1, 1) := by decide +kernel
theorem dX9_unit_37 : decode cX9_unit 37 = .ok (.invokevirtual 228, 3) := by decide +kernel
theorem dX9_unit_40 : decode cX9_unit 40 = .ok (.aload_n 0, 1) := by decide +kernel
theorem dX9_unit_41 : decode cX9_unit 41 = .ok (.getfield 158, 3) := by decide +kernel
theorem dX9_unit_44 : decode cX9_unit 44 = .ok (.ifCond .ne 7, 3) := by decide +kernel
theorem dX9_unit_47 : decode cX9_unit 47 = .ok (.aload_n 0, 1) := by decide +kernel
theorem dX9_unit_48 : decode cX9_unit 48 = .ok (.invokevirtual 212, 3) := by decide +kernel
theorem dX9_unit_51 : decode cX9_unit 51 = .ok (.iconst 0, 1) := by decide +kernel
theorem dX9_unit_52 : decode cX9_unit 52 = .ok (.ireturn, 1) := by decide +kernel
theorem dX9_unit_53 : decode cX9_unit 53 = .ok (.aload_n 0, 1) := by decide +kernel
theorem dX9_unit_54 : decode cX9_unit 54 = .ok (.getfield 180, 3) := by decide +kernel
theorem dX9_unit_57 : decode cX9_unit 57 = .ok (.iconst 1, 1) := by decide +kernel
theorem dX9_unit_58 : decode cX9_unit 58 = .ok (.if_icmp .ne 16, 3) := by decide +kernel
theorem dX9_unit_61 : decode cX9_unit 61 = .ok (.aload_n 0, 1) := by decide +kernel
theorem dX9_unit_62 : decode cX9_unit 62 = .ok (.getfield 158, 3) := by decide +kernel
theorem dX9_unit_65 : decode cX9_unit 65 = .ok (.ifCond .ne 7, 3) := by decide +kernel
theorem dX9_unit_68 : decode cX9_unit 68 = .ok (.aload_n 0, 1) := by decide +kernel
theorem dX9_unit_69 : decode cX9_unit 69 = .ok (.invokevirtual 231, 3) := by decide +kernel
theorem dX9_unit_72 : decode cX9_unit 72 = .ok (.iconst 1, 1) := by decide +kernel
theorem dX9_unit_73 : decode cX9_unit 73 = .ok (.ireturn, 1) := by decide +kernel
theorem dX9_unit_74 : decode cX9_unit 74 = .ok (.aload_n 0, 1) := by decide +kernel
theorem dX9_unit_75 : decode cX9_unit 75 = .ok (.iconst 2, 1) := by decide +kernel
theorem dX9_unit_76 : decode cX9_unit 76 = .ok (.invokevirtual 170, 3) := by decide +kernel
theorem dX9_unit_79 : decode cX9_unit 79 = .ok (.iconst 1, 1) := by decide +kernel
theorem dX9_unit_80 : decode cX9_unit 80 = .ok (.ireturn, 1) := by decide +kernel
theorem dX9_behindUnit_0 : decode cX9_behindUnit 0 = .ok (.iconst 1, 1) := by decide +kernel
theorem dX9_behindUnit_1 : decode cX9_behindUnit 1 = .ok (.istore_n 1, 1) := by decide +kernel
theorem dX9_behindUnit_2 : decode cX9_behindUnit 2 = .ok (.iload_n 1, 1) := by decide +kernel
theorem dX9_behindUnit_3 : decode cX9_behindUnit 3 = .ok (.ifCond .eq 202, 3) := by decide +kernel
theorem dX9_behindUnit_6 : decode cX9_behindUnit 6 = .ok (.aload_n 0, 1) := by decide +kernel
theorem dX9_behindUnit_7 : decode cX9_behindUnit 7 = .ok (.getfield 158, 3) := by decide +kernel
theorem dX9_behindUnit_10 : decode cX9_behindUnit 10 = .ok (.ifCond .ne 195, 3) := by decide +kernel
theorem dX9_behindUnit_13 : decode cX9_behindUnit 13 = .ok (.aload_n 0, 1) := by decide +kernel
theorem dX9_behindUnit_14 : decode cX9_behindUnit 14 = .ok (.iconst 2, 1) := by decide +kernel
theorem dX9_behindUnit_15 : decode cX9_behindUnit 15 = .ok (.invokevirtual 234, 3) := by decide +kernel
theorem dX9_behindUnit_18 : decode cX9_behindUnit 18 = .ok (.aload_n 0, 1) := by decide +kernel
theorem dX9_behindUnit_19 : decode cX9_behindUnit 19 = .ok (.getfield 180, 3) := by decide +kernel
theorem dX9_behindUnit_22 : decode cX9_behindUnit 22 = .ok (.iconst 3, 1) := by decide +kernel
theorem dX9_behindUnit_23 : decode cX9_behindUnit 23 = .ok (.if_icmp .ne 10, 3) := by decide +kernel
theorem dX9_behindUnit_26 : decode cX9_behindUnit 26 = .ok (.aload_n 0, 1) := by decide +kernel
theorem dX9_behindUnit_27 : decode cX9_behindUnit 27 = .ok (.getfield 183, 3) := by decide +kernel
theorem dX9_behindUnit_30 : decode cX9_behindUnit 30 = .ok (.goto 4, 3) := by decide +kernel
theorem dX9_behindUnit_33 : decode cX9_behindUnit 33 = .ok (.iconst 0, 1) := by decide +kernel
theorem dX9_behindUnit_34 : decode cX9_behindUnit 34 = .ok (.istore_n 2, 1) := by decide +kernel
theorem dX9_behindUnit_35 : decode cX9_behindUnit 35 = .ok (.iload_n 2, 1) := by decide +kernel
theorem dX9_behindUnit_36 : decode cX9_behindUnit 36 = .ok (.bipush 38, 2) := by decide +kernel
theorem dX9_behindUnit_38 : decode cX9_behindUnit 38 = .ok (.if_icmp .eq 16, 3) := by decide +kernel
theorem dX9_behindUnit_41 : decode cX9_behindUnit 41 = .ok (.iload_n 2, 1) := by decide +kernel
theorem dX9_behindUnit_42 : decode cX9_behindUnit 42 = .ok (.bipush 124, 2) := by decide +kernel
theorem dX9_behindUnit_44 : decode cX9_behindUnit 44 = .ok (.if_icmp .eq 10, 3) := by decide +kernel
theorem dX9_behindUnit_47 : decode cX9_behindUnit 47 = .ok (.iload_n 2, 1) := by decide +kernel
theorem dX9_behindUnit_48 : decode cX9_behindUnit 48 = .ok (.sipush 245, 3) := by decide +kernel
theorem dX9_behindUnit_51 : decode cX9_behindUnit 51 = .ok (.if_icmp .ne 80, 3) := by decide +kernel
theorem dX9_behindUnit_54 : decode cX9_behindUnit 54 = .ok (.aload_n 0, 1) := by decide +kernel
theorem dX9_behindUnit_55 : decode cX9_behindUnit 55 = .ok (.iload_n 2, 1) := by decide +kernel
theorem dX9_behindUnit_56 : decode cX9_behindUnit 56 = .ok (.bipush 38, 2) := by decide +kernel
theorem dX9_behindUnit_58 : decode cX9_behindUnit 58 = .ok (.if_icmp .ne 7, 3) := by decide +kernel
theorem dX9_behindUnit_61 : decode cX9_behindUnit 61 = .ok (.iconst 3, 1) := by decide +kernel
theorem dX9_behindUnit_62 : decode cX9_behindUnit 62 = .ok (.goto 14, 3) := by decide +kernel
theorem dX9_behindUnit_65 : decode cX9_behindUnit 65 = .ok (.iload_n 2, 1) := by decide +kernel
theorem dX9_behindUnit_66 : decode cX9_behindUnit 66 = .ok (.bipush 124, 2) := by decide +kernel
theorem dX9_behindUnit_68 : decode cX9_behindUnit 68 = .ok (.if_icmp .ne 7, 3) := by decide +kernel
theorem dX9_behindUnit_71 : decode cX9_behindUnit 71 = .ok (.iconst 4, 1) := by decide +kernel
theorem dX9_behindUnit_72 : decode cX9_behindUnit 72 = .ok (.goto 4, 3) := by decide +kernel
theorem dX9_behindUnit_75 : decode cX9_behindUnit 75 = .ok (.iconst 4, 1) := by decide +kernel
theorem dX9_behindUnit_76 : decode cX9_behindUnit 76 = .ok (.invokevirtual 234, 3) := by decide +kernel
theorem dX9_behindUnit_79 : decode cX9_behindUnit 79 = .ok (.iload_n 2, 1) := by decide +kernel
theorem dX9_behindUnit_80 : decode cX9_behindUnit 80 = .ok (.sipush 245, 3) := by decide +kernel
theorem dX9_behindUnit_83 : decode cX9_behindUnit 83 = .ok (.if_icmp .ne 7, 3) := by decide +kernel
theorem dX9_behindUnit_86 : decode cX9_behindUnit 86 = .ok (.aload_n 0, 1) := by decide +kernel
theorem dX9_behindUnit_87 : decode cX9_behindUnit 87 = .ok (.invokevirtual 225, 3) := by decide +kernel
theorem dX9_behindUnit_90 : decode cX9_behindUnit 90 = .ok (.aload_n 0, 1) := by decide +kernel
theorem dX9_behindUnit_91 : decode cX9_behindUnit 91 = .ok (.iload_n 2, 1) := by decide +kernel
theorem dX9_behindUnit_92 : decode cX9_behindUnit 92 = .ok (.bipush 38, 2) := by decide +kernel
theorem dX9_behindUnit_94 : decode cX9_behindUnit 94 = .ok (.if_icmp .ne 7, 3) := by decide +kernel
theorem dX9_behindUnit_97 : decode cX9_behindUnit 97 = .ok (.iconst 3, 1) := by decide +kernel
theorem dX9_behindUnit_98 : decode cX9_behindUnit 98 = .ok (.goto 14, 3) := by decide +kernel
theorem dX9_behindUnit_101 : decode cX9_behindUnit 101 = .ok (.iload_n 2, 1) := by decide +kernel
theorem dX9_behindUnit_102 : decode cX9_behindUnit 102 = .ok (.bipush 124, 2) := by decide +kernel
theorem dX9_behindUnit_104 : decode cX9_behindUnit 104 = .ok (.if_icmp .ne 7, 3) := by decide +kernel
theorem dX9_behindUnit_107 : decode cX9_behindUnit 107 = .ok (.iconst 4, 1) := by decide +kernel
theorem dX9_behindUnit_108 : decode cX9_behindUnit 108 = .ok (.goto 4, 3) := by decide +kernel
theorem dX9_behindUnit_111 : decode cX9_behindUnit 111 = .ok (.iconst 5, 1) := by decide +kernel
theorem dX9_behindUnit_112 : decode cX9_behindUnit 112 = .ok (.invokevirtual 228, 3) := by decide +kernel
theorem dX9_behindUnit_115 : decode cX9_behindUnit 115 = .ok (.aload_n 0, 1) := by decide +kernel
theorem dX9_behindUnit_116 : decode cX9_behindUnit 116 = .ok (.getfield 158, 3) := by decide +kernel
theorem dX9_behindUnit_119 : decode cX9_behindUnit 119 = .ok (.ifCond .ne 7, 3) := by decide +kernel
theorem dX9_behindUnit_122 : decode cX9_behindUnit 122 = .ok (.aload_n 0, 1) := by decide +kernel
theorem dX9_behindUnit_123 : decode cX9_behindUnit 123 = .ok (.invokevirtual 212, 3) := by decide +kernel
theorem dX9_behindUnit_126 : decode cX9_behindUnit 126 = .ok (.iconst 0, 1) := by decide +kernel
theorem dX9_behindUnit_127 : decode cX9_behindUnit 127 = .ok (.istore_n 1, 1) := by decide +kernel
theorem dX9_behindUnit_128 : decode cX9_behindUnit 128 = .ok (.goto 74, 3) := by decide +kernel
theorem dX9_behindUnit_131 : decode cX9_behindUnit 131 = .ok (.aload_n 0, 1) := by decide +kernel
theorem dX9_behindUnit_132 : decode cX9_behindUnit 132 = .ok (.iconst 5, 1) := by decide +kernel
theorem dX9_behindUnit_133 : decode cX9_behindUnit 133 = .ok (.invokevirtual 234, 3) := by decide +kernel
theorem dX9_behindUnit_136 : decode cX9_behindUnit 136 = .ok (.iload_n 2, 1) := by decide +kernel
theorem dX9_behindUnit_137 : decode cX9_behindUnit 137 = .ok (.bipush 41, 2) := by decide +kernel
theorem dX9_behindUnit_139 : decode cX9_behindUnit 139 = .ok (.if_icmp .ne 37, 3) := by decide +kernel
theorem dX9_behindUnit_142 : decode cX9_behindUnit 142 = .ok (.aload_n 0, 1) := by decide +kernel
theorem dX9_behindUnit_143 : decode cX9_behindUnit 143 = .ok (.getfield 199, 3) := by decide +kernel
theorem dX9_behindUnit_146 : decode cX9_behindUnit 146 = .ok (.ifCond .le 30, 3) := by decide +kernel
theorem dX9_behindUnit_149 : decode cX9_behindUnit 149 = .ok (.aload_n 0, 1) := by decide +kernel
theorem dX9_behindUnit_150 : decode cX9_behindUnit 150 = .ok (.dup, 1) := by decide +kernel
theorem dX9_behindUnit_151 : decode cX9_behindUnit 151 = .ok (.getfield 199, 3) := by decide +kernel
theorem dX9_behindUnit_154 : decode cX9_behindUnit 154 = .ok (.iconst 1, 1) := by decide +kernel
theorem dX9_behindUnit_155 : decode cX9_behindUnit 155 = .ok (.isub, 1) := by decide +kernel
theorem dX9_behindUnit_156 : decode cX9_behindUnit 156 = .ok (.putfield 199, 3) := by decide +kernel
theorem dX9_behindUnit_159 : decode cX9_behindUnit 159 = .ok (.aload_n 0, 1) := by decide +kernel
theorem dX9_behindUnit_160 : decode cX9_behindUnit 160 = .ok (.dup, 1) := by decide +kernel
theorem dX9_behindUnit_161 : decode cX9_behindUnit 161 = .ok (.getfield 196, 3) := by decide +kernel
theorem dX9_behindUnit_164 : decode cX9_behindUnit 164 = .ok (.iconst 1, 1) := by decide +kernel
theorem dX9_behindUnit_165 : decode cX9_behindUnit 165 = .ok (.isub, 1) := by decide +kernel
theorem dX9_behindUnit_166 : decode cX9_behindUnit 166 = .ok (.putfield 196, 3) := by decide +kernel
theorem dX9_behindUnit_169 : decode cX9_behindUnit 169 = .ok (.aload_n 0, 1) := by decide +kernel
theorem dX9_behindUnit_170 : decode cX9_behindUnit 170 = .ok (.invokevirtual 212, 3) := by decide +kernel
theorem dX9_behindUnit_173 : decode cX9_behindUnit 173 = .ok (.goto 29, 3) := by decide +kernel
theorem dX9_behindUnit_176 : decode cX9_behindUnit 176 = .ok (.aload_n 0, 1) := by decide +kernel
theorem dX9_behindUnit_177 : decode cX9_behindUnit 177 = .ok (.getfield 180, 3) := by decide +kernel
theorem dX9_behindUnit_180 : decode cX9_behindUnit 180 = .ok (.ifCond .ne 10, 3) := by decide +kernel
theorem dX9_behindUnit_183 : decode cX9_behindUnit 183 = .ok (.aload_n 0, 1) := by decide +kernel
theorem dX9_behindUnit_184 : decode cX9_behindUnit 184 = .ok (.getfield 199, 3) := by decide +kernel
theorem dX9_behindUnit_187 : decode cX9_behindUnit 187 = .ok (.ifCond .le 8, 3) := by decide +kernel
theorem dX9_behindUnit_190 : decode cX9_behindUnit 190 = .ok (.aload_n 0, 1) := by decide +kernel
theorem dX9_behindUnit_191 : decode cX9_behindUnit 191 = .ok (.iconst 2, 1) := by decide +kernel
theorem dX9_behindUnit_192 : decode cX9_behindUnit 192 = .ok (.invokevirtual 170, 3) := by decide +kernel
theorem dX9_behindUnit_195 : decode cX9_behindUnit 195 = .ok (.iconst 0, 1) := by decide +kernel
theorem dX9_behindUnit_196 : decode cX9_behindUnit 196 = .ok (.istore_n 1, 1) := by decide +kernel
theorem dX9_behindUnit_197 : decode cX9_behindUnit 197 = .ok (.aload_n 0, 1) := by decide +kernel
theorem dX9_behindUnit_198 : decode cX9_behindUnit 198 = .ok (.iconst 1, 1) := by decide +kernel
theorem dX9_behindUnit_199 : decode cX9_behindUnit 199 = .ok (.putfield 237, 3) := by decide +kernel
theorem dX9_behindUnit_202 : decode cX9_behindUnit 202 = .ok (.goto (-200), 3) := by decide +kernel
theorem dX9_behindUnit_205 : decode cX9_behindUnit 205 = .ok (.return_, 1) := by decide +kernel
theorem dX9_read_0 : decode cX9_read 0 = .ok (.aload_n 0, 1) := by decide +kernel
theorem dX9_read_1 : decode cX9_read 1 = .ok (.iconst 0, 1) := by decide +kernel
theorem dX9_read_2 : decode cX9_read 2 = .ok (.putfield 91, 3) := by decide +kernel
theorem dX9_read_5 : decode cX9_read 5 = .ok (.aload_n 0, 1) := by decide +kernel
theorem dX9_read_6 : decode cX9_read 6 = .ok (.iconst 0, 1) := by decide +kernel
theorem dX9_read_7 : decode cX9_read 7 = .ok (.putfield 158, 3) := by decide +kernel
theorem dX9_read_10 : decode cX9_read 10 = .ok (.aload_n 0, 1) := by decide +kernel
theorem dX9_read_11 : decode cX9_read 11 = .ok (.iconst 0, 1) := by decide +kernel
theorem dX9_read_12 : decode cX9_read 12 = .ok (.putfield 167, 3) := by decide +kernel
theorem dX9_read_15 : decode cX9_read 15 = .ok (.aload_n 0, 1) := by decide +kernel
theorem dX9_read_16 : decode cX9_read 16 = .ok (.iconst 0, 1) := by decide +kernel
theorem dX9_read_17 : decode cX9_read 17 = .ok (.putfield 173, 3) := by decide +kernel
theorem dX9_read_20 : decode cX9_read 20 = .ok (.aload_n 0, 1) := by decide +kernel
theorem dX9_read_21 : decode cX9_read 21 = .ok (.iconst 0, 1) := by decide +kernel
theorem dX9_read_22 : decode cX9_read 22 = .ok (.putfield 205, 3) := by decide +kernel
theorem dX9_read_25 : decode cX9_read 25 = .ok (.aload_n 0, 1) := by decide +kernel
theorem dX9_read_26 : decode cX9_read 26 = .ok (.iconst 0, 1) := by decide +kernel
theorem dX9_read_27 : decode cX9_read 27 = .ok (.putfield 193, 3) := by decide +kernel
theorem dX9_read_30 : decode cX9_read 30 = .ok (.aload_n 0, 1) := by decide +kernel
theorem dX9_read_31 : decode cX9_read 31 = .ok (.iconst 0, 1) := by decide +kernel
theorem dX9_read_32 : decode cX9_read 32 = .ok (.putfield 199, 3) := by decide +kernel
theorem dX9_read_35 : decode cX9_read 35 = .ok (.aload_n 0, 1) := by decide +kernel
theorem dX9_read_36 : decode cX9_read 36 = .ok (.iconst 0, 1) := by decide +kernel
theorem dX9_read_37 : decode cX9_read 37 = .ok (.putfield 196, 3) := by decide +kernel
theorem dX9_read_40 : decode cX9_read 40 = .ok (.aload_n 0, 1) := by decide +kernel
theorem dX9_read_41 : decode cX9_read 41 = .ok (.iconst 0, 1) := by decide +kernel
theorem dX9_read_42 : decode cX9_read 42 = .ok (.putfield 237, 3) := by decide +kernel
theorem dX9_read_45 : decode cX9_read 45 = .ok (.aload_n 0, 1) := by decide +kernel
theorem dX9_read_46 : decode cX9_read 46 = .ok (.invokevirtual 212, 3) := by decide +kernel
theorem dX9_read_49 : decode cX9_read 49 = .ok (.aload_n 0, 1) := by decide +kernel
theorem dX9_read_50 : decode cX9_read 50 = .ok (.getfield 237, 3) := by decide +kernel
theorem dX9_read_53 : decode cX9_read 53 = .ok (.ifCond .ne 45, 3) := by decide +kernel
theorem dX9_read_56 : decode cX9_read 56 = .ok (.aload_n 0, 1) := by decide +kernel
theorem dX9_read_57 : decode cX9_read 57 = .ok (.getfield 158, 3) := by decide +kernel
theorem dX9_read_60 : decode cX9_read 60 = .ok (.ifCond .ne 38, 3) := by decide +kernel
theorem dX9_read_63 : decode cX9_read 63 = .ok (.aload_n 0, 1) := by decide +kernel
theorem dX9_read_64 : decode cX9_read 64 = .ok (.invokevirtual 241, 3) := by decide +kernel
theorem dX9_read_67 : decode cX9_read 67 = .ok (.istore_n 1, 1) := by decide +kernel
theorem dX9_read_68 : decode cX9_read 68 = .ok (.iload_n 1, 1) := by decide +kernel
theorem dX9_read_69 : decode cX9_read 69 = .ok (.ifCond .eq 14, 3) := by decide +kernel
theorem dX9_read_72 : decode cX9_read 72 = .ok (.aload_n 0, 1) := by decide +kernel
theorem dX9_read_73 : decode cX9_read 73 = .ok (.getfield 158, 3) := by decide +kernel
theorem dX9_read_76 : decode cX9_read 76 = .ok (.ifCond .ne 7, 3) := by decide +kernel
theorem dX9_read_79 : decode cX9_read 79 = .ok (.aload_n 0, 1) := by decide +kernel
theorem dX9_read_80 : decode cX9_read 80 = .ok (.invokevirtual 244, 3) := by decide +kernel
theorem dX9_read_83 : decode cX9_read 83 = .ok (.aload_n 0, 1) := by decide +kernel
theorem dX9_read_84 : decode cX9_read 84 = .ok (.getfield 158, 3) := by decide +kernel
theorem dX9_read_87 : decode cX9_read 87 = .ok (.ifCond .le 8, 3) := by decide +kernel
theorem dX9_read_90 : decode cX9_read 90 = .ok (.aload_n 0, 1) := by decide +kernel
theorem dX9_read_91 : decode cX9_read 91 = .ok (.iconst 1, 1) := by decide +kernel
theorem dX9_read_92 : decode cX9_read 92 = .ok (.putfield 237, 3) := by decide +kernel
theorem dX9_read_95 : decode cX9_read 95 = .ok (.goto (-46), 3) := by decide +kernel
theorem dX9_read_98 : decode cX9_read 98 = .ok (.aload_n 0, 1) := by decide +kernel
theorem dX9_read_99 : decode cX9_read 99 = .ok (.iconst 0, 1) := by decide +kernel
theorem dX9_read_100 : decode cX9_read 100 = .ok (.putfield 153, 3) := by decide +kernel
theorem dX9_read_103 : decode cX9_read 103 = .ok (.aload_n 0, 1) := by decide +kernel
theorem dX9_read_104 : decode cX9_read 104 = .ok (.getfield 158, 3) := by decide +kernel
theorem dX9_read_107 : decode cX9_read 107 = .ok (.ifCond .le 10, 3) := by decide +kernel
theorem dX9_read_110 : decode cX9_read 110 = .ok (.iconst (-1), 1) := by decide +kernel
theorem dX9_read_111 : decode cX9_read 111 = .ok (.aload_n 0, 1) := by decide +kernel
theorem dX9_read_112 : decode cX9_read 112 = .ok (.getfield 164, 3) := by decide +kernel
theorem dX9_read_115 : decode cX9_read 115 = .ok (.isub, 1) := by decide +kernel
theorem dX9_read_116 : decode cX9_read 116 = .ok (.ireturn, 1) := by decide +kernel
theorem dX9_read_117 : decode cX9_read 117 = .ok (.aload_n 0, 1) := by decide +kernel
theorem dX9_read_118 : decode cX9_read 118 = .ok (.iconst 1, 1) := by decide +kernel
theorem dX9_read_119 : decode cX9_read 119 = .ok (.putfield 247, 3) := by decide +kernel
theorem dX9_read_122 : decode cX9_read 122 = .ok (.aload_n 0, 1) := by decide +kernel
theorem dX9_read_123 : decode cX9_read 123 = .ok (.aload_n 0, 1) := by decide +kernel
theorem dX9_read_124 : decode cX9_read 124 = .ok (.getfield 205, 3) := by decide +kernel
theorem dX9_read_127 : decode cX9_read 127 = .ok (.putfield 250, 3) := by decide +kernel
theorem dX9_read_130 : decode cX9_read 130 = .ok (.aload_n 0, 1) := by decide +kernel
theorem dX9_read_131 : decode cX9_read 131 = .ok (.aload_n 0, 1) := by decide +kernel
theorem dX9_read_132 : decode cX9_read 132 = .ok (.getfield 193, 3) := by decide +kernel
theorem dX9_read_135 : decode cX9_read 135 = .ok (.putfield 253, 3) := by decide +kernel
theorem dX9_read_138 : decode cX9_read 138 = .ok (.iconst 0, 1) := by decide +kernel
theorem dX9_read_139 : decode cX9_read 139 = .ok (.istore_n 1, 1) := by decide +kernel
theorem dX9_read_140 : decode cX9_read 140 = .ok (.iload_n 1, 1) := by decide +kernel
theorem dX9_read_141 : decode cX9_read 141 = .ok (.aload_n 0, 1) := by decide +kernel
theorem dX9_read_142 : decode cX9_read 142 = .ok (.getfield 250, 3) := by decide +kernel
theorem dX9_read_145 : decode cX9_read 145 = .ok (.if_icmp .ge 45, 3) := by decide +kernel
theorem dX9_read_148 : decode cX9_read 148 = .ok (.aload_n 0, 1) := by decide +kernel
theorem dX9_read_149 : decode cX9_read 149 = .ok (.getfield 42, 3) := by decide +kernel
theorem dX9_read_152 : decode cX9_read 152 = .ok (.iload_n 1, 1) := by decide +kernel
theorem dX9_read_153 : decode cX9_read 153 = .ok (.aload_n 0, 1) := by decide +kernel
theorem dX9_read_154 : decode cX9_read 154 = .ok (.getfield 54, 3) := by decide +kernel
theorem dX9_read_157 : decode cX9_read 157 = .ok (.iload_n 1, 1) := by decide +kernel
theorem dX9_read_158 : decode cX9_read 158 = .ok (.iaload, 1) := by decide +kernel
theorem dX9_read_159 : decode cX9_read 159 = .ok (.iastore, 1) := by decide +kernel
theorem dX9_read_160 : decode cX9_read 160 = .ok (.aload_n 0, 1) := by decide +kernel
theorem dX9_read_161 : decode cX9_read 161 = .ok (.getfield 45, 3) := by decide +kernel
theorem dX9_read_164 : decode cX9_read 164 = .ok (.iload_n 1, 1) := by decide +kernel
theorem dX9_read_165 : decode cX9_read 165 = .ok (.aload_n 0, 1) := by decide +kernel
theorem dX9_read_166 : decode cX9_read 166 = .ok (.getfield 57, 3) := by decide +kernel
theorem dX9_read_169 : decode cX9_read 169 = .ok (.iload_n 1, 1) := by decide +kernel
theorem dX9_read_170 : decode cX9_read 170 = .ok (.iaload, 1) := by decide +kernel
theorem dX9_read_171 : decode cX9_read 171 = .ok (.iastore, 1) := by decide +kernel
theorem dX9_read_172 : decode cX9_read 172 = .ok (.aload_n 0, 1) := by decide +kernel
theorem dX9_read_173 : decode cX9_read 173 = .ok (.getfield 48, 3) := by decide +kernel
theorem dX9_read_176 : decode cX9_read 176 = .ok (.iload_n 1, 1) := by decide +kernel
theorem dX9_read_177 : decode cX9_read 177 = .ok (.aload_n 0, 1) := by decide +kernel
theorem dX9_read_178 : decode cX9_read 178 = .ok (.getfield 60, 3) := by decide +kernel
theorem dX9_read_181 : decode cX9_read 181 = .ok (.iload_n 1, 1) := by decide +kernel
theorem dX9_read_182 : decode cX9_read 182 = .ok (.iaload, 1) := by decide +kernel
theorem dX9_read_183 : decode cX9_read 183 = .ok (.iastore, 1) := by decide +kernel
theorem dX9_read_184 : decode cX9_read 184 = .ok (.iinc 1 1, 3) := by decide +kernel
theorem dX9_read_187 : decode cX9_read 187 = .ok (.goto (-47), 3) := by decide +kernel
theorem dX9_read_190 : decode cX9_read 190 = .ok (.iconst 0, 1) := by decide +kernel
theorem dX9_read_191 : decode cX9_read 191 = .ok (.istore_n 1, 1) := by decide +kernel
theorem dX9_read_192 : decode cX9_read 192 = .ok (.iload_n 1, 1) := by decide +kernel
theorem dX9_read_193 : decode cX9_read 193 = .ok (.aload_n 0, 1) := by decide +kernel
theorem dX9_read_194 : decode cX9_read 194 = .ok (.getfield 253, 3) := by decide +kernel
theorem dX9_read_197 : decode cX9_read 197 = .ok (.if_icmp .ge 21, 3) := by decide +kernel
theorem dX9_read_200 : decode cX9_read 200 = .ok (.aload_n 0, 1) := by decide +kernel
theorem dX9_read_201 : decode cX9_read 201 = .ok (.getfield 51, 3) := by decide +kernel
theorem dX9_read_204 : decode cX9_read 204 = .ok (.iload_n 1, 1) := by decide +kernel
theorem dX9_read_205 : decode cX9_read 205 = .ok (.aload_n 0, 1) := by decide +kernel
theorem dX9_read_206 : decode cX9_read 206 = .ok (.getfield 63, 3) := by decide +kernel
theorem dX9_read_209 : decode cX9_read 209 = .ok (.iload_n 1, 1) := by decide +kernel
theorem dX9_read_210 : decode cX9_read 210 = .ok (.iaload, 1) := by decide +kernel
theorem dX9_read_211 : decode cX9_read 211 = .ok (.iastore, 1) := by decide +kernel
theorem dX9_read_212 : decode cX9_read 212 = .ok (.iinc 1 1, 3) := by decide +kernel
theorem dX9_read_215 : decode cX9_read 215 = .ok (.goto (-23), 3) := by decide +kernel
theorem dX9_read_218 : decode cX9_read 218 = .ok (.aload_n 0, 1) := by decide +kernel
theorem dX9_read_219 : decode cX9_read 219 = .ok (.getfield 250, 3) := by decide +kernel
theorem dX9_read_222 : decode cX9_read 222 = .ok (.ireturn, 1) := by decide +kernel
theorem dX9_fault_0 : decode cX9_fault 0 = .ok (.aload_n 0, 1) := by decide +kernel
theorem dX9_fault_1 : decode cX9_fault 1 = .ok (.iconst 0, 1) := by decide +kernel
theorem dX9_fault_2 : decode cX9_fault 2 = .ok (.putfield 91, 3) := by decide +kernel
theorem dX9_fault_5 : decode cX9_fault 5 = .ok (.aload_n 0, 1) := by decide +kernel
theorem dX9_fault_6 : decode cX9_fault 6 = .ok (.getfield 158, 3) := by decide +kernel
theorem dX9_fault_9 : decode cX9_fault 9 = .ok (.ireturn, 1) := by decide +kernel
theorem dX9_atom_0 : decode cX9_atom 0 = .ok (.aload_n 0, 1) := by decide +kernel
theorem dX9_atom_1 : decode cX9_atom 1 = .ok (.iload_n 1, 1) := by decide +kernel
theorem dX9_atom_2 : decode cX9_atom 2 = .ok (.i2l, 1) := by decide +kernel
theorem dX9_atom_3 : decode cX9_atom 3 = .ok (.lconst 0, 1) := by decide +kernel
theorem dX9_atom_4 : decode cX9_atom 4 = .ok (.aload_n 0, 1) := by decide +kernel
theorem dX9_atom_5 : decode cX9_atom 5 = .ok (.getfield 250, 3) := by decide +kernel
theorem dX9_atom_8 : decode cX9_atom 8 = .ok (.iconst 1, 1) := by decide +kernel
theorem dX9_atom_9 : decode cX9_atom 9 = .ok (.isub, 1) := by decide +kernel
theorem dX9_atom_10 : decode cX9_atom 10 = .ok (.i2l, 1) := by decide +kernel
theorem dX9_atom_11 : decode cX9_atom 11 = .ok (.invokestatic 96, 3) := by decide +kernel
theorem dX9_atom_14 : decode cX9_atom 14 = .ok (.iload_n 2, 1) := by decide +kernel
theorem dX9_atom_15 : decode cX9_atom 15 = .ok (.i2l, 1) := by decide +kernel
theorem dX9_atom_16 : decode cX9_atom 16 = .ok (.lconst 0, 1) := by decide +kernel
theorem dX9_atom_17 : decode cX9_atom 17 = .ok (.ldc2_w 256, 3) := by decide +kernel
theorem dX9_atom_20 : decode cX9_atom 20 = .ok (.invokestatic 96, 3) := by decide +kernel
theorem dX9_atom_23 : decode cX9_atom 23 = .ok (.iconst 1, 1) := by decide +kernel
theorem dX9_atom_24 : decode cX9_atom 24 = .ok (.invokevirtual 120, 3) := by decide +kernel
theorem dX9_atom_27 : decode cX9_atom 27 = .ok (.ifCond .ne 5, 3) := by decide +kernel
theorem dX9_atom_30 : decode cX9_atom 30 = .ok (.iconst 0, 1) := by decide +kernel
theorem dX9_atom_31 : decode cX9_atom 31 = .ok (.ireturn, 1) := by decide +kernel
theorem dX9_atom_32 : decode cX9_atom 32 = .ok (.iload_n 2, 1) := by decide +kernel
theorem dX9_atom_33 : decode cX9_atom 33 = .ok (.ifCond .ne 12, 3) := by decide +kernel
theorem dX9_atom_36 : decode cX9_atom 36 = .ok (.aload_n 0, 1) := by decide +kernel
theorem dX9_atom_37 : decode cX9_atom 37 = .ok (.getfield 42, 3) := by decide +kernel
theorem dX9_atom_40 : decode cX9_atom 40 = .ok (.iload_n 1, 1) := by decide +kernel
theorem dX9_atom_41 : decode cX9_atom 41 = .ok (.iaload, 1) := by decide +kernel
theorem dX9_atom_42 : decode cX9_atom 42 = .ok (.goto 23, 3) := by decide +kernel
theorem dX9_atom_45 : decode cX9_atom 45 = .ok (.iload_n 2, 1) := by decide +kernel
theorem dX9_atom_46 : decode cX9_atom 46 = .ok (.iconst 1, 1) := by decide +kernel
theorem dX9_atom_47 : decode cX9_atom 47 = .ok (.if_icmp .ne 12, 3) := by decide +kernel
theorem dX9_atom_50 : decode cX9_atom 50 = .ok (.aload_n 0, 1) := by decide +kernel
theorem dX9_atom_51 : decode cX9_atom 51 = .ok (.getfield 45, 3) := by decide +kernel
theorem dX9_atom_54 : decode cX9_atom 54 = .ok (.iload_n 1, 1) := by decide +kernel
theorem dX9_atom_55 : decode cX9_atom 55 = .ok (.iaload, 1) := by decide +kernel
theorem dX9_atom_56 : decode cX9_atom 56 = .ok (.goto 9, 3) := by decide +kernel
theorem dX9_atom_59 : decode cX9_atom 59 = .ok (.aload_n 0, 1) := by decide +kernel
theorem dX9_atom_60 : decode cX9_atom 60 = .ok (.getfield 48, 3) := by decide +kernel
theorem dX9_atom_63 : decode cX9_atom 63 = .ok (.iload_n 1, 1) := by decide +kernel
theorem dX9_atom_64 : decode cX9_atom 64 = .ok (.iaload, 1) := by decide +kernel
theorem dX9_atom_65 : decode cX9_atom 65 = .ok (.ireturn, 1) := by decide +kernel
theorem dX9_judged_0 : decode cX9_judged 0 = .ok (.iconst 0, 1) := by decide +kernel
theorem dX9_judged_1 : decode cX9_judged 1 = .ok (.istore_n 1, 1) := by decide +kernel
theorem dX9_judged_2 : decode cX9_judged 2 = .ok (.iconst 0, 1) := by decide +kernel
theorem dX9_judged_3 : decode cX9_judged 3 = .ok (.istore_n 2, 1) := by decide +kernel
theorem dX9_judged_4 : decode cX9_judged 4 = .ok (.iload_n 2, 1) := by decide +kernel
theorem dX9_judged_5 : decode cX9_judged 5 = .ok (.aload_n 0, 1) := by decide +kernel
theorem dX9_judged_6 : decode cX9_judged 6 = .ok (.getfield 253, 3) := by decide +kernel
theorem dX9_judged_9 : decode cX9_judged 9 = .ok (.if_icmp .ge 208, 3) := by decide +kernel
theorem dX9_judged_12 : decode cX9_judged 12 = .ok (.aload_n 0, 1) := by decide +kernel
theorem dX9_judged_13 : decode cX9_judged 13 = .ok (.getfield 51, 3) := by decide +kernel
theorem dX9_judged_16 : decode cX9_judged 16 = .ok (.iload_n 2, 1) := by decide +kernel
theorem dX9_judged_17 : decode cX9_judged 17 = .ok (.iaload, 1) := by decide +kernel
theorem dX9_judged_18 : decode cX9_judged 18 = .ok (.istore_n 3, 1) := by decide +kernel
theorem dX9_judged_19 : decode cX9_judged 19 = .ok (.iload_n 3, 1) := by decide +kernel
theorem dX9_judged_20 : decode cX9_judged 20 = .ok (.bipush 10, 2) := by decide +kernel
theorem dX9_judged_22 : decode cX9_judged 22 = .ok (.if_icmp .ge 21, 3) := by decide +kernel
theorem dX9_judged_25 : decode cX9_judged 25 = .ok (.aload_n 0, 1) := by decide +kernel
theorem dX9_judged_26 : decode cX9_judged 26 = .ok (.getfield 72, 3) := by decide +kernel
theorem dX9_judged_29 : decode cX9_judged 29 = .ok (.iload_n 1, 1) := by decide +kernel
theorem dX9_judged_30 : decode cX9_judged 30 = .ok (.aload_n 0, 1) := by decide +kernel
theorem dX9_judged_31 : decode cX9_judged 31 = .ok (.getfield 69, 3) := by decide +kernel
theorem dX9_judged_34 : decode cX9_judged 34 = .ok (.iload_n 3, 1) := by decide +kernel
theorem dX9_judged_35 : decode cX9_judged 35 = .ok (.iaload, 1) := by decide +kernel
theorem dX9_judged_36 : decode cX9_judged 36 = .ok (.iastore, 1) := by decide +kernel
theorem dX9_judged_37 : decode cX9_judged 37 = .ok (.iinc 1 1, 3) := by decide +kernel
theorem dX9_judged_40 : decode cX9_judged 40 = .ok (.goto 171, 3) := by decide +kernel
theorem dX9_judged_43 : decode cX9_judged 43 = .ok (.iload_n 3, 1) := by decide +kernel
theorem dX9_judged_44 : decode cX9_judged 44 = .ok (.bipush 21, 2) := by decide +kernel
theorem dX9_judged_46 : decode cX9_judged 46 = .ok (.if_icmp .gt 19, 3) := by decide +kernel
theorem dX9_judged_49 : decode cX9_judged 49 = .ok (.aload_n 0, 1) := by decide +kernel
theorem dX9_judged_50 : decode cX9_judged 50 = .ok (.getfield 72, 3) := by decide +kernel
theorem dX9_judged_53 : decode cX9_judged 53 = .ok (.iload_n 1, 1) := by decide +kernel
theorem dX9_judged_54 : decode cX9_judged 54 = .ok (.iload_n 3, 1) := by decide +kernel
theorem dX9_judged_55 : decode cX9_judged 55 = .ok (.bipush 20, 2) := by decide +kernel
theorem dX9_judged_57 : decode cX9_judged 57 = .ok (.isub, 1) := by decide +kernel
theorem dX9_judged_58 : decode cX9_judged 58 = .ok (.iastore, 1) := by decide +kernel
theorem dX9_judged_59 : decode cX9_judged 59 = .ok (.iinc 1 1, 3) := by decide +kernel
theorem dX9_judged_62 : decode cX9_judged 62 = .ok (.goto 149, 3) := by decide +kernel
theorem dX9_judged_65 : decode cX9_judged 65 = .ok (.iload_n 3, 1) := by decide +kernel
theorem dX9_judged_66 : decode cX9_judged 66 = .ok (.bipush 22, 2) := by decide +kernel
theorem dX9_judged_68 : decode cX9_judged 68 = .ok (.if_icmp .ne 40, 3) := by decide +kernel
theorem dX9_judged_71 : decode cX9_judged 71 = .ok (.aload_n 0, 1) := by decide +kernel
theorem dX9_judged_72 : decode cX9_judged 72 = .ok (.getfield 72, 3) := by decide +kernel
theorem dX9_judged_75 : decode cX9_judged 75 = .ok (.iload_n 1, 1) := by decide +kernel
theorem dX9_judged_76 : decode cX9_judged 76 = .ok (.iconst 1, 1) := by decide +kernel
theorem dX9_judged_77 : decode cX9_judged 77 = .ok (.isub, 1) := by decide +kernel
theorem dX9_judged_78 : decode cX9_judged 78 = .ok (.aload_n 0, 1) := by decide +kernel
theorem dX9_judged_79 : decode cX9_judged 79 = .ok (.getfield 72, 3) := by decide +kernel
theorem dX9_judged_82 : decode cX9_judged 82 = .ok (.iload_n 1, 1) := by decide +kernel
theorem dX9_judged_83 : decode cX9_judged 83 = .ok (.iconst 1, 1) := by decide +kernel
theorem dX9_judged_84 : decode cX9_judged 84 = .ok (.isub, 1) := by decide +kernel
theorem dX9_judged_85 : decode cX9_judged 85 = .ok (.iaload, 1) := by decide +kernel
theorem dX9_judged_86 : decode cX9_judged 86 = .ok (.iconst 2, 1) := by decide +kernel
theorem dX9_judged_87 : decode cX9_judged 87 = .ok (.if_icmp .ne 7, 3) := by decide +kernel
theorem dX9_judged_90 : decode cX9_judged 90 = .ok (.iconst 2, 1) := by decide +kernel
theorem dX9_judged_91 : decode cX9_judged 91 = .ok (.goto 13, 3) := by decide +kernel
theorem dX9_judged_94 : decode cX9_judged 94 = .ok (.iconst 1, 1) := by decide +kernel
theorem dX9_judged_95 : decode cX9_judged 95 = .ok (.aload_n 0, 1) := by decide +kernel
theorem dX9_judged_96 : decode cX9_judged 96 = .ok (.getfield 72, 3) := by decide +kernel
theorem dX9_judged_99 : decode cX9_judged 99 = .ok (.iload_n 1, 1) := by decide +kernel
theorem dX9_judged_100 : decode cX9_judged 100 = .ok (.iconst 1, 1) := by decide +kernel
theorem dX9_judged_101 : decode cX9_judged 101 = .ok (.isub, 1) := by decide +kernel
theorem dX9_judged_102 : decode cX9_judged 102 = .ok (.iaload, 1) := by decide +kernel
theorem dX9_judged_103 : decode cX9_judged 103 = .ok (.isub, 1) := by decide +kernel
theorem dX9_judged_104 : decode cX9_judged 104 = .ok (.iastore, 1) := by decide +kernel
theorem dX9_judged_105 : decode cX9_judged 105 = .ok (.goto 106, 3) := by decide +kernel
theorem dX9_judged_108 : decode cX9_judged 108 = .ok (.iinc 1 (-1), 3) := by decide +kernel
theorem dX9_judged_111 : decode cX9_judged 111 = .ok (.aload_n 0, 1) := by decide +kernel
theorem dX9_judged_112 : decode cX9_judged 112 = .ok (.getfield 72, 3) := by decide +kernel
theorem dX9_judged_115 : decode cX9_judged 115 = .ok (.iload_n 1, 1) := by decide +kernel
theorem dX9_judged_116 : decode cX9_judged 116 = .ok (.iconst 1, 1) := by decide +kernel
theorem dX9_judged_117 : decode cX9_judged 117 = .ok (.isub, 1) := by decide +kernel
theorem dX9_judged_118 : decode cX9_judged 118 = .ok (.iaload, 1) := by decide +kernel
theorem dX9_judged_119 : decode cX9_judged 119 = .ok (.istore 4, 2) := by decide +kernel
theorem dX9_judged_121 : decode cX9_judged 121 = .ok (.aload_n 0, 1) := by decide +kernel
theorem dX9_judged_122 : decode cX9_judged 122 = .ok (.getfield 72, 3) := by decide +kernel
theorem dX9_judged_125 : decode cX9_judged 125 = .ok (.iload_n 1, 1) := by decide +kernel
theorem dX9_judged_126 : decode cX9_judged 126 = .ok (.iaload, 1) := by decide +kernel
theorem dX9_judged_127 : decode cX9_judged 127 = .ok (.istore 5, 2) := by decide +kernel
theorem dX9_judged_129 : decode cX9_judged 129 = .ok (.iload_n 3, 1) := by decide +kernel
theorem dX9_judged_130 : decode cX9_judged 130 = .ok (.bipush 25, 2) := by decide +kernel
theorem dX9_judged_132 : decode cX9_judged 132 = .ok (.if_icmp .ne 19, 3) := by decide +kernel
theorem dX9_judged_135 : decode cX9_judged 135 = .ok (.iload 4, 2) := by decide +kernel
theorem dX9_judged_137 : decode cX9_judged 137 = .ok (.iconst 2, 1) := by decide +kernel
theorem dX9_judged_138 : decode cX9_judged 138 = .ok (.if_icmp .ne 7, 3) := by decide +kernel
theorem dX9_judged_141 : decode cX9_judged 141 = .ok (.iconst 2, 1) := by decide +kernel
theorem dX9_judged_142 : decode cX9_judged 142 = .ok (.goto 7, 3) := by decide +kernel
theorem dX9_judged_145 : decode cX9_judged 145 = .ok (.iconst 1, 1) := by decide +kernel
theorem dX9_judged_146 : decode cX9_judged 146 = .ok (.iload 4, 2) := by decide +kernel
theorem dX9_judged_148 : decode cX9_judged 148 = .ok (.isub, 1) := by decide +kernel
theorem dX9_judged_149 : decode cX9_judged 149 = .ok (.istore 4, 2) := by decide +kernel
theorem dX9_judged_151 : decode cX9_judged 151 = .ok (.iload_n 3, 1) := by decide +kernel
theorem dX9_judged_152 : decode cX9_judged 152 = .ok (.bipush 23, 2) := by decide +kernel
theorem dX9_judged_154 : decode cX9_judged 154 = .ok (.if_icmp .ne 7, 3) := by decide +kernel
theorem dX9_judged_157 : decode cX9_judged 157 = .ok (.iconst 0, 1) := by decide +kernel
theorem dX9_judged_158 : decode cX9_judged 158 = .ok (.goto 4, 3) := by decide +kernel
theorem dX9_judged_161 : decode cX9_judged 161 = .ok (.iconst 1, 1) := by decide +kernel
theorem dX9_judged_162 : decode cX9_judged 162 = .ok (.istore 6, 2) := by decide +kernel
theorem dX9_judged_164 : decode cX9_judged 164 = .ok (.aload_n 0, 1) := by decide +kernel
theorem dX9_judged_165 : decode cX9_judged 165 = .ok (.getfield 72, 3) := by decide +kernel
theorem dX9_judged_168 : decode cX9_judged 168 = .ok (.iload_n 1, 1) := by decide +kernel
theorem dX9_judged_169 : decode cX9_judged 169 = .ok (.iconst 1, 1) := by decide +kernel
theorem dX9_judged_170 : decode cX9_judged 170 = .ok (.isub, 1) := by decide +kernel
theorem dX9_judged_171 : decode cX9_judged 171 = .ok (.iload 4, 2) := by decide +kernel
theorem dX9_judged_173 : decode cX9_judged 173 = .ok (.iload 6, 2) := by decide +kernel
theorem dX9_judged_175 : decode cX9_judged 175 = .ok (.if_icmp .eq 10, 3) := by decide +kernel
theorem dX9_judged_178 : decode cX9_judged 178 = .ok (.iload 5, 2) := by decide +kernel
theorem dX9_judged_180 : decode cX9_judged 180 = .ok (.iload 6, 2) := by decide +kernel
theorem dX9_judged_182 : decode cX9_judged 182 = .ok (.if_icmp .ne 8, 3) := by decide +kernel
theorem dX9_judged_185 : decode cX9_judged 185 = .ok (.iload 6, 2) := by decide +kernel
theorem dX9_judged_187 : decode cX9_judged 187 = .ok (.goto 23, 3) := by decide +kernel
theorem dX9_judged_190 : decode cX9_judged 190 = .ok (.iload 4, 2) := by decide +kernel
theorem dX9_judged_192 : decode cX9_judged 192 = .ok (.iconst 2, 1) := by decide +kernel
theorem dX9_judged_193 : decode cX9_judged 193 = .ok (.if_icmp .eq 9, 3) := by decide +kernel
theorem dX9_judged_196 : decode cX9_judged 196 = .ok (.iload 5, 2) := by decide +kernel
theorem dX9_judged_198 : decode cX9_judged 198 = .ok (.iconst 2, 1) := by decide +kernel
theorem dX9_judged_199 : decode cX9_judged 199 = .ok (.if_icmp .ne 7, 3) := by decide +kernel
theorem dX9_judged_202 : decode cX9_judged 202 = .ok (.iconst 2, 1) := by decide +kernel
theorem dX9_judged_203 : decode cX9_judged 203 = .ok (.goto 7, 3) := by decide +kernel
theorem dX9_judged_206 : decode cX9_judged 206 = .ok (.iconst 1, 1) := by decide +kernel
theorem dX9_judged_207 : decode cX9_judged 207 = .ok (.iload 6, 2) := by decide +kernel
theorem dX9_judged_209 : decode cX9_judged 209 = .ok (.isub, 1) := by decide +kernel
theorem dX9_judged_210 : decode cX9_judged 210 = .ok (.iastore, 1) := by decide +kernel
theorem dX9_judged_211 : decode cX9_judged 211 = .ok (.iinc 2 1, 3) := by decide +kernel
theorem dX9_judged_214 : decode cX9_judged 214 = .ok (.goto (-210), 3) := by decide +kernel
theorem dX9_judged_217 : decode cX9_judged 217 = .ok (.aload_n 0, 1) := by decide +kernel
theorem dX9_judged_218 : decode cX9_judged 218 = .ok (.getfield 72, 3) := by decide +kernel
theorem dX9_judged_221 : decode cX9_judged 221 = .ok (.iconst 0, 1) := by decide +kernel
theorem dX9_judged_222 : decode cX9_judged 222 = .ok (.iaload, 1) := by decide +kernel
theorem dX9_judged_223 : decode cX9_judged 223 = .ok (.ireturn, 1) := by decide +kernel
theorem dX9_putDifference_0 : decode cX9_putDifference 0 = .ok (.aload_n 0, 1) := by decide +kernel
theorem dX9_putDifference_1 : decode cX9_putDifference 1 = .ok (.getfield 69, 3) := by decide +kernel
theorem dX9_putDifference_4 : decode cX9_putDifference 4 = .ok (.iload_n 1, 1) := by decide +kernel
theorem dX9_putDifference_5 : decode cX9_putDifference 5 = .ok (.iaload, 1) := by decide +kernel
theorem dX9_putDifference_6 : decode cX9_putDifference 6 = .ok (.iconst 1, 1) := by decide +kernel
theorem dX9_putDifference_7 : decode cX9_putDifference 7 = .ok (.if_icmp .ne 7, 3) := by decide +kernel
theorem dX9_putDifference_10 : decode cX9_putDifference 10 = .ok (.iconst 1, 1) := by decide +kernel
theorem dX9_putDifference_11 : decode cX9_putDifference 11 = .ok (.goto 4, 3) := by decide +kernel
theorem dX9_putDifference_14 : decode cX9_putDifference 14 = .ok (.iconst 0, 1) := by decide +kernel
theorem dX9_putDifference_15 : decode cX9_putDifference 15 = .ok (.istore_n 2, 1) := by decide +kernel
theorem dX9_putDifference_16 : decode cX9_putDifference 16 = .ok (.aload_n 0, 1) := by decide +kernel
theorem dX9_putDifference_17 : decode cX9_putDifference 17 = .ok (.getfield 7, 3) := by decide +kernel
theorem dX9_putDifference_20 : decode cX9_putDifference 20 = .ok (.bipush 60, 2) := by decide +kernel
theorem dX9_putDifference_22 : decode cX9_putDifference 22 = .ok (.iload_n 1, 1) := by decide +kernel
theorem dX9_putDifference_23 : decode cX9_putDifference 23 = .ok (.iadd, 1) := by decide +kernel
theorem dX9_putDifference_24 : decode cX9_putDifference 24 = .ok (.iload_n 2, 1) := by decide +kernel
theorem dX9_putDifference_25 : decode cX9_putDifference 25 = .ok (.ifCond .eq 12, 3) := by decide +kernel
theorem dX9_putDifference_28 : decode cX9_putDifference 28 = .ok (.aload_n 0, 1) := by decide +kernel
theorem dX9_putDifference_29 : decode cX9_putDifference 29 = .ok (.getfield 42, 3) := by decide +kernel
theorem dX9_putDifference_32 : decode cX9_putDifference 32 = .ok (.iload_n 1, 1) := by decide +kernel
theorem dX9_putDifference_33 : decode cX9_putDifference 33 = .ok (.iaload, 1) := by decide +kernel
theorem dX9_putDifference_34 : decode cX9_putDifference 34 = .ok (.goto 9, 3) := by decide +kernel
theorem dX9_putDifference_37 : decode cX9_putDifference 37 = .ok (.aload_n 0, 1) := by decide +kernel
theorem dX9_putDifference_38 : decode cX9_putDifference 38 = .ok (.getfield 45, 3) := by decide +kernel
theorem dX9_putDifference_41 : decode cX9_putDifference 41 = .ok (.iload_n 1, 1) := by decide +kernel
theorem dX9_putDifference_42 : decode cX9_putDifference 42 = .ok (.iaload, 1) := by decide +kernel
theorem dX9_putDifference_43 : decode cX9_putDifference 43 = .ok (.iastore, 1) := by decide +kernel
theorem dX9_putDifference_44 : decode cX9_putDifference 44 = .ok (.aload_n 0, 1) := by decide +kernel
theorem dX9_putDifference_45 : decode cX9_putDifference 45 = .ok (.getfield 13, 3) := by decide +kernel
theorem dX9_putDifference_48 : decode cX9_putDifference 48 = .ok (.bipush 60, 2) := by decide +kernel
theorem dX9_putDifference_50 : decode cX9_putDifference 50 = .ok (.iload_n 1, 1) := by decide +kernel
theorem dX9_putDifference_51 : decode cX9_putDifference 51 = .ok (.iadd, 1) := by decide +kernel
theorem dX9_putDifference_52 : decode cX9_putDifference 52 = .ok (.iload_n 2, 1) := by decide +kernel
theorem dX9_putDifference_53 : decode cX9_putDifference 53 = .ok (.ifCond .eq 12, 3) := by decide +kernel
theorem dX9_putDifference_56 : decode cX9_putDifference 56 = .ok (.aload_n 0, 1) := by decide +kernel
theorem dX9_putDifference_57 : decode cX9_putDifference 57 = .ok (.getfield 45, 3) := by decide +kernel
theorem dX9_putDifference_60 : decode cX9_putDifference 60 = .ok (.iload_n 1, 1) := by decide +kernel
theorem dX9_putDifference_61 : decode cX9_putDifference 61 = .ok (.iaload, 1) := by decide +kernel
theorem dX9_putDifference_62 : decode cX9_putDifference 62 = .ok (.goto 9, 3) := by decide +kernel
theorem dX9_putDifference_65 : decode cX9_putDifference 65 = .ok (.aload_n 0, 1) := by decide +kernel
theorem dX9_putDifference_66 : decode cX9_putDifference 66 = .ok (.getfield 42, 3) := by decide +kernel
theorem dX9_putDifference_69 : decode cX9_putDifference 69 = .ok (.iload_n 1, 1) := by decide +kernel
theorem dX9_putDifference_70 : decode cX9_putDifference 70 = .ok (.iaload, 1) := by decide +kernel
theorem dX9_putDifference_71 : decode cX9_putDifference 71 = .ok (.iastore, 1) := by decide +kernel
theorem dX9_putDifference_72 : decode cX9_putDifference 72 = .ok (.aload_n 0, 1) := by decide +kernel
theorem dX9_putDifference_73 : decode cX9_putDifference 73 = .ok (.getfield 16, 3) := by decide +kernel
theorem dX9_putDifference_76 : decode cX9_putDifference 76 = .ok (.bipush 60, 2) := by decide +kernel
theorem dX9_putDifference_78 : decode cX9_putDifference 78 = .ok (.iload_n 1, 1) := by decide +kernel
theorem dX9_putDifference_79 : decode cX9_putDifference 79 = .ok (.iadd, 1) := by decide +kernel
theorem dX9_putDifference_80 : decode cX9_putDifference 80 = .ok (.iload_n 2, 1) := by decide +kernel
theorem dX9_putDifference_81 : decode cX9_putDifference 81 = .ok (.ifCond .eq 12, 3) := by decide +kernel
theorem dX9_putDifference_84 : decode cX9_putDifference 84 = .ok (.aload_n 0, 1) := by decide +kernel
theorem dX9_putDifference_85 : decode cX9_putDifference 85 = .ok (.getfield 48, 3) := by decide +kernel
theorem dX9_putDifference_88 : decode cX9_putDifference 88 = .ok (.iload_n 1, 1) := by decide +kernel
theorem dX9_putDifference_89 : decode cX9_putDifference 89 = .ok (.iaload, 1) := by decide +kernel
theorem dX9_putDifference_90 : decode cX9_putDifference 90 = .ok (.goto 12, 3) := by decide +kernel
theorem dX9_putDifference_93 : decode cX9_putDifference 93 = .ok (.aload_n 0, 1) := by decide +kernel
theorem dX9_putDifference_94 : decode cX9_putDifference 94 = .ok (.getfield 48, 3) := by decide +kernel
theorem dX9_putDifference_97 : decode cX9_putDifference 97 = .ok (.iload_n 1, 1) := by decide +kernel
theorem dX9_putDifference_98 : decode cX9_putDifference 98 = .ok (.iaload, 1) := by decide +kernel
theorem dX9_putDifference_99 : decode cX9_putDifference 99 = .ok (.ineg, 1) := by decide +kernel
theorem dX9_putDifference_100 : decode cX9_putDifference 100 = .ok (.iconst 1, 1) := by decide +kernel
theorem dX9_putDifference_101 : decode cX9_putDifference 101 = .ok (.isub, 1) := by decide +kernel
theorem dX9_putDifference_102 : decode cX9_putDifference 102 = .ok (.iastore, 1) := by decide +kernel
theorem dX9_putDifference_103 : decode cX9_putDifference 103 = .ok (.aload_n 0, 1) := by decide +kernel
theorem dX9_putDifference_104 : decode cX9_putDifference 104 = .ok (.getfield 19, 3) := by decide +kernel
theorem dX9_putDifference_107 : decode cX9_putDifference 107 = .ok (.bipush 60, 2) := by decide +kernel
theorem dX9_putDifference_109 : decode cX9_putDifference 109 = .ok (.iload_n 1, 1) := by decide +kernel
theorem dX9_putDifference_110 : decode cX9_putDifference 110 = .ok (.iadd, 1) := by decide +kernel
theorem dX9_putDifference_111 : decode cX9_putDifference 111 = .ok (.iconst 1, 1) := by decide +kernel
theorem dX9_putDifference_112 : decode cX9_putDifference 112 = .ok (.bastore, 1) := by decide +kernel
theorem dX9_putDifference_113 : decode cX9_putDifference 113 = .ok (.return_, 1) := by decide +kernel
theorem dX9_isWay_0 : decode cX9_isWay 0 = .ok (.iconst 0, 1) := by decide +kernel
theorem dX9_isWay_1 : decode cX9_isWay 1 = .ok (.istore_n 2, 1) := by decide +kernel
theorem dX9_isWay_2 : decode cX9_isWay 2 = .ok (.iload_n 2, 1) := by decide +kernel
theorem dX9_isWay_3 : decode cX9_isWay 3 = .ok (.aload_n 0, 1) := by decide +kernel
theorem dX9_isWay_4 : decode cX9_isWay 4 = .ok (.getfield 250, 3) := by decide +kernel
theorem dX9_isWay_7 : decode cX9_isWay 7 = .ok (.if_icmp .ge 27, 3) := by decide +kernel
theorem dX9_isWay_10 : decode cX9_isWay 10 = .ok (.aload_n 0, 1) := by decide +kernel
theorem dX9_isWay_11 : decode cX9_isWay 11 = .ok (.getfield 69, 3) := by decide +kernel
theorem dX9_isWay_14 : decode cX9_isWay 14 = .ok (.iload_n 2, 1) := by decide +kernel
theorem dX9_isWay_15 : decode cX9_isWay 15 = .ok (.iload_n 1, 1) := by decide +kernel
theorem dX9_isWay_16 : decode cX9_isWay 16 = .ok (.aload_n 0, 1) := by decide +kernel
theorem dX9_isWay_17 : decode cX9_isWay 17 = .ok (.getfield 250, 3) := by decide +kernel
theorem dX9_isWay_20 : decode cX9_isWay 20 = .ok (.iconst 1, 1) := by decide +kernel
theorem dX9_isWay_21 : decode cX9_isWay 21 = .ok (.isub, 1) := by decide +kernel
theorem dX9_isWay_22 : decode cX9_isWay 22 = .ok (.iload_n 2, 1) := by decide +kernel
theorem dX9_isWay_23 : decode cX9_isWay 23 = .ok (.isub, 1) := by decide +kernel
theorem dX9_isWay_24 : decode cX9_isWay 24 = .ok (.ishr, 1) := by decide +kernel
theorem dX9_isWay_25 : decode cX9_isWay 25 = .ok (.iconst 1, 1) := by decide +kernel
theorem dX9_isWay_26 : decode cX9_isWay 26 = .ok (.iand, 1) := by decide +kernel
theorem dX9_isWay_27 : decode cX9_isWay 27 = .ok (.iastore, 1) := by decide +kernel
theorem dX9_isWay_28 : decode cX9_isWay 28 = .ok (.iinc 2 1, 3) := by decide +kernel
theorem dX9_isWay_31 : decode cX9_isWay 31 = .ok (.goto (-29), 3) := by decide +kernel
theorem dX9_isWay_34 : decode cX9_isWay 34 = .ok (.aload_n 0, 1) := by decide +kernel
theorem dX9_isWay_35 : decode cX9_isWay 35 = .ok (.invokevirtual 258, 3) := by decide +kernel
theorem dX9_isWay_38 : decode cX9_isWay 38 = .ok (.iconst 1, 1) := by decide +kernel
theorem dX9_isWay_39 : decode cX9_isWay 39 = .ok (.if_icmp .eq 5, 3) := by decide +kernel
theorem dX9_isWay_42 : decode cX9_isWay 42 = .ok (.iconst 0, 1) := by decide +kernel
theorem dX9_isWay_43 : decode cX9_isWay 43 = .ok (.ireturn, 1) := by decide +kernel
theorem dX9_isWay_44 : decode cX9_isWay 44 = .ok (.aload_n 0, 1) := by decide +kernel
theorem dX9_isWay_45 : decode cX9_isWay 45 = .ok (.invokevirtual 124, 3) := by decide +kernel
theorem dX9_isWay_48 : decode cX9_isWay 48 = .ok (.iconst 0, 1) := by decide +kernel
theorem dX9_isWay_49 : decode cX9_isWay 49 = .ok (.istore_n 2, 1) := by decide +kernel
theorem dX9_isWay_50 : decode cX9_isWay 50 = .ok (.iload_n 2, 1) := by decide +kernel
theorem dX9_isWay_51 : decode cX9_isWay 51 = .ok (.aload_n 0, 1) := by decide +kernel
theorem dX9_isWay_52 : decode cX9_isWay 52 = .ok (.getfield 250, 3) := by decide +kernel
theorem dX9_isWay_55 : decode cX9_isWay 55 = .ok (.if_icmp .ge 14, 3) := by decide +kernel
theorem dX9_isWay_58 : decode cX9_isWay 58 = .ok (.aload_n 0, 1) := by decide +kernel
theorem dX9_isWay_59 : decode cX9_isWay 59 = .ok (.iload_n 2, 1) := by decide +kernel
theorem dX9_isWay_60 : decode cX9_isWay 60 = .ok (.invokevirtual 262, 3) := by decide +kernel
theorem dX9_isWay_63 : decode cX9_isWay 63 = .ok (.iinc 2 1, 3) := by decide +kernel
theorem dX9_isWay_66 : decode cX9_isWay 66 = .ok (.goto (-16), 3) := by decide +kernel
theorem dX9_isWay_69 : decode cX9_isWay 69 = .ok (.aload_n 0, 1) := by decide +kernel
theorem dX9_isWay_70 : decode cX9_isWay 70 = .ok (.invokevirtual 136, 3) := by decide +kernel
theorem dX9_isWay_73 : decode cX9_isWay 73 = .ok (.ireturn, 1) := by decide +kernel
theorem dX9_rows_0 : decode cX9_rows 0 = .ok (.aload_n 0, 1) := by decide +kernel
theorem dX9_rows_1 : decode cX9_rows 1 = .ok (.getfield 247, 3) := by decide +kernel
theorem dX9_rows_4 : decode cX9_rows 4 = .ok (.ifCond .eq 12, 3) := by decide +kernel
theorem dX9_rows_7 : decode cX9_rows 7 = .ok (.iconst 1, 1) := by decide +kernel
theorem dX9_rows_8 : decode cX9_rows 8 = .ok (.aload_n 0, 1) := by decide +kernel
theorem dX9_rows_9 : decode cX9_rows 9 = .ok (.getfield 250, 3) := by decide +kernel
theorem dX9_rows_12 : decode cX9_rows 12 = .ok (.ishl, 1) := by decide +kernel
theorem dX9_rows_13 : decode cX9_rows 13 = .ok (.goto 4, 3) := by decide +kernel
theorem dX9_rows_16 : decode cX9_rows 16 = .ok (.iconst 0, 1) := by decide +kernel
theorem dX9_rows_17 : decode cX9_rows 17 = .ok (.ireturn, 1) := by decide +kernel
theorem dX9_ways_0 : decode cX9_ways 0 = .ok (.aload_n 0, 1) := by decide +kernel
theorem dX9_ways_1 : decode cX9_ways 1 = .ok (.iconst 0, 1) := by decide +kernel
theorem dX9_ways_2 : decode cX9_ways 2 = .ok (.putfield 91, 3) := by decide +kernel
theorem dX9_ways_5 : decode cX9_ways 5 = .ok (.iconst 0, 1) := by decide +kernel
theorem dX9_ways_6 : decode cX9_ways 6 = .ok (.istore_n 1, 1) := by decide +kernel
theorem dX9_ways_7 : decode cX9_ways 7 = .ok (.iconst 0, 1) := by decide +kernel
theorem dX9_ways_8 : decode cX9_ways 8 = .ok (.istore_n 2, 1) := by decide +kernel
theorem dX9_ways_9 : decode cX9_ways 9 = .ok (.iload_n 2, 1) := by decide +kernel
theorem dX9_ways_10 : decode cX9_ways 10 = .ok (.aload_n 0, 1) := by decide +kernel
theorem dX9_ways_11 : decode cX9_ways 11 = .ok (.invokevirtual 265, 3) := by decide +kernel
theorem dX9_ways_14 : decode cX9_ways 14 = .ok (.if_icmp .ge 25, 3) := by decide +kernel
theorem dX9_ways_17 : decode cX9_ways 17 = .ok (.iload_n 1, 1) := by decide +kernel
theorem dX9_ways_18 : decode cX9_ways 18 = .ok (.aload_n 0, 1) := by decide +kernel
theorem dX9_ways_19 : decode cX9_ways 19 = .ok (.iload_n 2, 1) := by decide +kernel
theorem dX9_ways_20 : decode cX9_ways 20 = .ok (.invokevirtual 268, 3) := by decide +kernel
theorem dX9_ways_23 : decode cX9_ways 23 = .ok (.ifCond .eq 7, 3) := by decide +kernel
theorem dX9_ways_26 : decode cX9_ways 26 = .ok (.iconst 1, 1) := by decide +kernel
theorem dX9_ways_27 : decode cX9_ways 27 = .ok (.goto 4, 3) := by decide +kernel
theorem dX9_ways_30 : decode cX9_ways 30 = .ok (.iconst 0, 1) := by decide +kernel
theorem dX9_ways_31 : decode cX9_ways 31 = .ok (.iadd, 1) := by decide +kernel
theorem dX9_ways_32 : decode cX9_ways 32 = .ok (.istore_n 1, 1) := by decide +kernel
theorem dX9_ways_33 : decode cX9_ways 33 = .ok (.iinc 2 1, 3) := by decide +kernel
theorem dX9_ways_36 : decode cX9_ways 36 = .ok (.goto (-27), 3) := by decide +kernel
theorem dX9_ways_39 : decode cX9_ways 39 = .ok (.aload_n 0, 1) := by decide +kernel
theorem dX9_ways_40 : decode cX9_ways 40 = .ok (.getfield 247, 3) := by decide +kernel
theorem dX9_ways_43 : decode cX9_ways 43 = .ok (.ifCond .eq 7, 3) := by decide +kernel
theorem dX9_ways_46 : decode cX9_ways 46 = .ok (.iload_n 1, 1) := by decide +kernel
theorem dX9_ways_47 : decode cX9_ways 47 = .ok (.goto 4, 3) := by decide +kernel
theorem dX9_ways_50 : decode cX9_ways 50 = .ok (.iconst (-1), 1) := by decide +kernel
theorem dX9_ways_51 : decode cX9_ways 51 = .ok (.ireturn, 1) := by decide +kernel
theorem dX9_way_0 : decode cX9_way 0 = .ok (.aload_n 0, 1) := by decide +kernel
theorem dX9_way_1 : decode cX9_way 1 = .ok (.iconst 0, 1) := by decide +kernel
theorem dX9_way_2 : decode cX9_way 2 = .ok (.putfield 91, 3) := by decide +kernel
theorem dX9_way_5 : decode cX9_way 5 = .ok (.iload_n 1, 1) := by decide +kernel
theorem dX9_way_6 : decode cX9_way 6 = .ok (.ifCond .ge 7, 3) := by decide +kernel
theorem dX9_way_9 : decode cX9_way 9 = .ok (.iconst 0, 1) := by decide +kernel
theorem dX9_way_10 : decode cX9_way 10 = .ok (.goto 4, 3) := by decide +kernel
theorem dX9_way_13 : decode cX9_way 13 = .ok (.iload_n 1, 1) := by decide +kernel
theorem dX9_way_14 : decode cX9_way 14 = .ok (.istore_n 2, 1) := by decide +kernel
theorem dX9_way_15 : decode cX9_way 15 = .ok (.iload_n 2, 1) := by decide +kernel
theorem dX9_way_16 : decode cX9_way 16 = .ok (.aload_n 0, 1) := by decide +kernel
theorem dX9_way_17 : decode cX9_way 17 = .ok (.invokevirtual 265, 3) := by decide +kernel
theorem dX9_way_20 : decode cX9_way 20 = .ok (.if_icmp .ge 19, 3) := by decide +kernel
theorem dX9_way_23 : decode cX9_way 23 = .ok (.aload_n 0, 1) := by decide +kernel
theorem dX9_way_24 : decode cX9_way 24 = .ok (.iload_n 2, 1) := by decide +kernel
theorem dX9_way_25 : decode cX9_way 25 = .ok (.invokevirtual 268, 3) := by decide +kernel
theorem dX9_way_28 : decode cX9_way 28 = .ok (.ifCond .eq 5, 3) := by decide +kernel
theorem dX9_way_31 : decode cX9_way 31 = .ok (.iload_n 2, 1) := by decide +kernel
theorem dX9_way_32 : decode cX9_way 32 = .ok (.ireturn, 1) := by decide +kernel
theorem dX9_way_33 : decode cX9_way 33 = .ok (.iinc 2 1, 3) := by decide +kernel
theorem dX9_way_36 : decode cX9_way 36 = .ok (.goto (-21), 3) := by decide +kernel
theorem dX9_way_39 : decode cX9_way 39 = .ok (.iconst (-1), 1) := by decide +kernel
theorem dX9_way_40 : decode cX9_way 40 = .ok (.ireturn, 1) := by decide +kernel
theorem dX9_valueIn_0 : decode cX9_valueIn 0 = .ok (.aload_n 0, 1) := by decide +kernel
theorem dX9_valueIn_1 : decode cX9_valueIn 1 = .ok (.aload_n 0, 1) := by decide +kernel
theorem dX9_valueIn_2 : decode cX9_valueIn 2 = .ok (.iload_n 2, 1) := by decide +kernel
theorem dX9_valueIn_3 : decode cX9_valueIn 3 = .ok (.invokevirtual 112, 3) := by decide +kernel
theorem dX9_valueIn_6 : decode cX9_valueIn 6 = .ok (.iconst 1, 1) := by decide +kernel
theorem dX9_valueIn_7 : decode cX9_valueIn 7 = .ok (.iconst 1, 1) := by decide +kernel
theorem dX9_valueIn_8 : decode cX9_valueIn 8 = .ok (.invokevirtual 120, 3) := by decide +kernel
theorem dX9_valueIn_11 : decode cX9_valueIn 11 = .ok (.ifCond .ne 5, 3) := by decide +kernel
theorem dX9_valueIn_14 : decode cX9_valueIn 14 = .ok (.lconst 0, 1) := by decide +kernel
theorem dX9_valueIn_15 : decode cX9_valueIn 15 = .ok (.lreturn, 1) := by decide +kernel
theorem dX9_valueIn_16 : decode cX9_valueIn 16 = .ok (.iload_n 1, 1) := by decide +kernel
theorem dX9_valueIn_17 : decode cX9_valueIn 17 = .ok (.i2l, 1) := by decide +kernel
theorem dX9_valueIn_18 : decode cX9_valueIn 18 = .ok (.lconst 0, 1) := by decide +kernel
theorem dX9_valueIn_19 : decode cX9_valueIn 19 = .ok (.aload_n 0, 1) := by decide +kernel
theorem dX9_valueIn_20 : decode cX9_valueIn 20 = .ok (.invokevirtual 265, 3) := by decide +kernel
theorem dX9_valueIn_23 : decode cX9_valueIn 23 = .ok (.iconst 1, 1) := by decide +kernel
theorem dX9_valueIn_24 : decode cX9_valueIn 24 = .ok (.isub, 1) := by decide +kernel
theorem dX9_valueIn_25 : decode cX9_valueIn 25 = .ok (.i2l, 1) := by decide +kernel
theorem dX9_valueIn_26 : decode cX9_valueIn 26 = .ok (.invokestatic 96, 3) := by decide +kernel
theorem dX9_valueIn_29 : decode cX9_valueIn 29 = .ok (.ifCond .eq 27, 3) := by decide +kernel
theorem dX9_valueIn_32 : decode cX9_valueIn 32 = .ok (.aload_n 0, 1) := by decide +kernel
theorem dX9_valueIn_33 : decode cX9_valueIn 33 = .ok (.iload_n 1, 1) := by decide +kernel
theorem dX9_valueIn_34 : decode cX9_valueIn 34 = .ok (.invokevirtual 268, 3) := by decide +kernel
theorem dX9_valueIn_37 : decode cX9_valueIn 37 = .ok (.ifCond .eq 19, 3) := by decide +kernel
theorem dX9_valueIn_40 : decode cX9_valueIn 40 = .ok (.aload_n 0, 1) := by decide +kernel
theorem dX9_valueIn_41 : decode cX9_valueIn 41 = .ok (.getfield 36, 3) := by decide +kernel
theorem dX9_valueIn_44 : decode cX9_valueIn 44 = .ok (.iload_n 2, 1) := by decide +kernel
theorem dX9_valueIn_45 : decode cX9_valueIn 45 = .ok (.laload, 1) := by decide +kernel
theorem dX9_valueIn_46 : decode cX9_valueIn 46 = .ok (.aload_n 0, 1) := by decide +kernel
theorem dX9_valueIn_47 : decode cX9_valueIn 47 = .ok (.getfield 36, 3) := by decide +kernel
theorem dX9_valueIn_50 : decode cX9_valueIn 50 = .ok (.iconst 0, 1) := by decide +kernel
theorem dX9_valueIn_51 : decode cX9_valueIn 51 = .ok (.laload, 1) := by decide +kernel
theorem dX9_valueIn_52 : decode cX9_valueIn 52 = .ok (.lsub, 1) := by decide +kernel
theorem dX9_valueIn_53 : decode cX9_valueIn 53 = .ok (.goto 6, 3) := by decide +kernel
theorem dX9_valueIn_56 : decode cX9_valueIn 56 = .ok (.ldc2_w 144, 3) := by decide +kernel
theorem dX9_valueIn_59 : decode cX9_valueIn 59 = .ok (.lreturn, 1) := by decide +kernel
theorem dX9_must_0 : decode cX9_must 0 = .ok (.aload_n 0, 1) := by decide +kernel
theorem dX9_must_1 : decode cX9_must 1 = .ok (.iload_n 1, 1) := by decide +kernel
theorem dX9_must_2 : decode cX9_must 2 = .ok (.i2l, 1) := by decide +kernel
theorem dX9_must_3 : decode cX9_must 3 = .ok (.lconst 0, 1) := by decide +kernel
theorem dX9_must_4 : decode cX9_must 4 = .ok (.aload_n 0, 1) := by decide +kernel
theorem dX9_must_5 : decode cX9_must 5 = .ok (.getfield 250, 3) := by decide +kernel
theorem dX9_must_8 : decode cX9_must 8 = .ok (.iconst 1, 1) := by decide +kernel
theorem dX9_must_9 : decode cX9_must 9 = .ok (.isub, 1) := by decide +kernel
theorem dX9_must_10 : decode cX9_must 10 = .ok (.i2l, 1) := by decide +kernel
theorem dX9_must_11 : decode cX9_must 11 = .ok (.invokestatic 96, 3) := by decide +kernel
theorem dX9_must_14 : decode cX9_must 14 = .ok (.iconst 1, 1) := by decide +kernel
theorem dX9_must_15 : decode cX9_must 15 = .ok (.iconst 1, 1) := by decide +kernel
theorem dX9_must_16 : decode cX9_must 16 = .ok (.invokevirtual 120, 3) := by decide +kernel
theorem dX9_must_19 : decode cX9_must 19 = .ok (.ifCond .ne 5, 3) := by decide +kernel
theorem dX9_must_22 : decode cX9_must 22 = .ok (.iconst 0, 1) := by decide +kernel
theorem dX9_must_23 : decode cX9_must 23 = .ok (.ireturn, 1) := by decide +kernel
theorem dX9_must_24 : decode cX9_must 24 = .ok (.iconst 0, 1) := by decide +kernel
theorem dX9_must_25 : decode cX9_must 25 = .ok (.istore_n 2, 1) := by decide +kernel
theorem dX9_must_26 : decode cX9_must 26 = .ok (.iconst 0, 1) := by decide +kernel
theorem dX9_must_27 : decode cX9_must 27 = .ok (.istore_n 3, 1) := by decide +kernel
theorem dX9_must_28 : decode cX9_must 28 = .ok (.iconst 0, 1) := by decide +kernel
theorem dX9_must_29 : decode cX9_must 29 = .ok (.istore 4, 2) := by decide +kernel
theorem dX9_must_31 : decode cX9_must 31 = .ok (.iload 4, 2) := by decide +kernel
theorem dX9_must_33 : decode cX9_must 33 = .ok (.aload_n 0, 1) := by decide +kernel
theorem dX9_must_34 : decode cX9_must 34 = .ok (.invokevirtual 265, 3) := by decide +kernel
theorem dX9_must_37 : decode cX9_must 37 = .ok (.if_icmp .ge 88, 3) := by decide +kernel
theorem dX9_must_40 : decode cX9_must 40 = .ok (.iload 4, 2) := by decide +kernel
theorem dX9_must_42 : decode cX9_must 42 = .ok (.aload_n 0, 1) := by decide +kernel
theorem dX9_must_43 : decode cX9_must 43 = .ok (.getfield 250, 3) := by decide +kernel
theorem dX9_must_46 : decode cX9_must 46 = .ok (.iconst 1, 1) := by decide +kernel
theorem dX9_must_47 : decode cX9_must 47 = .ok (.isub, 1) := by decide +kernel
theorem dX9_must_48 : decode cX9_must 48 = .ok (.iload_n 1, 1) := by decide +kernel
theorem dX9_must_49 : decode cX9_must 49 = .ok (.isub, 1) := by decide +kernel
theorem dX9_must_50 : decode cX9_must 50 = .ok (.ishr, 1) := by decide +kernel
theorem dX9_must_51 : decode cX9_must 51 = .ok (.iconst 1, 1) := by decide +kernel
theorem dX9_must_52 : decode cX9_must 52 = .ok (.iand, 1) := by decide +kernel
theorem dX9_must_53 : decode cX9_must 53 = .ok (.iconst 1, 1) := by decide +kernel
theorem dX9_must_54 : decode cX9_must 54 = .ok (.if_icmp .ne 7, 3) := by decide +kernel
theorem dX9_must_57 : decode cX9_must 57 = .ok (.iconst 1, 1) := by decide +kernel
theorem dX9_must_58 : decode cX9_must 58 = .ok (.goto 4, 3) := by decide +kernel
theorem dX9_must_61 : decode cX9_must 61 = .ok (.iconst 0, 1) := by decide +kernel
theorem dX9_must_62 : decode cX9_must 62 = .ok (.istore 5, 2) := by decide +kernel
theorem dX9_must_64 : decode cX9_must 64 = .ok (.iload 5, 2) := by decide +kernel
theorem dX9_must_66 : decode cX9_must 66 = .ok (.ifCond .eq 10, 3) := by decide +kernel
theorem dX9_must_69 : decode cX9_must 69 = .ok (.iload_n 2, 1) := by decide +kernel
theorem dX9_must_70 : decode cX9_must 70 = .ok (.ifCond .ne 49, 3) := by decide +kernel
theorem dX9_must_73 : decode cX9_must 73 = .ok (.goto 7, 3) := by decide +kernel
theorem dX9_must_76 : decode cX9_must 76 = .ok (.iload_n 3, 1) := by decide +kernel
theorem dX9_must_77 : decode cX9_must 77 = .ok (.ifCond .ne 42, 3) := by decide +kernel
theorem dX9_must_80 : decode cX9_must 80 = .ok (.aload_n 0, 1) := by decide +kernel
theorem dX9_must_81 : decode cX9_must 81 = .ok (.iload 4, 2) := by decide +kernel
theorem dX9_must_83 : decode cX9_must 83 = .ok (.invokevirtual 268, 3) := by decide +kernel
theorem dX9_must_86 : decode cX9_must 86 = .ok (.ifCond .eq 33, 3) := by decide +kernel
theorem dX9_must_89 : decode cX9_must 89 = .ok (.iload_n 2, 1) := by decide +kernel
theorem dX9_must_90 : decode cX9_must 90 = .ok (.ifCond .ne 8, 3) := by decide +kernel
theorem dX9_must_93 : decode cX9_must 93 = .ok (.iload 5, 2) := by decide +kernel
theorem dX9_must_95 : decode cX9_must 95 = .ok (.ifCond .eq 7, 3) := by decide +kernel
theorem dX9_must_98 : decode cX9_must 98 = .ok (.iconst 1, 1) := by decide +kernel
theorem dX9_must_99 : decode cX9_must 99 = .ok (.goto 4, 3) := by decide +kernel
theorem dX9_must_102 : decode cX9_must 102 = .ok (.iconst 0, 1) := by decide +kernel
theorem dX9_must_103 : decode cX9_must 103 = .ok (.istore_n 2, 1) := by decide +kernel
theorem dX9_must_104 : decode cX9_must 104 = .ok (.iload_n 3, 1) := by decide +kernel
theorem dX9_must_105 : decode cX9_must 105 = .ok (.ifCond .ne 8, 3) := by decide +kernel
theorem dX9_must_108 : decode cX9_must 108 = .ok (.iload 5, 2) := by decide +kernel
theorem dX9_must_110 : decode cX9_must 110 = .ok (.ifCond .ne 7, 3) := by decide +kernel
theorem dX9_must_113 : decode cX9_must 113 = .ok (.iconst 1, 1) := by decide +kernel
theorem dX9_must_114 : decode cX9_must 114 = .ok (.goto 4, 3) := by decide +kernel
theorem dX9_must_117 : decode cX9_must 117 = .ok (.iconst 0, 1) := by decide +kernel
theorem dX9_must_118 : decode cX9_must 118 = .ok (.istore_n 3, 1) := by decide +kernel
theorem dX9_must_119 : decode cX9_must 119 = .ok (.iinc 4 1, 3) := by decide +kernel
theorem dX9_must_122 : decode cX9_must 122 = .ok (.goto (-91), 3) := by decide +kernel
theorem dX9_must_125 : decode cX9_must 125 = .ok (.iload_n 2, 1) := by decide +kernel
theorem dX9_must_126 : decode cX9_must 126 = .ok (.iload_n 3, 1) := by decide +kernel
theorem dX9_must_127 : decode cX9_must 127 = .ok (.if_icmp .ne 7, 3) := by decide +kernel
theorem dX9_must_130 : decode cX9_must 130 = .ok (.iconst (-1), 1) := by decide +kernel
theorem dX9_must_131 : decode cX9_must 131 = .ok (.goto 12, 3) := by decide +kernel
theorem dX9_must_134 : decode cX9_must 134 = .ok (.iload_n 2, 1) := by decide +kernel
theorem dX9_must_135 : decode cX9_must 135 = .ok (.ifCond .eq 7, 3) := by decide +kernel
theorem dX9_must_138 : decode cX9_must 138 = .ok (.iconst 1, 1) := by decide +kernel
theorem dX9_must_139 : decode cX9_must 139 = .ok (.goto 4, 3) := by decide +kernel
theorem dX9_must_142 : decode cX9_must 142 = .ok (.iconst 0, 1) := by decide +kernel
theorem dX9_must_143 : decode cX9_must 143 = .ok (.ireturn, 1) := by decide +kernel
theorem dX9_write_0 : decode cX9_write 0 = .ok (.aload_n 0, 1) := by decide +kernel
theorem dX9_write_1 : decode cX9_write 1 = .ok (.getfield 271, 3) := by decide +kernel
theorem dX9_write_4 : decode cX9_write 4 = .ok (.sipush 6000, 3) := by decide +kernel
theorem dX9_write_7 : decode cX9_write 7 = .ok (.if_icmp .gt 23, 3) := by decide +kernel
theorem dX9_write_10 : decode cX9_write 10 = .ok (.aload_n 0, 1) := by decide +kernel
theorem dX9_write_11 : decode cX9_write 11 = .ok (.getfield 75, 3) := by decide +kernel
theorem dX9_write_14 : decode cX9_write 14 = .ok (.aload_n 0, 1) := by decide +kernel
theorem dX9_write_15 : decode cX9_write 15 = .ok (.getfield 271, 3) := by decide +kernel
theorem dX9_write_18 : decode cX9_write 18 = .ok (.iload_n 1, 1) := by decide +kernel
theorem dX9_write_19 : decode cX9_write 19 = .ok (.iastore, 1) := by decide +kernel
theorem dX9_write_20 : decode cX9_write 20 = .ok (.aload_n 0, 1) := by decide +kernel
theorem dX9_write_21 : decode cX9_write 21 = .ok (.dup, 1) := by decide +kernel
theorem dX9_write_22 : decode cX9_write 22 = .ok (.getfield 271, 3) := by decide +kernel
theorem dX9_write_25 : decode cX9_write 25 = .ok (.iconst 1, 1) := by decide +kernel
theorem dX9_write_26 : decode cX9_write 26 = .ok (.iadd, 1) := by decide +kernel
theorem dX9_write_27 : decode cX9_write 27 = .ok (.putfield 271, 3) := by decide +kernel
theorem dX9_write_30 : decode cX9_write 30 = .ok (.return_, 1) := by decide +kernel
theorem dX9_writeItem_0 : decode cX9_writeItem 0 = .ok (.iload_n 1, 1) := by decide +kernel
theorem dX9_writeItem_1 : decode cX9_writeItem 1 = .ok (.bipush 60, 2) := by decide +kernel
theorem dX9_writeItem_3 : decode cX9_writeItem 3 = .ok (.if_icmp .lt 15, 3) := by decide +kernel
theorem dX9_writeItem_6 : decode cX9_writeItem 6 = .ok (.aload_n 0, 1) := by decide +kernel
theorem dX9_writeItem_7 : decode cX9_writeItem 7 = .ok (.bipush 48, 2) := by decide +kernel
theorem dX9_writeItem_9 : decode cX9_writeItem 9 = .ok (.iload_n 1, 1) := by decide +kernel
theorem dX9_writeItem_10 : decode cX9_writeItem 10 = .ok (.iadd, 1) := by decide +kernel
theorem dX9_writeItem_11 : decode cX9_writeItem 11 = .ok (.bipush 60, 2) := by decide +kernel
theorem dX9_writeItem_13 : decode cX9_writeItem 13 = .ok (.isub, 1) := by decide +kernel
theorem dX9_writeItem_14 : decode cX9_writeItem 14 = .ok (.invokevirtual 274, 3) := by decide +kernel
theorem dX9_writeItem_17 : decode cX9_writeItem 17 = .ok (.return_, 1) := by decide +kernel
theorem dX9_writeItem_18 : decode cX9_writeItem 18 = .ok (.aload_n 0, 1) := by decide +kernel
theorem dX9_writeItem_19 : decode cX9_writeItem 19 = .ok (.bipush 91, 2) := by decide +kernel
theorem dX9_writeItem_21 : decode cX9_writeItem 21 = .ok (.invokevirtual 274, 3) := by decide +kernel
theorem dX9_writeItem_24 : decode cX9_writeItem 24 = .ok (.iload_n 1, 1) := by decide +kernel
theorem dX9_writeItem_25 : decode cX9_writeItem 25 = .ok (.bipush 9, 2) := by decide +kernel
theorem dX9_writeItem_27 : decode cX9_writeItem 27 = .ok (.if_icmp .le 14, 3) := by decide +kernel
theorem dX9_writeItem_30 : decode cX9_writeItem 30 = .ok (.aload_n 0, 1) := by decide +kernel
theorem dX9_writeItem_31 : decode cX9_writeItem 31 = .ok (.bipush 48, 2) := by decide +kernel
theorem dX9_writeItem_33 : decode cX9_writeItem 33 = .ok (.iload_n 1, 1) := by decide +kernel
theorem dX9_writeItem_34 : decode cX9_writeItem 34 = .ok (.bipush 10, 2) := by decide +kernel
theorem dX9_writeItem_36 : decode cX9_writeItem 36 = .ok (.idiv, 1) := by decide +kernel
theorem dX9_writeItem_37 : decode cX9_writeItem 37 = .ok (.iadd, 1) := by decide +kernel
theorem dX9_writeItem_38 : decode cX9_writeItem 38 = .ok (.invokevirtual 274, 3) := by decide +kernel
theorem dX9_writeItem_41 : decode cX9_writeItem 41 = .ok (.aload_n 0, 1) := by decide +kernel
theorem dX9_writeItem_42 : decode cX9_writeItem 42 = .ok (.bipush 48, 2) := by decide +kernel
theorem dX9_writeItem_44 : decode cX9_writeItem 44 = .ok (.iload_n 1, 1) := by decide +kernel
theorem dX9_writeItem_45 : decode cX9_writeItem 45 = .ok (.bipush 10, 2) := by decide +kernel
theorem dX9_writeItem_47 : decode cX9_writeItem 47 = .ok (.irem, 1) := by decide +kernel
theorem dX9_writeItem_48 : decode cX9_writeItem 48 = .ok (.iadd, 1) := by decide +kernel
theorem dX9_writeItem_49 : decode cX9_writeItem 49 = .ok (.invokevirtual 274, 3) := by decide +kernel
theorem dX9_writeItem_52 : decode cX9_writeItem 52 = .ok (.aload_n 0, 1) := by decide +kernel
theorem dX9_writeItem_53 : decode cX9_writeItem 53 = .ok (.bipush 93, 2) := by decide +kernel
theorem dX9_writeItem_55 : decode cX9_writeItem 55 = .ok (.invokevirtual 274, 3) := by decide +kernel
theorem dX9_writeItem_58 : decode cX9_writeItem 58 = .ok (.return_, 1) := by decide +kernel
theorem dX9_isRefused_0 : decode cX9_isRefused 0 = .ok (.iload_n 1, 1) := by decide +kernel
theorem dX9_isRefused_1 : decode cX9_isRefused 1 = .ok (.ifCond .ne 5, 3) := by decide +kernel
theorem dX9_isRefused_4 : decode cX9_isRefused 4 = .ok (.iconst 0, 1) := by decide +kernel
theorem dX9_isRefused_5 : decode cX9_isRefused 5 = .ok (.ireturn, 1) := by decide +kernel
theorem dX9_isRefused_6 : decode cX9_isRefused 6 = .ok (.aload_n 0, 1) := by decide +kernel
theorem dX9_isRefused_7 : decode cX9_isRefused 7 = .ok (.invokevirtual 124, 3) := by decide +kernel
theorem dX9_isRefused_10 : decode cX9_isRefused 10 = .ok (.iconst 0, 1) := by decide +kernel
theorem dX9_isRefused_11 : decode cX9_isRefused 11 = .ok (.istore_n 2, 1) := by decide +kernel
theorem dX9_isRefused_12 : decode cX9_isRefused 12 = .ok (.iload_n 2, 1) := by decide +kernel
theorem dX9_isRefused_13 : decode cX9_isRefused 13 = .ok (.iload_n 1, 1) := by decide +kernel
theorem dX9_isRefused_14 : decode cX9_isRefused 14 = .ok (.if_icmp .ge 14, 3) := by decide +kernel
theorem dX9_isRefused_17 : decode cX9_isRefused 17 = .ok (.aload_n 0, 1) := by decide +kernel
theorem dX9_isRefused_18 : decode cX9_isRefused 18 = .ok (.iload_n 2, 1) := by decide +kernel
theorem dX9_isRefused_19 : decode cX9_isRefused 19 = .ok (.invokevirtual 262, 3) := by decide +kernel
theorem dX9_isRefused_22 : decode cX9_isRefused 22 = .ok (.iinc 2 1, 3) := by decide +kernel
theorem dX9_isRefused_25 : decode cX9_isRefused 25 = .ok (.goto (-13), 3) := by decide +kernel
theorem dX9_isRefused_28 : decode cX9_isRefused 28 = .ok (.bipush 60, 2) := by decide +kernel
theorem dX9_isRefused_30 : decode cX9_isRefused 30 = .ok (.iload_n 1, 1) := by decide +kernel
theorem dX9_isRefused_31 : decode cX9_isRefused 31 = .ok (.iadd, 1) := by decide +kernel
theorem dX9_isRefused_32 : decode cX9_isRefused 32 = .ok (.iconst 1, 1) := by decide +kernel
theorem dX9_isRefused_33 : decode cX9_isRefused 33 = .ok (.isub, 1) := by decide +kernel
theorem dX9_isRefused_34 : decode cX9_isRefused 34 = .ok (.istore_n 2, 1) := by decide +kernel
theorem dX9_isRefused_35 : decode cX9_isRefused 35 = .ok (.aload_n 0, 1) := by decide +kernel
theorem dX9_isRefused_36 : decode cX9_isRefused 36 = .ok (.getfield 19, 3) := by decide +kernel
theorem dX9_isRefused_39 : decode cX9_isRefused 39 = .ok (.iload_n 2, 1) := by decide +kernel
theorem dX9_isRefused_40 : decode cX9_isRefused 40 = .ok (.iconst 0, 1) := by decide +kernel
theorem dX9_isRefused_41 : decode cX9_isRefused 41 = .ok (.bastore, 1) := by decide +kernel
theorem dX9_isRefused_42 : decode cX9_isRefused 42 = .ok (.aload_n 0, 1) := by decide +kernel
theorem dX9_isRefused_43 : decode cX9_isRefused 43 = .ok (.aload_n 0, 1) := by decide +kernel
theorem dX9_isRefused_44 : decode cX9_isRefused 44 = .ok (.getfield 13, 3) := by decide +kernel
theorem dX9_isRefused_47 : decode cX9_isRefused 47 = .ok (.iload_n 2, 1) := by decide +kernel
theorem dX9_isRefused_48 : decode cX9_isRefused 48 = .ok (.iaload, 1) := by decide +kernel
theorem dX9_isRefused_49 : decode cX9_isRefused 49 = .ok (.aload_n 0, 1) := by decide +kernel
theorem dX9_isRefused_50 : decode cX9_isRefused 50 = .ok (.getfield 7, 3) := by decide +kernel
theorem dX9_isRefused_53 : decode cX9_isRefused 53 = .ok (.iload_n 2, 1) := by decide +kernel
theorem dX9_isRefused_54 : decode cX9_isRefused 54 = .ok (.iaload, 1) := by decide +kernel
theorem dX9_isRefused_55 : decode cX9_isRefused 55 = .ok (.ldc2_w 127, 3) := by decide +kernel
theorem dX9_isRefused_58 : decode cX9_isRefused 58 = .ok (.aload_n 0, 1) := by decide +kernel
theorem dX9_isRefused_59 : decode cX9_isRefused 59 = .ok (.getfield 16, 3) := by decide +kernel
theorem dX9_isRefused_62 : decode cX9_isRefused 62 = .ok (.iload_n 2, 1) := by decide +kernel
theorem dX9_isRefused_63 : decode cX9_isRefused 63 = .ok (.iaload, 1) := by decide +kernel
theorem dX9_isRefused_64 : decode cX9_isRefused 64 = .ok (.i2l, 1) := by decide +kernel
theorem dX9_isRefused_65 : decode cX9_isRefused 65 = .ok (.lsub, 1) := by decide +kernel
theorem dX9_isRefused_66 : decode cX9_isRefused 66 = .ok (.invokevirtual 129, 3) := by decide +kernel
theorem dX9_isRefused_69 : decode cX9_isRefused 69 = .ok (.ireturn, 1) := by decide +kernel
theorem dX9_writeLeaf_0 : decode cX9_writeLeaf 0 = .ok (.aload_n 0, 1) := by decide +kernel
theorem dX9_writeLeaf_1 : decode cX9_writeLeaf 1 = .ok (.invokevirtual 258, 3) := by decide +kernel
theorem dX9_writeLeaf_4 : decode cX9_writeLeaf 4 = .ok (.ifCond .ne 11, 3) := by decide +kernel
theorem dX9_writeLeaf_7 : decode cX9_writeLeaf 7 = .ok (.aload_n 0, 1) := by decide +kernel
theorem dX9_writeLeaf_8 : decode cX9_writeLeaf 8 = .ok (.bipush 46, 2) := by decide +kernel
theorem dX9_writeLeaf_10 : decode cX9_writeLeaf 10 = .ok (.invokevirtual 274, 3) := by decide +kernel
theorem dX9_writeLeaf_13 : decode cX9_writeLeaf 13 = .ok (.iconst 1, 1) := by decide +kernel
theorem dX9_writeLeaf_14 : decode cX9_writeLeaf 14 = .ok (.ireturn, 1) := by decide +kernel
theorem dX9_writeLeaf_15 : decode cX9_writeLeaf 15 = .ok (.aload_n 0, 1) := by decide +kernel
theorem dX9_writeLeaf_16 : decode cX9_writeLeaf 16 = .ok (.iload_n 1, 1) := by decide +kernel
theorem dX9_writeLeaf_17 : decode cX9_writeLeaf 17 = .ok (.invokevirtual 277, 3) := by decide +kernel
theorem dX9_writeLeaf_20 : decode cX9_writeLeaf 20 = .ok (.ifCond .ne 5, 3) := by decide +kernel
theorem dX9_writeLeaf_23 : decode cX9_writeLeaf 23 = .ok (.iconst 0, 1) := by decide +kernel
theorem dX9_writeLeaf_24 : decode cX9_writeLeaf 24 = .ok (.ireturn, 1) := by decide +kernel
theorem dX9_writeLeaf_25 : decode cX9_writeLeaf 25 = .ok (.aload_n 0, 1) := by decide +kernel
theorem dX9_writeLeaf_26 : decode cX9_writeLeaf 26 = .ok (.bipush 33, 2) := by decide +kernel
theorem dX9_writeLeaf_28 : decode cX9_writeLeaf 28 = .ok (.invokevirtual 274, 3) := by decide +kernel
theorem dX9_writeLeaf_31 : decode cX9_writeLeaf 31 = .ok (.aload_n 0, 1) := by decide +kernel
theorem dX9_writeLeaf_32 : decode cX9_writeLeaf 32 = .ok (.bipush 60, 2) := by decide +kernel
theorem dX9_writeLeaf_34 : decode cX9_writeLeaf 34 = .ok (.iload_n 1, 1) := by decide +kernel
theorem dX9_writeLeaf_35 : decode cX9_writeLeaf 35 = .ok (.iadd, 1) := by decide +kernel
theorem dX9_writeLeaf_36 : decode cX9_writeLeaf 36 = .ok (.iconst 1, 1) := by decide +kernel
theorem dX9_writeLeaf_37 : decode cX9_writeLeaf 37 = .ok (.isub, 1) := by decide +kernel
theorem dX9_writeLeaf_38 : decode cX9_writeLeaf 38 = .ok (.invokevirtual 280, 3) := by decide +kernel
theorem dX9_writeLeaf_41 : decode cX9_writeLeaf 41 = .ok (.iconst 0, 1) := by decide +kernel
theorem dX9_writeLeaf_42 : decode cX9_writeLeaf 42 = .ok (.istore_n 2, 1) := by decide +kernel
theorem dX9_writeLeaf_43 : decode cX9_writeLeaf 43 = .ok (.iload_n 2, 1) := by decide +kernel
theorem dX9_writeLeaf_44 : decode cX9_writeLeaf 44 = .ok (.aload_n 0, 1) := by decide +kernel
theorem dX9_writeLeaf_45 : decode cX9_writeLeaf 45 = .ok (.getfield 109, 3) := by decide +kernel
theorem dX9_writeLeaf_48 : decode cX9_writeLeaf 48 = .ok (.if_icmp .ge 19, 3) := by decide +kernel
theorem dX9_writeLeaf_51 : decode cX9_writeLeaf 51 = .ok (.aload_n 0, 1) := by decide +kernel
theorem dX9_writeLeaf_52 : decode cX9_writeLeaf 52 = .ok (.aload_n 0, 1) := by decide +kernel
theorem dX9_writeLeaf_53 : decode cX9_writeLeaf 53 = .ok (.getfield 33, 3) := by decide +kernel
theorem dX9_writeLeaf_56 : decode cX9_writeLeaf 56 = .ok (.iload_n 2, 1) := by decide +kernel
theorem dX9_writeLeaf_57 : decode cX9_writeLeaf 57 = .ok (.iaload, 1) := by decide +kernel
theorem dX9_writeLeaf_58 : decode cX9_writeLeaf 58 = .ok (.invokevirtual 280, 3) := by decide +kernel
theorem dX9_writeLeaf_61 : decode cX9_writeLeaf 61 = .ok (.iinc 2 1, 3) := by decide +kernel
theorem dX9_writeLeaf_64 : decode cX9_writeLeaf 64 = .ok (.goto (-21), 3) := by decide +kernel
theorem dX9_writeLeaf_67 : decode cX9_writeLeaf 67 = .ok (.aload_n 0, 1) := by decide +kernel
theorem dX9_writeLeaf_68 : decode cX9_writeLeaf 68 = .ok (.bipush 59, 2) := by decide +kernel
theorem dX9_writeLeaf_70 : decode cX9_writeLeaf 70 = .ok (.invokevirtual 274, 3) := by decide +kernel
theorem dX9_writeLeaf_73 : decode cX9_writeLeaf 73 = .ok (.iconst 1, 1) := by decide +kernel
theorem dX9_writeLeaf_74 : decode cX9_writeLeaf 74 = .ok (.ireturn, 1) := by decide +kernel
theorem dX9_writeProof_0 : decode cX9_writeProof 0 = .ok (.iconst 0, 1) := by decide +kernel
theorem dX9_writeProof_1 : decode cX9_writeProof 1 = .ok (.istore_n 1, 1) := by decide +kernel
theorem dX9_writeProof_2 : decode cX9_writeProof 2 = .ok (.iload_n 1, 1) := by decide +kernel
theorem dX9_writeProof_3 : decode cX9_writeProof 3 = .ok (.bipush 10, 2) := by decide +kernel
theorem dX9_writeProof_5 : decode cX9_writeProof 5 = .ok (.if_icmp .ge 16, 3) := by decide +kernel
theorem dX9_writeProof_8 : decode cX9_writeProof 8 = .ok (.aload_n 0, 1) := by decide +kernel
theorem dX9_writeProof_9 : decode cX9_writeProof 9 = .ok (.getfield 69, 3) := by decide +kernel
theorem dX9_writeProof_12 : decode cX9_writeProof 12 = .ok (.iload_n 1, 1) := by decide +kernel
theorem dX9_writeProof_13 : decode cX9_writeProof 13 = .ok (.iconst 2, 1) := by decide +kernel
theorem dX9_writeProof_14 : decode cX9_writeProof 14 = .ok (.iastore, 1) := by decide +kernel
theorem dX9_writeProof_15 : decode cX9_writeProof 15 = .ok (.iinc 1 1, 3) := by decide +kernel
theorem dX9_writeProof_18 : decode cX9_writeProof 18 = .ok (.goto (-16), 3) := by decide +kernel
theorem dX9_writeProof_21 : decode cX9_writeProof 21 = .ok (.iconst 0, 1) := by decide +kernel
theorem dX9_writeProof_22 : decode cX9_writeProof 22 = .ok (.istore_n 1, 1) := by decide +kernel
theorem dX9_writeProof_23 : decode cX9_writeProof 23 = .ok (.iconst 1, 1) := by decide +kernel
theorem dX9_writeProof_24 : decode cX9_writeProof 24 = .ok (.istore_n 2, 1) := by decide +kernel
theorem dX9_writeProof_25 : decode cX9_writeProof 25 = .ok (.iload_n 2, 1) := by decide +kernel
theorem dX9_writeProof_26 : decode cX9_writeProof 26 = .ok (.ifCond .eq 110, 3) := by decide +kernel
theorem dX9_writeProof_29 : decode cX9_writeProof 29 = .ok (.aload_n 0, 1) := by decide +kernel
theorem dX9_writeProof_30 : decode cX9_writeProof 30 = .ok (.getfield 271, 3) := by decide +kernel
theorem dX9_writeProof_33 : decode cX9_writeProof 33 = .ok (.sipush 6000, 3) := by decide +kernel
theorem dX9_writeProof_36 : decode cX9_writeProof 36 = .ok (.if_icmp .gt 100, 3) := by decide +kernel
theorem dX9_writeProof_39 : decode cX9_writeProof 39 = .ok (.aload_n 0, 1) := by decide +kernel
theorem dX9_writeProof_40 : decode cX9_writeProof 40 = .ok (.iload_n 1, 1) := by decide +kernel
theorem dX9_writeProof_41 : decode cX9_writeProof 41 = .ok (.invokevirtual 283, 3) := by decide +kernel
theorem dX9_writeProof_44 : decode cX9_writeProof 44 = .ok (.ifCond .ne 30, 3) := by decide +kernel
theorem dX9_writeProof_47 : decode cX9_writeProof 47 = .ok (.aload_n 0, 1) := by decide +kernel
theorem dX9_writeProof_48 : decode cX9_writeProof 48 = .ok (.bipush 48, 2) := by decide +kernel
theorem dX9_writeProof_50 : decode cX9_writeProof 50 = .ok (.iload_n 1, 1) := by decide +kernel
theorem dX9_writeProof_51 : decode cX9_writeProof 51 = .ok (.iadd, 1) := by decide +kernel
theorem dX9_writeProof_52 : decode cX9_writeProof 52 = .ok (.invokevirtual 274, 3) := by decide +kernel
theorem dX9_writeProof_55 : decode cX9_writeProof 55 = .ok (.aload_n 0, 1) := by decide +kernel
theorem dX9_writeProof_56 : decode cX9_writeProof 56 = .ok (.bipush 40, 2) := by decide +kernel
theorem dX9_writeProof_58 : decode cX9_writeProof 58 = .ok (.invokevirtual 274, 3) := by decide +kernel
theorem dX9_writeProof_61 : decode cX9_writeProof 61 = .ok (.aload_n 0, 1) := by decide +kernel
theorem dX9_writeProof_62 : decode cX9_writeProof 62 = .ok (.getfield 69, 3) := by decide +kernel
theorem dX9_writeProof_65 : decode cX9_writeProof 65 = .ok (.iload_n 1, 1) := by decide +kernel
theorem dX9_writeProof_66 : decode cX9_writeProof 66 = .ok (.iconst 0, 1) := by decide +kernel
theorem dX9_writeProof_67 : decode cX9_writeProof 67 = .ok (.iastore, 1) := by decide +kernel
theorem dX9_writeProof_68 : decode cX9_writeProof 68 = .ok (.iinc 1 1, 3) := by decide +kernel
theorem dX9_writeProof_71 : decode cX9_writeProof 71 = .ok (.goto (-46), 3) := by decide +kernel
theorem dX9_writeProof_74 : decode cX9_writeProof 74 = .ok (.iload_n 1, 1) := by decide +kernel
theorem dX9_writeProof_75 : decode cX9_writeProof 75 = .ok (.ifCond .le 34, 3) := by decide +kernel
theorem dX9_writeProof_78 : decode cX9_writeProof 78 = .ok (.aload_n 0, 1) := by decide +kernel
theorem dX9_writeProof_79 : decode cX9_writeProof 79 = .ok (.getfield 69, 3) := by decide +kernel
theorem dX9_writeProof_82 : decode cX9_writeProof 82 = .ok (.iload_n 1, 1) := by decide +kernel
theorem dX9_writeProof_83 : decode cX9_writeProof 83 = .ok (.iconst 1, 1) := by decide +kernel
theorem dX9_writeProof_84 : decode cX9_writeProof 84 = .ok (.isub, 1) := by decide +kernel
theorem dX9_writeProof_85 : decode cX9_writeProof 85 = .ok (.iaload, 1) := by decide +kernel
theorem dX9_writeProof_86 : decode cX9_writeProof 86 = .ok (.iconst 1, 1) := by decide +kernel
theorem dX9_writeProof_87 : decode cX9_writeProof 87 = .ok (.if_icmp .ne 22, 3) := by decide +kernel
theorem dX9_writeProof_90 : decode cX9_writeProof 90 = .ok (.iinc 1 (-1), 3) := by decide +kernel
theorem dX9_writeProof_93 : decode cX9_writeProof 93 = .ok (.aload_n 0, 1) := by decide +kernel
theorem dX9_writeProof_94 : decode cX9_writeProof 94 = .ok (.getfield 69, 3) := by decide +kernel
theorem dX9_writeProof_97 : decode cX9_writeProof 97 = .ok (.iload_n 1, 1) := by decide +kernel
theorem dX9_writeProof_98 : decode cX9_writeProof 98 = .ok (.iconst 2, 1) := by decide +kernel
theorem dX9_writeProof_99 : decode cX9_writeProof 99 = .ok (.iastore, 1) := by decide +kernel
theorem dX9_writeProof_100 : decode cX9_writeProof 100 = .ok (.aload_n 0, 1) := by decide +kernel
theorem dX9_writeProof_101 : decode cX9_writeProof 101 = .ok (.bipush 41, 2) := by decide +kernel
theorem dX9_writeProof_103 : decode cX9_writeProof 103 = .ok (.invokevirtual 274, 3) := by decide +kernel
theorem dX9_writeProof_106 : decode cX9_writeProof 106 = .ok (.goto (-32), 3) := by decide +kernel
theorem dX9_writeProof_109 : decode cX9_writeProof 109 = .ok (.iload_n 1, 1) := by decide +kernel
theorem dX9_writeProof_110 : decode cX9_writeProof 110 = .ok (.ifCond .ne 8, 3) := by decide +kernel
theorem dX9_writeProof_113 : decode cX9_writeProof 113 = .ok (.iconst 0, 1) := by decide +kernel
theorem dX9_writeProof_114 : decode cX9_writeProof 114 = .ok (.istore_n 2, 1) := by decide +kernel
theorem dX9_writeProof_115 : decode cX9_writeProof 115 = .ok (.goto (-90), 3) := by decide +kernel
theorem dX9_writeProof_118 : decode cX9_writeProof 118 = .ok (.aload_n 0, 1) := by decide +kernel
theorem dX9_writeProof_119 : decode cX9_writeProof 119 = .ok (.bipush 44, 2) := by decide +kernel
theorem dX9_writeProof_121 : decode cX9_writeProof 121 = .ok (.invokevirtual 274, 3) := by decide +kernel
theorem dX9_writeProof_124 : decode cX9_writeProof 124 = .ok (.aload_n 0, 1) := by decide +kernel
theorem dX9_writeProof_125 : decode cX9_writeProof 125 = .ok (.getfield 69, 3) := by decide +kernel
theorem dX9_writeProof_128 : decode cX9_writeProof 128 = .ok (.iload_n 1, 1) := by decide +kernel
theorem dX9_writeProof_129 : decode cX9_writeProof 129 = .ok (.iconst 1, 1) := by decide +kernel
theorem dX9_writeProof_130 : decode cX9_writeProof 130 = .ok (.isub, 1) := by decide +kernel
theorem dX9_writeProof_131 : decode cX9_writeProof 131 = .ok (.iconst 1, 1) := by decide +kernel
theorem dX9_writeProof_132 : decode cX9_writeProof 132 = .ok (.iastore, 1) := by decide +kernel
theorem dX9_writeProof_133 : decode cX9_writeProof 133 = .ok (.goto (-108), 3) := by decide +kernel
theorem dX9_writeProof_136 : decode cX9_writeProof 136 = .ok (.return_, 1) := by decide +kernel
theorem dX9_prove_0 : decode cX9_prove 0 = .ok (.aload_n 0, 1) := by decide +kernel
theorem dX9_prove_1 : decode cX9_prove 1 = .ok (.iconst 0, 1) := by decide +kernel
theorem dX9_prove_2 : decode cX9_prove 2 = .ok (.putfield 91, 3) := by decide +kernel
theorem dX9_prove_5 : decode cX9_prove 5 = .ok (.aload_n 0, 1) := by decide +kernel
theorem dX9_prove_6 : decode cX9_prove 6 = .ok (.iconst 0, 1) := by decide +kernel
theorem dX9_prove_7 : decode cX9_prove 7 = .ok (.putfield 271, 3) := by decide +kernel
theorem dX9_prove_10 : decode cX9_prove 10 = .ok (.aload_n 0, 1) := by decide +kernel
theorem dX9_prove_11 : decode cX9_prove 11 = .ok (.getfield 247, 3) := by decide +kernel
theorem dX9_prove_14 : decode cX9_prove 14 = .ok (.ifCond .eq 10, 3) := by decide +kernel
theorem dX9_prove_17 : decode cX9_prove 17 = .ok (.aload_n 0, 1) := by decide +kernel
theorem dX9_prove_18 : decode cX9_prove 18 = .ok (.invokevirtual 286, 3) := by decide +kernel
theorem dX9_prove_21 : decode cX9_prove 21 = .ok (.ifCond .le 5, 3) := by decide +kernel
theorem dX9_prove_24 : decode cX9_prove 24 = .ok (.iconst (-1), 1) := by decide +kernel
theorem dX9_prove_25 : decode cX9_prove 25 = .ok (.ireturn, 1) := by decide +kernel
theorem dX9_prove_26 : decode cX9_prove 26 = .ok (.aload_n 0, 1) := by decide +kernel
theorem dX9_prove_27 : decode cX9_prove 27 = .ok (.invokevirtual 289, 3) := by decide +kernel
theorem dX9_prove_30 : decode cX9_prove 30 = .ok (.aload_n 0, 1) := by decide +kernel
theorem dX9_prove_31 : decode cX9_prove 31 = .ok (.getfield 271, 3) := by decide +kernel
theorem dX9_prove_34 : decode cX9_prove 34 = .ok (.sipush 6000, 3) := by decide +kernel
theorem dX9_prove_37 : decode cX9_prove 37 = .ok (.if_icmp .le 10, 3) := by decide +kernel
theorem dX9_prove_40 : decode cX9_prove 40 = .ok (.aload_n 0, 1) := by decide +kernel
theorem dX9_prove_41 : decode cX9_prove 41 = .ok (.iconst 0, 1) := by decide +kernel
theorem dX9_prove_42 : decode cX9_prove 42 = .ok (.putfield 271, 3) := by decide +kernel
theorem dX9_prove_45 : decode cX9_prove 45 = .ok (.iconst (-1), 1) := by decide +kernel
theorem dX9_prove_46 : decode cX9_prove 46 = .ok (.ireturn, 1) := by decide +kernel
theorem dX9_prove_47 : decode cX9_prove 47 = .ok (.aload_n 0, 1) := by decide +kernel
theorem dX9_prove_48 : decode cX9_prove 48 = .ok (.getfield 271, 3) := by decide +kernel
theorem dX9_prove_51 : decode cX9_prove 51 = .ok (.ireturn, 1) := by decide +kernel
theorem dX9_written_0 : decode cX9_written 0 = .ok (.aload_n 0, 1) := by decide +kernel
theorem dX9_written_1 : decode cX9_written 1 = .ok (.iload_n 1, 1) := by decide +kernel
theorem dX9_written_2 : decode cX9_written 2 = .ok (.i2l, 1) := by decide +kernel
theorem dX9_written_3 : decode cX9_written 3 = .ok (.lconst 0, 1) := by decide +kernel
theorem dX9_written_4 : decode cX9_written 4 = .ok (.aload_n 0, 1) := by decide +kernel
theorem dX9_written_5 : decode cX9_written 5 = .ok (.getfield 271, 3) := by decide +kernel
theorem dX9_written_8 : decode cX9_written 8 = .ok (.iconst 1, 1) := by decide +kernel
theorem dX9_written_9 : decode cX9_written 9 = .ok (.isub, 1) := by decide +kernel
theorem dX9_written_10 : decode cX9_written 10 = .ok (.i2l, 1) := by decide +kernel
theorem dX9_written_11 : decode cX9_written 11 = .ok (.invokestatic 96, 3) := by decide +kernel
theorem dX9_written_14 : decode cX9_written 14 = .ok (.iconst 1, 1) := by decide +kernel
theorem dX9_written_15 : decode cX9_written 15 = .ok (.iconst 1, 1) := by decide +kernel
theorem dX9_written_16 : decode cX9_written 16 = .ok (.invokevirtual 120, 3) := by decide +kernel
theorem dX9_written_19 : decode cX9_written 19 = .ok (.ifCond .eq 12, 3) := by decide +kernel
theorem dX9_written_22 : decode cX9_written 22 = .ok (.aload_n 0, 1) := by decide +kernel
theorem dX9_written_23 : decode cX9_written 23 = .ok (.getfield 75, 3) := by decide +kernel
theorem dX9_written_26 : decode cX9_written 26 = .ok (.iload_n 1, 1) := by decide +kernel
theorem dX9_written_27 : decode cX9_written 27 = .ok (.iaload, 1) := by decide +kernel
theorem dX9_written_28 : decode cX9_written 28 = .ok (.goto 4, 3) := by decide +kernel
theorem dX9_written_31 : decode cX9_written 31 = .ok (.iconst 0, 1) := by decide +kernel
theorem dX9_written_32 : decode cX9_written 32 = .ok (.ireturn, 1) := by decide +kernel
theorem dX9_here_0 : decode cX9_here 0 = .ok (.aload_n 0, 1) := by decide +kernel
theorem dX9_here_1 : decode cX9_here 1 = .ok (.getfield 292, 3) := by decide +kernel
theorem dX9_here_4 : decode cX9_here 4 = .ok (.aload_n 0, 1) := by decide +kernel
theorem dX9_here_5 : decode cX9_here 5 = .ok (.getfield 295, 3) := by decide +kernel
theorem dX9_here_8 : decode cX9_here 8 = .ok (.if_icmp .ge 15, 3) := by decide +kernel
theorem dX9_here_11 : decode cX9_here 11 = .ok (.aload_n 0, 1) := by decide +kernel
theorem dX9_here_12 : decode cX9_here 12 = .ok (.getfield 78, 3) := by decide +kernel
theorem dX9_here_15 : decode cX9_here 15 = .ok (.aload_n 0, 1) := by decide +kernel
theorem dX9_here_16 : decode cX9_here 16 = .ok (.getfield 292, 3) := by decide +kernel
theorem dX9_here_19 : decode cX9_here 19 = .ok (.iaload, 1) := by decide +kernel
theorem dX9_here_20 : decode cX9_here 20 = .ok (.goto 4, 3) := by decide +kernel
theorem dX9_here_23 : decode cX9_here 23 = .ok (.iconst 0, 1) := by decide +kernel
theorem dX9_here_24 : decode cX9_here 24 = .ok (.ireturn, 1) := by decide +kernel
theorem dX9_wrong_0 : decode cX9_wrong 0 = .ok (.aload_n 0, 1) := by decide +kernel
theorem dX9_wrong_1 : decode cX9_wrong 1 = .ok (.aload_n 0, 1) := by decide +kernel
theorem dX9_wrong_2 : decode cX9_wrong 2 = .ok (.getfield 298, 3) := by decide +kernel
theorem dX9_wrong_5 : decode cX9_wrong 5 = .ok (.iconst (-1), 1) := by decide +kernel
theorem dX9_wrong_6 : decode cX9_wrong 6 = .ok (.if_icmp .ne 7, 3) := by decide +kernel
theorem dX9_wrong_9 : decode cX9_wrong 9 = .ok (.iload_n 1, 1) := by decide +kernel
theorem dX9_wrong_10 : decode cX9_wrong 10 = .ok (.goto 7, 3) := by decide +kernel
theorem dX9_wrong_13 : decode cX9_wrong 13 = .ok (.aload_n 0, 1) := by decide +kernel
theorem dX9_wrong_14 : decode cX9_wrong 14 = .ok (.getfield 298, 3) := by decide +kernel
theorem dX9_wrong_17 : decode cX9_wrong 17 = .ok (.putfield 298, 3) := by decide +kernel
theorem dX9_wrong_20 : decode cX9_wrong 20 = .ok (.return_, 1) := by decide +kernel
theorem dX9_item_0 : decode cX9_item 0 = .ok (.aload_n 0, 1) := by decide +kernel
theorem dX9_item_1 : decode cX9_item 1 = .ok (.getfield 292, 3) := by decide +kernel
theorem dX9_item_4 : decode cX9_item 4 = .ok (.istore_n 1, 1) := by decide +kernel
theorem dX9_item_5 : decode cX9_item 5 = .ok (.aload_n 0, 1) := by decide +kernel
theorem dX9_item_6 : decode cX9_item 6 = .ok (.invokevirtual 301, 3) := by decide +kernel
theorem dX9_item_9 : decode cX9_item 9 = .ok (.istore_n 2, 1) := by decide +kernel
theorem dX9_item_10 : decode cX9_item 10 = .ok (.iload_n 2, 1) := by decide +kernel
theorem dX9_item_11 : decode cX9_item 11 = .ok (.invokestatic 186, 3) := by decide +kernel
theorem dX9_item_14 : decode cX9_item 14 = .ok (.ifCond .eq 60, 3) := by decide +kernel
theorem dX9_item_17 : decode cX9_item 17 = .ok (.iload_n 2, 1) := by decide +kernel
theorem dX9_item_18 : decode cX9_item 18 = .ok (.bipush 48, 2) := by decide +kernel
theorem dX9_item_20 : decode cX9_item 20 = .ok (.isub, 1) := by decide +kernel
theorem dX9_item_21 : decode cX9_item 21 = .ok (.istore_n 3, 1) := by decide +kernel
theorem dX9_item_22 : decode cX9_item 22 = .ok (.iload_n 3, 1) := by decide +kernel
theorem dX9_item_23 : decode cX9_item 23 = .ok (.aload_n 0, 1) := by decide +kernel
theorem dX9_item_24 : decode cX9_item 24 = .ok (.getfield 250, 3) := by decide +kernel
theorem dX9_item_27 : decode cX9_item 27 = .ok (.if_icmp .ge 13, 3) := by decide +kernel
theorem dX9_item_30 : decode cX9_item 30 = .ok (.aload_n 0, 1) := by decide +kernel
theorem dX9_item_31 : decode cX9_item 31 = .ok (.getfield 69, 3) := by decide +kernel
theorem dX9_item_34 : decode cX9_item 34 = .ok (.iload_n 3, 1) := by decide +kernel
theorem dX9_item_35 : decode cX9_item 35 = .ok (.iaload, 1) := by decide +kernel
theorem dX9_item_36 : decode cX9_item 36 = .ok (.iconst 2, 1) := by decide +kernel
theorem dX9_item_37 : decode cX9_item 37 = .ok (.if_icmp .ne 9, 3) := by decide +kernel
theorem dX9_item_40 : decode cX9_item 40 = .ok (.aload_n 0, 1) := by decide +kernel
theorem dX9_item_41 : decode cX9_item 41 = .ok (.iload_n 1, 1) := by decide +kernel
theorem dX9_item_42 : decode cX9_item 42 = .ok (.invokevirtual 304, 3) := by decide +kernel
theorem dX9_item_45 : decode cX9_item 45 = .ok (.return_, 1) := by decide +kernel
theorem dX9_item_46 : decode cX9_item 46 = .ok (.aload_n 0, 1) := by decide +kernel
theorem dX9_item_47 : decode cX9_item 47 = .ok (.invokevirtual 124, 3) := by decide +kernel
theorem dX9_item_50 : decode cX9_item 50 = .ok (.aload_n 0, 1) := by decide +kernel
theorem dX9_item_51 : decode cX9_item 51 = .ok (.iload_n 3, 1) := by decide +kernel
theorem dX9_item_52 : decode cX9_item 52 = .ok (.invokevirtual 262, 3) := by decide +kernel
theorem dX9_item_55 : decode cX9_item 55 = .ok (.aload_n 0, 1) := by decide +kernel
theorem dX9_item_56 : decode cX9_item 56 = .ok (.bipush 60, 2) := by decide +kernel
theorem dX9_item_58 : decode cX9_item 58 = .ok (.iload_n 3, 1) := by decide +kernel
theorem dX9_item_59 : decode cX9_item 59 = .ok (.iadd, 1) := by decide +kernel
theorem dX9_item_60 : decode cX9_item 60 = .ok (.invokevirtual 307, 3) := by decide +kernel
theorem dX9_item_63 : decode cX9_item 63 = .ok (.aload_n 0, 1) := by decide +kernel
theorem dX9_item_64 : decode cX9_item 64 = .ok (.dup, 1) := by decide +kernel
theorem dX9_item_65 : decode cX9_item 65 = .ok (.getfield 292, 3) := by decide +kernel
theorem dX9_item_68 : decode cX9_item 68 = .ok (.iconst 1, 1) := by decide +kernel
theorem dX9_item_69 : decode cX9_item 69 = .ok (.iadd, 1) := by decide +kernel
theorem dX9_item_70 : decode cX9_item 70 = .ok (.putfield 292, 3) := by decide +kernel
theorem dX9_item_73 : decode cX9_item 73 = .ok (.return_, 1) := by decide +kernel
theorem dX9_item_74 : decode cX9_item 74 = .ok (.iload_n 2, 1) := by decide +kernel
theorem dX9_item_75 : decode cX9_item 75 = .ok (.bipush 91, 2) := by decide +kernel
theorem dX9_item_77 : decode cX9_item 77 = .ok (.if_icmp .eq 12, 3) := by decide +kernel
theorem dX9_item_80 : decode cX9_item 80 = .ok (.aload_n 0, 1) := by decide +kernel
theorem dX9_item_81 : decode cX9_item 81 = .ok (.aload_n 0, 1) := by decide +kernel
theorem dX9_item_82 : decode cX9_item 82 = .ok (.getfield 292, 3) := by decide +kernel
theorem dX9_item_85 : decode cX9_item 85 = .ok (.invokevirtual 304, 3) := by decide +kernel
theorem dX9_item_88 : decode cX9_item 88 = .ok (.return_, 1) := by decide +kernel
theorem dX9_item_89 : decode cX9_item 89 = .ok (.aload_n 0, 1) := by decide +kernel
theorem dX9_item_90 : decode cX9_item 90 = .ok (.dup, 1) := by decide +kernel
theorem dX9_item_91 : decode cX9_item 91 = .ok (.getfield 292, 3) := by decide +kernel
theorem dX9_item_94 : decode cX9_item 94 = .ok (.iconst 1, 1) := by decide +kernel
theorem dX9_item_95 : decode cX9_item 95 = .ok (.iadd, 1) := by decide +kernel
theorem dX9_item_96 : decode cX9_item 96 = .ok (.putfield 292, 3) := by decide +kernel
theorem dX9_item_99 : decode cX9_item 99 = .ok (.iconst 0, 1) := by decide +kernel
theorem dX9_item_100 : decode cX9_item 100 = .ok (.istore_n 3, 1) := by decide +kernel
theorem dX9_item_101 : decode cX9_item 101 = .ok (.iconst 0, 1) := by decide +kernel
theorem dX9_item_102 : decode cX9_item 102 = .ok (.istore 4, 2) := by decide +kernel
theorem dX9_item_104 : decode cX9_item 104 = .ok (.aload_n 0, 1) := by decide +kernel
theorem dX9_item_105 : decode cX9_item 105 = .ok (.invokevirtual 301, 3) := by decide +kernel
theorem dX9_item_108 : decode cX9_item 108 = .ok (.invokestatic 186, 3) := by decide +kernel
theorem dX9_item_111 : decode cX9_item 111 = .ok (.ifCond .eq 38, 3) := by decide +kernel
theorem dX9_item_114 : decode cX9_item 114 = .ok (.iload 4, 2) := by decide +kernel
theorem dX9_item_116 : decode cX9_item 116 = .ok (.iconst 2, 1) := by decide +kernel
theorem dX9_item_117 : decode cX9_item 117 = .ok (.if_icmp .ge 32, 3) := by decide +kernel
theorem dX9_item_120 : decode cX9_item 120 = .ok (.bipush 10, 2) := by decide +kernel
theorem dX9_item_122 : decode cX9_item 122 = .ok (.iload_n 3, 1) := by decide +kernel
theorem dX9_item_123 : decode cX9_item 123 = .ok (.imul, 1) := by decide +kernel
theorem dX9_item_124 : decode cX9_item 124 = .ok (.aload_n 0, 1) := by decide +kernel
theorem dX9_item_125 : decode cX9_item 125 = .ok (.invokevirtual 301, 3) := by decide +kernel
theorem dX9_item_128 : decode cX9_item 128 = .ok (.iadd, 1) := by decide +kernel
theorem dX9_item_129 : decode cX9_item 129 = .ok (.bipush 48, 2) := by decide +kernel
theorem dX9_item_131 : decode cX9_item 131 = .ok (.isub, 1) := by decide +kernel
theorem dX9_item_132 : decode cX9_item 132 = .ok (.istore_n 3, 1) := by decide +kernel
theorem dX9_item_133 : decode cX9_item 133 = .ok (.iinc 4 1, 3) := by decide +kernel
theorem dX9_item_136 : decode cX9_item 136 = .ok (.aload_n 0, 1) := by decide +kernel
theorem dX9_item_137 : decode cX9_item 137 = .ok (.dup, 1) := by decide +kernel
theorem dX9_item_138 : decode cX9_item 138 = .ok (.getfield 292, 3) := by decide +kernel
theorem dX9_item_141 : decode cX9_item 141 = .ok (.iconst 1, 1) := by decide +kernel
theorem dX9_item_142 : decode cX9_item 142 = .ok (.iadd, 1) := by decide +kernel
theorem dX9_item_143 : decode cX9_item 143 = .ok (.putfield 292, 3) := by decide +kernel
theorem dX9_item_146 : decode cX9_item 146 = .ok (.goto (-42), 3) := by decide +kernel
theorem dX9_item_149 : decode cX9_item 149 = .ok (.iload 4, 2) := by decide +kernel
theorem dX9_item_151 : decode cX9_item 151 = .ok (.ifCond .eq 12, 3) := by decide +kernel
theorem dX9_item_154 : decode cX9_item 154 = .ok (.aload_n 0, 1) := by decide +kernel
theorem dX9_item_155 : decode cX9_item 155 = .ok (.invokevirtual 301, 3) := by decide +kernel
theorem dX9_item_158 : decode cX9_item 158 = .ok (.bipush 93, 2) := by decide +kernel
theorem dX9_item_160 : decode cX9_item 160 = .ok (.if_icmp .eq 12, 3) := by decide +kernel
theorem dX9_item_163 : decode cX9_item 163 = .ok (.aload_n 0, 1) := by decide +kernel
theorem dX9_item_164 : decode cX9_item 164 = .ok (.aload_n 0, 1) := by decide +kernel
theorem dX9_item_165 : decode cX9_item 165 = .ok (.getfield 292, 3) := by decide +kernel
theorem dX9_item_168 : decode cX9_item 168 = .ok (.invokevirtual 304, 3) := by decide +kernel
theorem dX9_item_171 : decode cX9_item 171 = .ok (.return_, 1) := by decide +kernel
theorem dX9_item_172 : decode cX9_item 172 = .ok (.iload_n 3, 1) := by decide +kernel
theorem dX9_item_173 : decode cX9_item 173 = .ok (.aload_n 0, 1) := by decide +kernel
theorem dX9_item_174 : decode cX9_item 174 = .ok (.getfield 100, 3) := by decide +kernel
theorem dX9_item_177 : decode cX9_item 177 = .ok (.if_icmp .lt 9, 3) := by decide +kernel
theorem dX9_item_180 : decode cX9_item 180 = .ok (.aload_n 0, 1) := by decide +kernel
theorem dX9_item_181 : decode cX9_item 181 = .ok (.iload_n 1, 1) := by decide +kernel
theorem dX9_item_182 : decode cX9_item 182 = .ok (.invokevirtual 304, 3) := by decide +kernel
theorem dX9_item_185 : decode cX9_item 185 = .ok (.return_, 1) := by decide +kernel
theorem dX9_item_186 : decode cX9_item 186 = .ok (.aload_n 0, 1) := by decide +kernel
theorem dX9_item_187 : decode cX9_item 187 = .ok (.iload_n 3, 1) := by decide +kernel
theorem dX9_item_188 : decode cX9_item 188 = .ok (.invokevirtual 307, 3) := by decide +kernel
theorem dX9_item_191 : decode cX9_item 191 = .ok (.aload_n 0, 1) := by decide +kernel
theorem dX9_item_192 : decode cX9_item 192 = .ok (.dup, 1) := by decide +kernel
theorem dX9_item_193 : decode cX9_item 193 = .ok (.getfield 292, 3) := by decide +kernel
theorem dX9_item_196 : decode cX9_item 196 = .ok (.iconst 1, 1) := by decide +kernel
theorem dX9_item_197 : decode cX9_item 197 = .ok (.iadd, 1) := by decide +kernel
theorem dX9_item_198 : decode cX9_item 198 = .ok (.putfield 292, 3) := by decide +kernel
theorem dX9_item_201 : decode cX9_item 201 = .ok (.return_, 1) := by decide +kernel
theorem dX9_takeItem_0 : decode cX9_takeItem 0 = .ok (.aload_n 0, 1) := by decide +kernel
theorem dX9_takeItem_1 : decode cX9_takeItem 1 = .ok (.aload_n 0, 1) := by decide +kernel
theorem dX9_takeItem_2 : decode cX9_takeItem 2 = .ok (.getfield 7, 3) := by decide +kernel
theorem dX9_takeItem_5 : decode cX9_takeItem 5 = .ok (.iload_n 1, 1) := by decide +kernel
theorem dX9_takeItem_6 : decode cX9_takeItem 6 = .ok (.iaload, 1) := by decide +kernel
theorem dX9_takeItem_7 : decode cX9_takeItem 7 = .ok (.putfield 310, 3) := by decide +kernel
theorem dX9_takeItem_10 : decode cX9_takeItem 10 = .ok (.aload_n 0, 1) := by decide +kernel
theorem dX9_takeItem_11 : decode cX9_takeItem 11 = .ok (.aload_n 0, 1) := by decide +kernel
theorem dX9_takeItem_12 : decode cX9_takeItem 12 = .ok (.getfield 13, 3) := by decide +kernel
theorem dX9_takeItem_15 : decode cX9_takeItem 15 = .ok (.iload_n 1, 1) := by decide +kernel
theorem dX9_takeItem_16 : decode cX9_takeItem 16 = .ok (.iaload, 1) := by decide +kernel
theorem dX9_takeItem_17 : decode cX9_takeItem 17 = .ok (.putfield 313, 3) := by decide +kernel
theorem dX9_takeItem_20 : decode cX9_takeItem 20 = .ok (.aload_n 0, 1) := by decide +kernel
theorem dX9_takeItem_21 : decode cX9_takeItem 21 = .ok (.aload_n 0, 1) := by decide +kernel
theorem dX9_takeItem_22 : decode cX9_takeItem 22 = .ok (.getfield 16, 3) := by decide +kernel
theorem dX9_takeItem_25 : decode cX9_takeItem 25 = .ok (.iload_n 1, 1) := by decide +kernel
theorem dX9_takeItem_26 : decode cX9_takeItem 26 = .ok (.iaload, 1) := by decide +kernel
theorem dX9_takeItem_27 : decode cX9_takeItem 27 = .ok (.putfield 316, 3) := by decide +kernel
theorem dX9_takeItem_30 : decode cX9_takeItem 30 = .ok (.return_, 1) := by decide +kernel
theorem dX9_round_0 : decode cX9_round 0 = .ok (.aload_n 0, 1) := by decide +kernel
theorem dX9_round_1 : decode cX9_round 1 = .ok (.dup, 1) := by decide +kernel
theorem dX9_round_2 : decode cX9_round 2 = .ok (.getfield 292, 3) := by decide +kernel
theorem dX9_round_5 : decode cX9_round 5 = .ok (.iconst 1, 1) := by decide +kernel
theorem dX9_round_6 : decode cX9_round 6 = .ok (.iadd, 1) := by decide +kernel
theorem dX9_round_7 : decode cX9_round 7 = .ok (.putfield 292, 3) := by decide +kernel
theorem dX9_round_10 : decode cX9_round 10 = .ok (.iconst 0, 1) := by decide +kernel
theorem dX9_round_11 : decode cX9_round 11 = .ok (.istore_n 1, 1) := by decide +kernel
theorem dX9_round_12 : decode cX9_round 12 = .ok (.iconst 0, 1) := by decide +kernel
theorem dX9_round_13 : decode cX9_round 13 = .ok (.istore_n 2, 1) := by decide +kernel
theorem dX9_round_14 : decode cX9_round 14 = .ok (.iconst 0, 1) := by decide +kernel
theorem dX9_round_15 : decode cX9_round 15 = .ok (.istore_n 3, 1) := by decide +kernel
theorem dX9_round_16 : decode cX9_round 16 = .ok (.lconst 0, 1) := by decide +kernel
theorem dX9_round_17 : decode cX9_round 17 = .ok (.lstore 4, 2) := by decide +kernel
theorem dX9_round_19 : decode cX9_round 19 = .ok (.aload_n 0, 1) := by decide +kernel
theorem dX9_round_20 : decode cX9_round 20 = .ok (.getfield 298, 3) := by decide +kernel
theorem dX9_round_23 : decode cX9_round 23 = .ok (.iconst (-1), 1) := by decide +kernel
theorem dX9_round_24 : decode cX9_round 24 = .ok (.if_icmp .ne 82, 3) := by decide +kernel
theorem dX9_round_27 : decode cX9_round 27 = .ok (.aload_n 0, 1) := by decide +kernel
theorem dX9_round_28 : decode cX9_round 28 = .ok (.invokevirtual 301, 3) := by decide +kernel
theorem dX9_round_31 : decode cX9_round 31 = .ok (.bipush 59, 2) := by decide +kernel
theorem dX9_round_33 : decode cX9_round 33 = .ok (.if_icmp .eq 73, 3) := by decide +kernel
theorem dX9_round_36 : decode cX9_round 36 = .ok (.aload_n 0, 1) := by decide +kernel
theorem dX9_round_37 : decode cX9_round 37 = .ok (.getfield 292, 3) := by decide +kernel
theorem dX9_round_40 : decode cX9_round 40 = .ok (.istore 6, 2) := by decide +kernel
theorem dX9_round_42 : decode cX9_round 42 = .ok (.aload_n 0, 1) := by decide +kernel
theorem dX9_round_43 : decode cX9_round 43 = .ok (.invokevirtual 319, 3) := by decide +kernel
theorem dX9_round_46 : decode cX9_round 46 = .ok (.aload_n 0, 1) := by decide +kernel
theorem dX9_round_47 : decode cX9_round 47 = .ok (.getfield 298, 3) := by decide +kernel
theorem dX9_round_50 : decode cX9_round 50 = .ok (.iconst (-1), 1) := by decide +kernel
theorem dX9_round_51 : decode cX9_round 51 = .ok (.if_icmp .ne 21, 3) := by decide +kernel
theorem dX9_round_54 : decode cX9_round 54 = .ok (.iload_n 1, 1) := by decide +kernel
theorem dX9_round_55 : decode cX9_round 55 = .ok (.ifCond .le 17, 3) := by decide +kernel
theorem dX9_round_58 : decode cX9_round 58 = .ok (.aload_n 0, 1) := by decide +kernel
theorem dX9_round_59 : decode cX9_round 59 = .ok (.getfield 310, 3) := by decide +kernel
theorem dX9_round_62 : decode cX9_round 62 = .ok (.iload_n 3, 1) := by decide +kernel
theorem dX9_round_63 : decode cX9_round 63 = .ok (.if_icmp .eq 9, 3) := by decide +kernel
theorem dX9_round_66 : decode cX9_round 66 = .ok (.aload_n 0, 1) := by decide +kernel
theorem dX9_round_67 : decode cX9_round 67 = .ok (.iload 6, 2) := by decide +kernel
theorem dX9_round_69 : decode cX9_round 69 = .ok (.invokevirtual 304, 3) := by decide +kernel
theorem dX9_round_72 : decode cX9_round 72 = .ok (.iload_n 1, 1) := by decide +kernel
theorem dX9_round_73 : decode cX9_round 73 = .ok (.ifCond .ne 10, 3) := by decide +kernel
theorem dX9_round_76 : decode cX9_round 76 = .ok (.aload_n 0, 1) := by decide +kernel
theorem dX9_round_77 : decode cX9_round 77 = .ok (.getfield 310, 3) := by decide +kernel
theorem dX9_round_80 : decode cX9_round 80 = .ok (.goto 4, 3) := by decide +kernel
theorem dX9_round_83 : decode cX9_round 83 = .ok (.iload_n 2, 1) := by decide +kernel
theorem dX9_round_84 : decode cX9_round 84 = .ok (.istore_n 2, 1) := by decide +kernel
theorem dX9_round_85 : decode cX9_round 85 = .ok (.aload_n 0, 1) := by decide +kernel
theorem dX9_round_86 : decode cX9_round 86 = .ok (.getfield 313, 3) := by decide +kernel
theorem dX9_round_89 : decode cX9_round 89 = .ok (.istore_n 3, 1) := by decide +kernel
theorem dX9_round_90 : decode cX9_round 90 = .ok (.lload 4, 2) := by decide +kernel
theorem dX9_round_92 : decode cX9_round 92 = .ok (.aload_n 0, 1) := by decide +kernel
theorem dX9_round_93 : decode cX9_round 93 = .ok (.getfield 316, 3) := by decide +kernel
theorem dX9_round_96 : decode cX9_round 96 = .ok (.i2l, 1) := by decide +kernel
theorem dX9_round_97 : decode cX9_round 97 = .ok (.ladd, 1) := by decide +kernel
theorem dX9_round_98 : decode cX9_round 98 = .ok (.lstore 4, 2) := by decide +kernel
theorem dX9_round_100 : decode cX9_round 100 = .ok (.iinc 1 1, 3) := by decide +kernel
theorem dX9_round_103 : decode cX9_round 103 = .ok (.goto (-84), 3) := by decide +kernel
theorem dX9_round_106 : decode cX9_round 106 = .ok (.iload_n 1, 1) := by decide +kernel
theorem dX9_round_107 : decode cX9_round 107 = .ok (.ifCond .eq 15, 3) := by decide +kernel
theorem dX9_round_110 : decode cX9_round 110 = .ok (.iload_n 3, 1) := by decide +kernel
theorem dX9_round_111 : decode cX9_round 111 = .ok (.iload_n 2, 1) := by decide +kernel
theorem dX9_round_112 : decode cX9_round 112 = .ok (.if_icmp .ne 10, 3) := by decide +kernel
theorem dX9_round_115 : decode cX9_round 115 = .ok (.lload 4, 2) := by decide +kernel
theorem dX9_round_117 : decode cX9_round 117 = .ok (.lconst 0, 1) := by decide +kernel
theorem dX9_round_118 : decode cX9_round 118 = .ok (.lcmp, 1) := by decide +kernel
theorem dX9_round_119 : decode cX9_round 119 = .ok (.ifCond .lt 11, 3) := by decide +kernel
theorem dX9_round_122 : decode cX9_round 122 = .ok (.aload_n 0, 1) := by decide +kernel
theorem dX9_round_123 : decode cX9_round 123 = .ok (.aload_n 0, 1) := by decide +kernel
theorem dX9_round_124 : decode cX9_round 124 = .ok (.getfield 292, 3) := by decide +kernel
theorem dX9_round_127 : decode cX9_round 127 = .ok (.invokevirtual 304, 3) := by decide +kernel
theorem dX9_round_130 : decode cX9_round 130 = .ok (.aload_n 0, 1) := by decide +kernel
theorem dX9_round_131 : decode cX9_round 131 = .ok (.dup, 1) := by decide +kernel
theorem dX9_round_132 : decode cX9_round 132 = .ok (.getfield 292, 3) := by decide +kernel
theorem dX9_round_135 : decode cX9_round 135 = .ok (.iconst 1, 1) := by decide +kernel
theorem dX9_round_136 : decode cX9_round 136 = .ok (.iadd, 1) := by decide +kernel
theorem dX9_round_137 : decode cX9_round 137 = .ok (.putfield 292, 3) := by decide +kernel
theorem dX9_round_140 : decode cX9_round 140 = .ok (.return_, 1) := by decide +kernel
theorem dX9_leaf_0 : decode cX9_leaf 0 = .ok (.aload_n 0, 1) := by decide +kernel
theorem dX9_leaf_1 : decode cX9_leaf 1 = .ok (.invokevirtual 301, 3) := by decide +kernel
theorem dX9_leaf_4 : decode cX9_leaf 4 = .ok (.istore_n 2, 1) := by decide +kernel
theorem dX9_leaf_5 : decode cX9_leaf 5 = .ok (.iload_n 2, 1) := by decide +kernel
theorem dX9_leaf_6 : decode cX9_leaf 6 = .ok (.bipush 46, 2) := by decide +kernel
theorem dX9_leaf_8 : decode cX9_leaf 8 = .ok (.if_icmp .ne 30, 3) := by decide +kernel
theorem dX9_leaf_11 : decode cX9_leaf 11 = .ok (.aload_n 0, 1) := by decide +kernel
theorem dX9_leaf_12 : decode cX9_leaf 12 = .ok (.invokevirtual 258, 3) := by decide +kernel
theorem dX9_leaf_15 : decode cX9_leaf 15 = .ok (.ifCond .eq 11, 3) := by decide +kernel
theorem dX9_leaf_18 : decode cX9_leaf 18 = .ok (.aload_n 0, 1) := by decide +kernel
theorem dX9_leaf_19 : decode cX9_leaf 19 = .ok (.aload_n 0, 1) := by decide +kernel
theorem dX9_leaf_20 : decode cX9_leaf 20 = .ok (.getfield 292, 3) := by decide +kernel
theorem dX9_leaf_23 : decode cX9_leaf 23 = .ok (.invokevirtual 304, 3) := by decide +kernel
theorem dX9_leaf_26 : decode cX9_leaf 26 = .ok (.aload_n 0, 1) := by decide +kernel
theorem dX9_leaf_27 : decode cX9_leaf 27 = .ok (.dup, 1) := by decide +kernel
theorem dX9_leaf_28 : decode cX9_leaf 28 = .ok (.getfield 292, 3) := by decide +kernel
theorem dX9_leaf_31 : decode cX9_leaf 31 = .ok (.iconst 1, 1) := by decide +kernel
theorem dX9_leaf_32 : decode cX9_leaf 32 = .ok (.iadd, 1) := by decide +kernel
theorem dX9_leaf_33 : decode cX9_leaf 33 = .ok (.putfield 292, 3) := by decide +kernel
theorem dX9_leaf_36 : decode cX9_leaf 36 = .ok (.iconst 1, 1) := by decide +kernel
theorem dX9_leaf_37 : decode cX9_leaf 37 = .ok (.ireturn, 1) := by decide +kernel
theorem dX9_leaf_38 : decode cX9_leaf 38 = .ok (.iload_n 2, 1) := by decide +kernel
theorem dX9_leaf_39 : decode cX9_leaf 39 = .ok (.bipush 33, 2) := by decide +kernel
theorem dX9_leaf_41 : decode cX9_leaf 41 = .ok (.if_icmp .ne 9, 3) := by decide +kernel
theorem dX9_leaf_44 : decode cX9_leaf 44 = .ok (.aload_n 0, 1) := by decide +kernel
theorem dX9_leaf_45 : decode cX9_leaf 45 = .ok (.invokevirtual 322, 3) := by decide +kernel
theorem dX9_leaf_48 : decode cX9_leaf 48 = .ok (.iconst 1, 1) := by decide +kernel
theorem dX9_leaf_49 : decode cX9_leaf 49 = .ok (.ireturn, 1) := by decide +kernel
theorem dX9_leaf_50 : decode cX9_leaf 50 = .ok (.iload_n 2, 1) := by decide +kernel
theorem dX9_leaf_51 : decode cX9_leaf 51 = .ok (.bipush 48, 2) := by decide +kernel
theorem dX9_leaf_53 : decode cX9_leaf 53 = .ok (.isub, 1) := by decide +kernel
theorem dX9_leaf_54 : decode cX9_leaf 54 = .ok (.istore_n 3, 1) := by decide +kernel
theorem dX9_leaf_55 : decode cX9_leaf 55 = .ok (.iload_n 2, 1) := by decide +kernel
theorem dX9_leaf_56 : decode cX9_leaf 56 = .ok (.invokestatic 186, 3) := by decide +kernel
theorem dX9_leaf_59 : decode cX9_leaf 59 = .ok (.ifCond .eq 21, 3) := by decide +kernel
theorem dX9_leaf_62 : decode cX9_leaf 62 = .ok (.iload_n 3, 1) := by decide +kernel
theorem dX9_leaf_63 : decode cX9_leaf 63 = .ok (.aload_n 0, 1) := by decide +kernel
theorem dX9_leaf_64 : decode cX9_leaf 64 = .ok (.getfield 250, 3) := by decide +kernel
theorem dX9_leaf_67 : decode cX9_leaf 67 = .ok (.if_icmp .ge 13, 3) := by decide +kernel
theorem dX9_leaf_70 : decode cX9_leaf 70 = .ok (.aload_n 0, 1) := by decide +kernel
theorem dX9_leaf_71 : decode cX9_leaf 71 = .ok (.getfield 69, 3) := by decide +kernel
theorem dX9_leaf_74 : decode cX9_leaf 74 = .ok (.iload_n 3, 1) := by decide +kernel
theorem dX9_leaf_75 : decode cX9_leaf 75 = .ok (.iaload, 1) := by decide +kernel
theorem dX9_leaf_76 : decode cX9_leaf 76 = .ok (.iconst 2, 1) := by decide +kernel
theorem dX9_leaf_77 : decode cX9_leaf 77 = .ok (.if_icmp .eq 13, 3) := by decide +kernel
theorem dX9_leaf_80 : decode cX9_leaf 80 = .ok (.aload_n 0, 1) := by decide +kernel
theorem dX9_leaf_81 : decode cX9_leaf 81 = .ok (.aload_n 0, 1) := by decide +kernel
theorem dX9_leaf_82 : decode cX9_leaf 82 = .ok (.getfield 292, 3) := by decide +kernel
theorem dX9_leaf_85 : decode cX9_leaf 85 = .ok (.invokevirtual 304, 3) := by decide +kernel
theorem dX9_leaf_88 : decode cX9_leaf 88 = .ok (.iconst 1, 1) := by decide +kernel
theorem dX9_leaf_89 : decode cX9_leaf 89 = .ok (.ireturn, 1) := by decide +kernel
theorem dX9_leaf_90 : decode cX9_leaf 90 = .ok (.aload_n 0, 1) := by decide +kernel
theorem dX9_leaf_91 : decode cX9_leaf 91 = .ok (.dup, 1) := by decide +kernel
theorem dX9_leaf_92 : decode cX9_leaf 92 = .ok (.getfield 292, 3) := by decide +kernel
theorem dX9_leaf_95 : decode cX9_leaf 95 = .ok (.iconst 1, 1) := by decide +kernel
theorem dX9_leaf_96 : decode cX9_leaf 96 = .ok (.iadd, 1) := by decide +kernel
theorem dX9_leaf_97 : decode cX9_leaf 97 = .ok (.putfield 292, 3) := by decide +kernel
theorem dX9_leaf_100 : decode cX9_leaf 100 = .ok (.aload_n 0, 1) := by decide +kernel
theorem dX9_leaf_101 : decode cX9_leaf 101 = .ok (.invokevirtual 301, 3) := by decide +kernel
theorem dX9_leaf_104 : decode cX9_leaf 104 = .ok (.bipush 40, 2) := by decide +kernel
theorem dX9_leaf_106 : decode cX9_leaf 106 = .ok (.if_icmp .eq 13, 3) := by decide +kernel
theorem dX9_leaf_109 : decode cX9_leaf 109 = .ok (.aload_n 0, 1) := by decide +kernel
theorem dX9_leaf_110 : decode cX9_leaf 110 = .ok (.aload_n 0, 1) := by decide +kernel
theorem dX9_leaf_111 : decode cX9_leaf 111 = .ok (.getfield 292, 3) := by decide +kernel
theorem dX9_leaf_114 : decode cX9_leaf 114 = .ok (.invokevirtual 304, 3) := by decide +kernel
theorem dX9_leaf_117 : decode cX9_leaf 117 = .ok (.iconst 1, 1) := by decide +kernel
theorem dX9_leaf_118 : decode cX9_leaf 118 = .ok (.ireturn, 1) := by decide +kernel
theorem dX9_leaf_119 : decode cX9_leaf 119 = .ok (.aload_n 0, 1) := by decide +kernel
theorem dX9_leaf_120 : decode cX9_leaf 120 = .ok (.dup, 1) := by decide +kernel
theorem dX9_leaf_121 : decode cX9_leaf 121 = .ok (.getfield 292, 3) := by decide +kernel
theorem dX9_leaf_124 : decode cX9_leaf 124 = .ok (.iconst 1, 1) := by decide +kernel
theorem dX9_leaf_125 : decode cX9_leaf 125 = .ok (.iadd, 1) := by decide +kernel
theorem dX9_leaf_126 : decode cX9_leaf 126 = .ok (.putfield 292, 3) := by decide +kernel
theorem dX9_leaf_129 : decode cX9_leaf 129 = .ok (.aload_n 0, 1) := by decide +kernel
theorem dX9_leaf_130 : decode cX9_leaf 130 = .ok (.getfield 81, 3) := by decide +kernel
theorem dX9_leaf_133 : decode cX9_leaf 133 = .ok (.iload_n 1, 1) := by decide +kernel
theorem dX9_leaf_134 : decode cX9_leaf 134 = .ok (.iload_n 3, 1) := by decide +kernel
theorem dX9_leaf_135 : decode cX9_leaf 135 = .ok (.iastore, 1) := by decide +kernel
theorem dX9_leaf_136 : decode cX9_leaf 136 = .ok (.aload_n 0, 1) := by decide +kernel
theorem dX9_leaf_137 : decode cX9_leaf 137 = .ok (.getfield 84, 3) := by decide +kernel
theorem dX9_leaf_140 : decode cX9_leaf 140 = .ok (.iload_n 1, 1) := by decide +kernel
theorem dX9_leaf_141 : decode cX9_leaf 141 = .ok (.iconst 0, 1) := by decide +kernel
theorem dX9_leaf_142 : decode cX9_leaf 142 = .ok (.bastore, 1) := by decide +kernel
theorem dX9_leaf_143 : decode cX9_leaf 143 = .ok (.aload_n 0, 1) := by decide +kernel
theorem dX9_leaf_144 : decode cX9_leaf 144 = .ok (.getfield 69, 3) := by decide +kernel
theorem dX9_leaf_147 : decode cX9_leaf 147 = .ok (.iload_n 3, 1) := by decide +kernel
theorem dX9_leaf_148 : decode cX9_leaf 148 = .ok (.iconst 0, 1) := by decide +kernel
theorem dX9_leaf_149 : decode cX9_leaf 149 = .ok (.iastore, 1) := by decide +kernel
theorem dX9_leaf_150 : decode cX9_leaf 150 = .ok (.iconst 0, 1) := by decide +kernel
theorem dX9_leaf_151 : decode cX9_leaf 151 = .ok (.ireturn, 1) := by decide +kernel
theorem dX9_goThrough_0 : decode cX9_goThrough 0 = .ok (.iconst 0, 1) := by decide +kernel
theorem dX9_goThrough_1 : decode cX9_goThrough 1 = .ok (.istore_n 1, 1) := by decide +kernel
theorem dX9_goThrough_2 : decode cX9_goThrough 2 = .ok (.iload_n 1, 1) := by decide +kernel
theorem dX9_goThrough_3 : decode cX9_goThrough 3 = .ok (.bipush 10, 2) := by decide +kernel
theorem dX9_goThrough_5 : decode cX9_goThrough 5 = .ok (.if_icmp .ge 16, 3) := by decide +kernel
theorem dX9_goThrough_8 : decode cX9_goThrough 8 = .ok (.aload_n 0, 1) := by decide +kernel
theorem dX9_goThrough_9 : decode cX9_goThrough 9 = .ok (.getfield 69, 3) := by decide +kernel
theorem dX9_goThrough_12 : decode cX9_goThrough 12 = .ok (.iload_n 1, 1) := by decide +kernel
theorem dX9_goThrough_13 : decode cX9_goThrough 13 = .ok (.iconst 2, 1) := by decide +kernel
theorem dX9_goThrough_14 : decode cX9_goThrough 14 = .ok (.iastore, 1) := by decide +kernel
theorem dX9_goThrough_15 : decode cX9_goThrough 15 = .ok (.iinc 1 1, 3) := by decide +kernel
theorem dX9_goThrough_18 : decode cX9_goThrough 18 = .ok (.goto (-16), 3) := by decide +kernel
theorem dX9_goThrough_21 : decode cX9_goThrough 21 = .ok (.aload_n 0, 1) := by decide +kernel
theorem dX9_goThrough_22 : decode cX9_goThrough 22 = .ok (.iconst 0, 1) := by decide +kernel
theorem dX9_goThrough_23 : decode cX9_goThrough 23 = .ok (.putfield 292, 3) := by decide +kernel
theorem dX9_goThrough_26 : decode cX9_goThrough 26 = .ok (.aload_n 0, 1) := by decide +kernel
theorem dX9_goThrough_27 : decode cX9_goThrough 27 = .ok (.iconst (-1), 1) := by decide +kernel
theorem dX9_goThrough_28 : decode cX9_goThrough 28 = .ok (.putfield 298, 3) := by decide +kernel
theorem dX9_goThrough_31 : decode cX9_goThrough 31 = .ok (.iconst 0, 1) := by decide +kernel
theorem dX9_goThrough_32 : decode cX9_goThrough 32 = .ok (.istore_n 1, 1) := by decide +kernel
theorem dX9_goThrough_33 : decode cX9_goThrough 33 = .ok (.iconst 1, 1) := by decide +kernel
theorem dX9_goThrough_34 : decode cX9_goThrough 34 = .ok (.istore_n 2, 1) := by decide +kernel
theorem dX9_goThrough_35 : decode cX9_goThrough 35 = .ok (.iload_n 2, 1) := by decide +kernel
theorem dX9_goThrough_36 : decode cX9_goThrough 36 = .ok (.ifCond .eq 164, 3) := by decide +kernel
theorem dX9_goThrough_39 : decode cX9_goThrough 39 = .ok (.aload_n 0, 1) := by decide +kernel
theorem dX9_goThrough_40 : decode cX9_goThrough 40 = .ok (.getfield 298, 3) := by decide +kernel
theorem dX9_goThrough_43 : decode cX9_goThrough 43 = .ok (.iconst (-1), 1) := by decide +kernel
theorem dX9_goThrough_44 : decode cX9_goThrough 44 = .ok (.if_icmp .ne 156, 3) := by decide +kernel
theorem dX9_goThrough_47 : decode cX9_goThrough 47 = .ok (.aload_n 0, 1) := by decide +kernel
theorem dX9_goThrough_48 : decode cX9_goThrough 48 = .ok (.iload_n 1, 1) := by decide +kernel
theorem dX9_goThrough_49 : decode cX9_goThrough 49 = .ok (.invokevirtual 325, 3) := by decide +kernel
theorem dX9_goThrough_52 : decode cX9_goThrough 52 = .ok (.ifCond .ne 9, 3) := by decide +kernel
theorem dX9_goThrough_55 : decode cX9_goThrough 55 = .ok (.iinc 1 1, 3) := by decide +kernel
theorem dX9_goThrough_58 : decode cX9_goThrough 58 = .ok (.goto (-23), 3) := by decide +kernel
theorem dX9_goThrough_61 : decode cX9_goThrough 61 = .ok (.iconst 1, 1) := by decide +kernel
theorem dX9_goThrough_62 : decode cX9_goThrough 62 = .ok (.istore_n 3, 1) := by decide +kernel
theorem dX9_goThrough_63 : decode cX9_goThrough 63 = .ok (.iload_n 3, 1) := by decide +kernel
theorem dX9_goThrough_64 : decode cX9_goThrough 64 = .ok (.ifCond .eq 133, 3) := by decide +kernel
theorem dX9_goThrough_67 : decode cX9_goThrough 67 = .ok (.aload_n 0, 1) := by decide +kernel
theorem dX9_goThrough_68 : decode cX9_goThrough 68 = .ok (.getfield 298, 3) := by decide +kernel
theorem dX9_goThrough_71 : decode cX9_goThrough 71 = .ok (.iconst (-1), 1) := by decide +kernel
theorem dX9_goThrough_72 : decode cX9_goThrough 72 = .ok (.if_icmp .ne 125, 3) := by decide +kernel
theorem dX9_goThrough_75 : decode cX9_goThrough 75 = .ok (.iload_n 1, 1) := by decide +kernel
theorem dX9_goThrough_76 : decode cX9_goThrough 76 = .ok (.ifCond .ne 10, 3) := by decide +kernel
theorem dX9_goThrough_79 : decode cX9_goThrough 79 = .ok (.iconst 0, 1) := by decide +kernel
theorem dX9_goThrough_80 : decode cX9_goThrough 80 = .ok (.istore_n 2, 1) := by decide +kernel
theorem dX9_goThrough_81 : decode cX9_goThrough 81 = .ok (.iconst 0, 1) := by decide +kernel
theorem dX9_goThrough_82 : decode cX9_goThrough 82 = .ok (.istore_n 3, 1) := by decide +kernel
theorem dX9_goThrough_83 : decode cX9_goThrough 83 = .ok (.goto (-20), 3) := by decide +kernel
theorem dX9_goThrough_86 : decode cX9_goThrough 86 = .ok (.aload_n 0, 1) := by decide +kernel
theorem dX9_goThrough_87 : decode cX9_goThrough 87 = .ok (.getfield 84, 3) := by decide +kernel
theorem dX9_goThrough_90 : decode cX9_goThrough 90 = .ok (.iload_n 1, 1) := by decide +kernel
theorem dX9_goThrough_91 : decode cX9_goThrough 91 = .ok (.iconst 1, 1) := by decide +kernel
theorem dX9_goThrough_92 : decode cX9_goThrough 92 = .ok (.isub, 1) := by decide +kernel
theorem dX9_goThrough_93 : decode cX9_goThrough 93 = .ok (.baload, 1) := by decide +kernel
theorem dX9_goThrough_94 : decode cX9_goThrough 94 = .ok (.ifCond .eq 48, 3) := by decide +kernel
theorem dX9_goThrough_97 : decode cX9_goThrough 97 = .ok (.aload_n 0, 1) := by decide +kernel
theorem dX9_goThrough_98 : decode cX9_goThrough 98 = .ok (.invokevirtual 301, 3) := by decide +kernel
theorem dX9_goThrough_101 : decode cX9_goThrough 101 = .ok (.bipush 41, 2) := by decide +kernel
theorem dX9_goThrough_103 : decode cX9_goThrough 103 = .ok (.if_icmp .eq 11, 3) := by decide +kernel
theorem dX9_goThrough_106 : decode cX9_goThrough 106 = .ok (.aload_n 0, 1) := by decide +kernel
theorem dX9_goThrough_107 : decode cX9_goThrough 107 = .ok (.aload_n 0, 1) := by decide +kernel
theorem dX9_goThrough_108 : decode cX9_goThrough 108 = .ok (.getfield 292, 3) := by decide +kernel
theorem dX9_goThrough_111 : decode cX9_goThrough 111 = .ok (.invokevirtual 304, 3) := by decide +kernel
theorem dX9_goThrough_114 : decode cX9_goThrough 114 = .ok (.aload_n 0, 1) := by decide +kernel
theorem dX9_goThrough_115 : decode cX9_goThrough 115 = .ok (.dup, 1) := by decide +kernel
theorem dX9_goThrough_116 : decode cX9_goThrough 116 = .ok (.getfield 292, 3) := by decide +kernel
theorem dX9_goThrough_119 : decode cX9_goThrough 119 = .ok (.iconst 1, 1) := by decide +kernel
theorem dX9_goThrough_120 : decode cX9_goThrough 120 = .ok (.iadd, 1) := by decide +kernel
theorem dX9_goThrough_121 : decode cX9_goThrough 121 = .ok (.putfield 292, 3) := by decide +kernel
theorem dX9_goThrough_124 : decode cX9_goThrough 124 = .ok (.iinc 1 (-1), 3) := by decide +kernel
theorem dX9_goThrough_127 : decode cX9_goThrough 127 = .ok (.aload_n 0, 1) := by decide +kernel
theorem dX9_goThrough_128 : decode cX9_goThrough 128 = .ok (.getfield 69, 3) := by decide +kernel
theorem dX9_goThrough_131 : decode cX9_goThrough 131 = .ok (.aload_n 0, 1) := by decide +kernel
theorem dX9_goThrough_132 : decode cX9_goThrough 132 = .ok (.getfield 81, 3) := by decide +kernel
theorem dX9_goThrough_135 : decode cX9_goThrough 135 = .ok (.iload_n 1, 1) := by decide +kernel
theorem dX9_goThrough_136 : decode cX9_goThrough 136 = .ok (.iaload, 1) := by decide +kernel
theorem dX9_goThrough_137 : decode cX9_goThrough 137 = .ok (.iconst 2, 1) := by decide +kernel
theorem dX9_goThrough_138 : decode cX9_goThrough 138 = .ok (.iastore, 1) := by decide +kernel
theorem dX9_goThrough_139 : decode cX9_goThrough 139 = .ok (.goto (-76), 3) := by decide +kernel
theorem dX9_goThrough_142 : decode cX9_goThrough 142 = .ok (.aload_n 0, 1) := by decide +kernel
theorem dX9_goThrough_143 : decode cX9_goThrough 143 = .ok (.invokevirtual 301, 3) := by decide +kernel
theorem dX9_goThrough_146 : decode cX9_goThrough 146 = .ok (.bipush 44, 2) := by decide +kernel
theorem dX9_goThrough_148 : decode cX9_goThrough 148 = .ok (.if_icmp .eq 11, 3) := by decide +kernel
theorem dX9_goThrough_151 : decode cX9_goThrough 151 = .ok (.aload_n 0, 1) := by decide +kernel
theorem dX9_goThrough_152 : decode cX9_goThrough 152 = .ok (.aload_n 0, 1) := by decide +kernel
theorem dX9_goThrough_153 : decode cX9_goThrough 153 = .ok (.getfield 292, 3) := by decide +kernel
theorem dX9_goThrough_156 : decode cX9_goThrough 156 = .ok (.invokevirtual 304, 3) := by decide +kernel
theorem dX9_goThrough_159 : decode cX9_goThrough 159 = .ok (.aload_n 0, 1) := by decide +kernel
theorem dX9_goThrough_160 : decode cX9_goThrough 160 = .ok (.dup, 1) := by decide +kernel
theorem dX9_goThrough_161 : decode cX9_goThrough 161 = .ok (.getfield 292, 3) := by decide +kernel
theorem dX9_goThrough_164 : decode cX9_goThrough 164 = .ok (.iconst 1, 1) := by decide +kernel
theorem dX9_goThrough_165 : decode cX9_goThrough 165 = .ok (.iadd, 1) := by decide +kernel
theorem dX9_goThrough_166 : decode cX9_goThrough 166 = .ok (.putfield 292, 3) := by decide +kernel
theorem dX9_goThrough_169 : decode cX9_goThrough 169 = .ok (.aload_n 0, 1) := by decide +kernel
theorem dX9_goThrough_170 : decode cX9_goThrough 170 = .ok (.getfield 84, 3) := by decide +kernel
theorem dX9_goThrough_173 : decode cX9_goThrough 173 = .ok (.iload_n 1, 1) := by decide +kernel
theorem dX9_goThrough_174 : decode cX9_goThrough 174 = .ok (.iconst 1, 1) := by decide +kernel
theorem dX9_goThrough_175 : decode cX9_goThrough 175 = .ok (.isub, 1) := by decide +kernel
theorem dX9_goThrough_176 : decode cX9_goThrough 176 = .ok (.iconst 1, 1) := by decide +kernel
theorem dX9_goThrough_177 : decode cX9_goThrough 177 = .ok (.bastore, 1) := by decide +kernel
theorem dX9_goThrough_178 : decode cX9_goThrough 178 = .ok (.aload_n 0, 1) := by decide +kernel
theorem dX9_goThrough_179 : decode cX9_goThrough 179 = .ok (.getfield 69, 3) := by decide +kernel
theorem dX9_goThrough_182 : decode cX9_goThrough 182 = .ok (.aload_n 0, 1) := by decide +kernel
theorem dX9_goThrough_183 : decode cX9_goThrough 183 = .ok (.getfield 81, 3) := by decide +kernel
theorem dX9_goThrough_186 : decode cX9_goThrough 186 = .ok (.iload_n 1, 1) := by decide +kernel
theorem dX9_goThrough_187 : decode cX9_goThrough 187 = .ok (.iconst 1, 1) := by decide +kernel
theorem dX9_goThrough_188 : decode cX9_goThrough 188 = .ok (.isub, 1) := by decide +kernel
theorem dX9_goThrough_189 : decode cX9_goThrough 189 = .ok (.iaload, 1) := by decide +kernel
theorem dX9_goThrough_190 : decode cX9_goThrough 190 = .ok (.iconst 1, 1) := by decide +kernel
theorem dX9_goThrough_191 : decode cX9_goThrough 191 = .ok (.iastore, 1) := by decide +kernel
theorem dX9_goThrough_192 : decode cX9_goThrough 192 = .ok (.iconst 0, 1) := by decide +kernel
theorem dX9_goThrough_193 : decode cX9_goThrough 193 = .ok (.istore_n 3, 1) := by decide +kernel
theorem dX9_goThrough_194 : decode cX9_goThrough 194 = .ok (.goto (-131), 3) := by decide +kernel
theorem dX9_goThrough_197 : decode cX9_goThrough 197 = .ok (.goto (-162), 3) := by decide +kernel
theorem dX9_goThrough_200 : decode cX9_goThrough 200 = .ok (.aload_n 0, 1) := by decide +kernel
theorem dX9_goThrough_201 : decode cX9_goThrough 201 = .ok (.getfield 298, 3) := by decide +kernel
theorem dX9_goThrough_204 : decode cX9_goThrough 204 = .ok (.iconst (-1), 1) := by decide +kernel
theorem dX9_goThrough_205 : decode cX9_goThrough 205 = .ok (.if_icmp .ne 22, 3) := by decide +kernel
theorem dX9_goThrough_208 : decode cX9_goThrough 208 = .ok (.aload_n 0, 1) := by decide +kernel
theorem dX9_goThrough_209 : decode cX9_goThrough 209 = .ok (.getfield 292, 3) := by decide +kernel
theorem dX9_goThrough_212 : decode cX9_goThrough 212 = .ok (.aload_n 0, 1) := by decide +kernel
theorem dX9_goThrough_213 : decode cX9_goThrough 213 = .ok (.getfield 295, 3) := by decide +kernel
theorem dX9_goThrough_216 : decode cX9_goThrough 216 = .ok (.if_icmp .ge 11, 3) := by decide +kernel
theorem dX9_goThrough_219 : decode cX9_goThrough 219 = .ok (.aload_n 0, 1) := by decide +kernel
theorem dX9_goThrough_220 : decode cX9_goThrough 220 = .ok (.aload_n 0, 1) := by decide +kernel
theorem dX9_goThrough_221 : decode cX9_goThrough 221 = .ok (.getfield 292, 3) := by decide +kernel
theorem dX9_goThrough_224 : decode cX9_goThrough 224 = .ok (.invokevirtual 304, 3) := by decide +kernel
theorem dX9_goThrough_227 : decode cX9_goThrough 227 = .ok (.return_, 1) := by decide +kernel
theorem dX9_check_0 : decode cX9_check 0 = .ok (.aload_n 0, 1) := by decide +kernel
theorem dX9_check_1 : decode cX9_check 1 = .ok (.iconst 0, 1) := by decide +kernel
theorem dX9_check_2 : decode cX9_check 2 = .ok (.putfield 91, 3) := by decide +kernel
theorem dX9_check_5 : decode cX9_check 5 = .ok (.aload_n 0, 1) := by decide +kernel
theorem dX9_check_6 : decode cX9_check 6 = .ok (.getfield 247, 3) := by decide +kernel
theorem dX9_check_9 : decode cX9_check 9 = .ok (.ifCond .ne 7, 3) := by decide +kernel
theorem dX9_check_12 : decode cX9_check 12 = .ok (.sipush (-20000), 3) := by decide +kernel
theorem dX9_check_15 : decode cX9_check 15 = .ok (.ireturn, 1) := by decide +kernel
theorem dX9_check_16 : decode cX9_check 16 = .ok (.aload_n 0, 1) := by decide +kernel
theorem dX9_check_17 : decode cX9_check 17 = .ok (.iload_n 1, 1) := by decide +kernel
theorem dX9_check_18 : decode cX9_check 18 = .ok (.ifCond .eq 10, 3) := by decide +kernel
theorem dX9_check_21 : decode cX9_check 21 = .ok (.aload_n 0, 1) := by decide +kernel
theorem dX9_check_22 : decode cX9_check 22 = .ok (.getfield 153, 3) := by decide +kernel
theorem dX9_check_25 : decode cX9_check 25 = .ok (.goto 7, 3) := by decide +kernel
theorem dX9_check_28 : decode cX9_check 28 = .ok (.aload_n 0, 1) := by decide +kernel
theorem dX9_check_29 : decode cX9_check 29 = .ok (.getfield 271, 3) := by decide +kernel
theorem dX9_check_32 : decode cX9_check 32 = .ok (.putfield 295, 3) := by decide +kernel
theorem dX9_check_35 : decode cX9_check 35 = .ok (.iconst 0, 1) := by decide +kernel
theorem dX9_check_36 : decode cX9_check 36 = .ok (.istore_n 2, 1) := by decide +kernel
theorem dX9_check_37 : decode cX9_check 37 = .ok (.iload_n 2, 1) := by decide +kernel
theorem dX9_check_38 : decode cX9_check 38 = .ok (.aload_n 0, 1) := by decide +kernel
theorem dX9_check_39 : decode cX9_check 39 = .ok (.getfield 295, 3) := by decide +kernel
theorem dX9_check_42 : decode cX9_check 42 = .ok (.if_icmp .ge 34, 3) := by decide +kernel
theorem dX9_check_45 : decode cX9_check 45 = .ok (.aload_n 0, 1) := by decide +kernel
theorem dX9_check_46 : decode cX9_check 46 = .ok (.getfield 78, 3) := by decide +kernel
theorem dX9_check_49 : decode cX9_check 49 = .ok (.iload_n 2, 1) := by decide +kernel
theorem dX9_check_50 : decode cX9_check 50 = .ok (.iload_n 1, 1) := by decide +kernel
theorem dX9_check_51 : decode cX9_check 51 = .ok (.ifCond .eq 12, 3) := by decide +kernel
theorem dX9_check_54 : decode cX9_check 54 = .ok (.aload_n 0, 1) := by decide +kernel
theorem dX9_check_55 : decode cX9_check 55 = .ok (.getfield 39, 3) := by decide +kernel
theorem dX9_check_58 : decode cX9_check 58 = .ok (.iload_n 2, 1) := by decide +kernel
theorem dX9_check_59 : decode cX9_check 59 = .ok (.iaload, 1) := by decide +kernel
theorem dX9_check_60 : decode cX9_check 60 = .ok (.goto 9, 3) := by decide +kernel
theorem dX9_check_63 : decode cX9_check 63 = .ok (.aload_n 0, 1) := by decide +kernel
theorem dX9_check_64 : decode cX9_check 64 = .ok (.getfield 75, 3) := by decide +kernel
theorem dX9_check_67 : decode cX9_check 67 = .ok (.iload_n 2, 1) := by decide +kernel
theorem dX9_check_68 : decode cX9_check 68 = .ok (.iaload, 1) := by decide +kernel
theorem dX9_check_69 : decode cX9_check 69 = .ok (.iastore, 1) := by decide +kernel
theorem dX9_check_70 : decode cX9_check 70 = .ok (.iinc 2 1, 3) := by decide +kernel
theorem dX9_check_73 : decode cX9_check 73 = .ok (.goto (-36), 3) := by decide +kernel
theorem dX9_check_76 : decode cX9_check 76 = .ok (.aload_n 0, 1) := by decide +kernel
theorem dX9_check_77 : decode cX9_check 77 = .ok (.iload_n 1, 1) := by decide +kernel
theorem dX9_check_78 : decode cX9_check 78 = .ok (.ifCond .eq 7, 3) := by decide +kernel
theorem dX9_check_81 : decode cX9_check 81 = .ok (.iconst 0, 1) := by decide +kernel
theorem dX9_check_82 : decode cX9_check 82 = .ok (.goto 7, 3) := by decide +kernel
theorem dX9_check_85 : decode cX9_check 85 = .ok (.aload_n 0, 1) := by decide +kernel
theorem dX9_check_86 : decode cX9_check 86 = .ok (.getfield 153, 3) := by decide +kernel
theorem dX9_check_89 : decode cX9_check 89 = .ok (.putfield 153, 3) := by decide +kernel
theorem dX9_check_92 : decode cX9_check 92 = .ok (.aload_n 0, 1) := by decide +kernel
theorem dX9_check_93 : decode cX9_check 93 = .ok (.invokevirtual 328, 3) := by decide +kernel
theorem dX9_check_96 : decode cX9_check 96 = .ok (.aload_n 0, 1) := by decide +kernel
theorem dX9_check_97 : decode cX9_check 97 = .ok (.aload_n 0, 1) := by decide +kernel
theorem dX9_check_98 : decode cX9_check 98 = .ok (.getfield 298, 3) := by decide +kernel
theorem dX9_check_101 : decode cX9_check 101 = .ok (.iconst (-1), 1) := by decide +kernel
theorem dX9_check_102 : decode cX9_check 102 = .ok (.if_icmp .ne 7, 3) := by decide +kernel
theorem dX9_check_105 : decode cX9_check 105 = .ok (.iconst 0, 1) := by decide +kernel
theorem dX9_check_106 : decode cX9_check 106 = .ok (.goto 4, 3) := by decide +kernel
theorem dX9_check_109 : decode cX9_check 109 = .ok (.iconst 1, 1) := by decide +kernel
theorem dX9_check_110 : decode cX9_check 110 = .ok (.putfield 158, 3) := by decide +kernel
theorem dX9_check_113 : decode cX9_check 113 = .ok (.aload_n 0, 1) := by decide +kernel
theorem dX9_check_114 : decode cX9_check 114 = .ok (.getfield 298, 3) := by decide +kernel
theorem dX9_check_117 : decode cX9_check 117 = .ok (.iconst (-1), 1) := by decide +kernel
theorem dX9_check_118 : decode cX9_check 118 = .ok (.if_icmp .ne 7, 3) := by decide +kernel
theorem dX9_check_121 : decode cX9_check 121 = .ok (.iconst 0, 1) := by decide +kernel
theorem dX9_check_122 : decode cX9_check 122 = .ok (.goto 9, 3) := by decide +kernel
theorem dX9_check_125 : decode cX9_check 125 = .ok (.iconst (-1), 1) := by decide +kernel
theorem dX9_check_126 : decode cX9_check 126 = .ok (.aload_n 0, 1) := by decide +kernel
theorem dX9_check_127 : decode cX9_check 127 = .ok (.getfield 298, 3) := by decide +kernel
theorem dX9_check_130 : decode cX9_check 130 = .ok (.isub, 1) := by decide +kernel
theorem dX9_check_131 : decode cX9_check 131 = .ok (.ireturn, 1) := by decide +kernel
theorem dX9_told_0 : decode cX9_told 0 = .ok (.aload_n 0, 1) := by decide +kernel
theorem dX9_told_1 : decode cX9_told 1 = .ok (.iload_n 1, 1) := by decide +kernel
theorem dX9_told_2 : decode cX9_told 2 = .ok (.i2l, 1) := by decide +kernel
theorem dX9_told_3 : decode cX9_told 3 = .ok (.lconst 0, 1) := by decide +kernel
theorem dX9_told_4 : decode cX9_told 4 = .ok (.ldc2_w 331, 3) := by decide +kernel
theorem dX9_told_7 : decode cX9_told 7 = .ok (.invokestatic 96, 3) := by decide +kernel
theorem dX9_told_10 : decode cX9_told 10 = .ok (.iconst 1, 1) := by decide +kernel
theorem dX9_told_11 : decode cX9_told 11 = .ok (.iconst 1, 1) := by decide +kernel
theorem dX9_told_12 : decode cX9_told 12 = .ok (.invokevirtual 120, 3) := by decide +kernel
theorem dX9_told_15 : decode cX9_told 15 = .ok (.ifCond .ne 5, 3) := by decide +kernel
theorem dX9_told_18 : decode cX9_told 18 = .ok (.iconst 0, 1) := by decide +kernel
theorem dX9_told_19 : decode cX9_told 19 = .ok (.ireturn, 1) := by decide +kernel
theorem dX9_told_20 : decode cX9_told 20 = .ok (.iload_n 1, 1) := by decide +kernel
theorem dX9_told_21 : decode cX9_told 21 = .ok (.ifCond .ne 10, 3) := by decide +kernel
theorem dX9_told_24 : decode cX9_told 24 = .ok (.aload_n 0, 1) := by decide +kernel
theorem dX9_told_25 : decode cX9_told 25 = .ok (.getfield 100, 3) := by decide +kernel
theorem dX9_told_28 : decode cX9_told 28 = .ok (.goto 75, 3) := by decide +kernel
theorem dX9_told_31 : decode cX9_told 31 = .ok (.iload_n 1, 1) := by decide +kernel
theorem dX9_told_32 : decode cX9_told 32 = .ok (.iconst 1, 1) := by decide +kernel
theorem dX9_told_33 : decode cX9_told 33 = .ok (.if_icmp .ne 10, 3) := by decide +kernel
theorem dX9_told_36 : decode cX9_told 36 = .ok (.aload_n 0, 1) := by decide +kernel
theorem dX9_told_37 : decode cX9_told 37 = .ok (.getfield 133, 3) := by decide +kernel
theorem dX9_told_40 : decode cX9_told 40 = .ok (.goto 63, 3) := by decide +kernel
theorem dX9_told_43 : decode cX9_told 43 = .ok (.iload_n 1, 1) := by decide +kernel
theorem dX9_told_44 : decode cX9_told 44 = .ok (.iconst 2, 1) := by decide +kernel
theorem dX9_told_45 : decode cX9_told 45 = .ok (.if_icmp .ne 10, 3) := by decide +kernel
theorem dX9_told_48 : decode cX9_told 48 = .ok (.aload_n 0, 1) := by decide +kernel
theorem dX9_told_49 : decode cX9_told 49 = .ok (.getfield 87, 3) := by decide +kernel
theorem dX9_told_52 : decode cX9_told 52 = .ok (.goto 51, 3) := by decide +kernel
theorem dX9_told_55 : decode cX9_told 55 = .ok (.iload_n 1, 1) := by decide +kernel
theorem dX9_told_56 : decode cX9_told 56 = .ok (.iconst 3, 1) := by decide +kernel
theorem dX9_told_57 : decode cX9_told 57 = .ok (.if_icmp .ne 10, 3) := by decide +kernel
theorem dX9_told_60 : decode cX9_told 60 = .ok (.aload_n 0, 1) := by decide +kernel
theorem dX9_told_61 : decode cX9_told 61 = .ok (.getfield 250, 3) := by decide +kernel
theorem dX9_told_64 : decode cX9_told 64 = .ok (.goto 39, 3) := by decide +kernel
theorem dX9_told_67 : decode cX9_told 67 = .ok (.iload_n 1, 1) := by decide +kernel
theorem dX9_told_68 : decode cX9_told 68 = .ok (.iconst 4, 1) := by decide +kernel
theorem dX9_told_69 : decode cX9_told 69 = .ok (.if_icmp .ne 10, 3) := by decide +kernel
theorem dX9_told_72 : decode cX9_told 72 = .ok (.aload_n 0, 1) := by decide +kernel
theorem dX9_told_73 : decode cX9_told 73 = .ok (.getfield 153, 3) := by decide +kernel
theorem dX9_told_76 : decode cX9_told 76 = .ok (.goto 27, 3) := by decide +kernel
theorem dX9_told_79 : decode cX9_told 79 = .ok (.iload_n 1, 1) := by decide +kernel
theorem dX9_told_80 : decode cX9_told 80 = .ok (.iconst 5, 1) := by decide +kernel
theorem dX9_told_81 : decode cX9_told 81 = .ok (.if_icmp .ne 10, 3) := by decide +kernel
theorem dX9_told_84 : decode cX9_told 84 = .ok (.aload_n 0, 1) := by decide +kernel
theorem dX9_told_85 : decode cX9_told 85 = .ok (.getfield 271, 3) := by decide +kernel
theorem dX9_told_88 : decode cX9_told 88 = .ok (.goto 15, 3) := by decide +kernel
theorem dX9_told_91 : decode cX9_told 91 = .ok (.aload_n 0, 1) := by decide +kernel
theorem dX9_told_92 : decode cX9_told 92 = .ok (.getfield 247, 3) := by decide +kernel
theorem dX9_told_95 : decode cX9_told 95 = .ok (.ifCond .eq 7, 3) := by decide +kernel
theorem dX9_told_98 : decode cX9_told 98 = .ok (.iconst 1, 1) := by decide +kernel
theorem dX9_told_99 : decode cX9_told 99 = .ok (.goto 4, 3) := by decide +kernel
theorem dX9_told_102 : decode cX9_told 102 = .ok (.iconst 0, 1) := by decide +kernel
theorem dX9_told_103 : decode cX9_told 103 = .ok (.ireturn, 1) := by decide +kernel
theorem dX9_clear_0 : decode cX9_clear 0 = .ok (.aload_n 0, 1) := by decide +kernel
theorem dX9_clear_1 : decode cX9_clear 1 = .ok (.iconst 0, 1) := by decide +kernel
theorem dX9_clear_2 : decode cX9_clear 2 = .ok (.putfield 91, 3) := by decide +kernel
theorem dX9_clear_5 : decode cX9_clear 5 = .ok (.aload_n 0, 1) := by decide +kernel
theorem dX9_clear_6 : decode cX9_clear 6 = .ok (.iconst 0, 1) := by decide +kernel
theorem dX9_clear_7 : decode cX9_clear 7 = .ok (.putfield 100, 3) := by decide +kernel
theorem dX9_clear_10 : decode cX9_clear 10 = .ok (.aload_n 0, 1) := by decide +kernel
theorem dX9_clear_11 : decode cX9_clear 11 = .ok (.iconst 0, 1) := by decide +kernel
theorem dX9_clear_12 : decode cX9_clear 12 = .ok (.putfield 133, 3) := by decide +kernel
theorem dX9_clear_15 : decode cX9_clear 15 = .ok (.aload_n 0, 1) := by decide +kernel
theorem dX9_clear_16 : decode cX9_clear 16 = .ok (.iconst 0, 1) := by decide +kernel
theorem dX9_clear_17 : decode cX9_clear 17 = .ok (.putfield 87, 3) := by decide +kernel
theorem dX9_clear_20 : decode cX9_clear 20 = .ok (.aload_n 0, 1) := by decide +kernel
theorem dX9_clear_21 : decode cX9_clear 21 = .ok (.iconst 0, 1) := by decide +kernel
theorem dX9_clear_22 : decode cX9_clear 22 = .ok (.putfield 153, 3) := by decide +kernel
theorem dX9_clear_25 : decode cX9_clear 25 = .ok (.aload_n 0, 1) := by decide +kernel
theorem dX9_clear_26 : decode cX9_clear 26 = .ok (.iconst 0, 1) := by decide +kernel
theorem dX9_clear_27 : decode cX9_clear 27 = .ok (.putfield 158, 3) := by decide +kernel
theorem dX9_clear_30 : decode cX9_clear 30 = .ok (.aload_n 0, 1) := by decide +kernel
theorem dX9_clear_31 : decode cX9_clear 31 = .ok (.iconst 0, 1) := by decide +kernel
theorem dX9_clear_32 : decode cX9_clear 32 = .ok (.putfield 247, 3) := by decide +kernel
theorem dX9_clear_35 : decode cX9_clear 35 = .ok (.aload_n 0, 1) := by decide +kernel
theorem dX9_clear_36 : decode cX9_clear 36 = .ok (.iconst 0, 1) := by decide +kernel
theorem dX9_clear_37 : decode cX9_clear 37 = .ok (.putfield 250, 3) := by decide +kernel
theorem dX9_clear_40 : decode cX9_clear 40 = .ok (.aload_n 0, 1) := by decide +kernel
theorem dX9_clear_41 : decode cX9_clear 41 = .ok (.iconst 0, 1) := by decide +kernel
theorem dX9_clear_42 : decode cX9_clear 42 = .ok (.putfield 253, 3) := by decide +kernel
theorem dX9_clear_45 : decode cX9_clear 45 = .ok (.aload_n 0, 1) := by decide +kernel
theorem dX9_clear_46 : decode cX9_clear 46 = .ok (.iconst 0, 1) := by decide +kernel
theorem dX9_clear_47 : decode cX9_clear 47 = .ok (.putfield 271, 3) := by decide +kernel
theorem dX9_clear_50 : decode cX9_clear 50 = .ok (.return_, 1) := by decide +kernel
