theorem dX6_init_0 : decode cX6_init 0 = .ok (.aload_n 0, 1) := by decide +kernel
theorem dX6_init_1 : decode cX6_init 1 = .ok (.invokespecial 1, 3) := by decide +kernel
theorem dX6_init_4 : decode cX6_init 4 = .ok (.aload_n 0, 1) := by decide +kernel
theorem dX6_init_5 : decode cX6_init 5 = .ok (.bipush 42, 2) := by decide +kernel
theorem dX6_init_7 : decode cX6_init 7 = .ok (.newarray .int, 2) := by decide +kernel
theorem dX6_init_9 : decode cX6_init 9 = .ok (.putfield 7, 3) := by decide +kernel
theorem dX6_init_12 : decode cX6_init 12 = .ok (.aload_n 0, 1) := by decide +kernel
theorem dX6_init_13 : decode cX6_init 13 = .ok (.iconst 3, 1) := by decide +kernel
theorem dX6_init_14 : decode cX6_init 14 = .ok (.newarray .int, 2) := by decide +kernel
theorem dX6_init_16 : decode cX6_init 16 = .ok (.putfield 13, 3) := by decide +kernel
theorem dX6_init_19 : decode cX6_init 19 = .ok (.aload_n 0, 1) := by decide +kernel
theorem dX6_init_20 : decode cX6_init 20 = .ok (.sipush 1176, 3) := by decide +kernel
theorem dX6_init_23 : decode cX6_init 23 = .ok (.newarray .int, 2) := by decide +kernel
theorem dX6_init_25 : decode cX6_init 25 = .ok (.putfield 16, 3) := by decide +kernel
theorem dX6_init_28 : decode cX6_init 28 = .ok (.aload_n 0, 1) := by decide +kernel
theorem dX6_init_29 : decode cX6_init 29 = .ok (.bipush 84, 2) := by decide +kernel
theorem dX6_init_31 : decode cX6_init 31 = .ok (.newarray .int, 2) := by decide +kernel
theorem dX6_init_33 : decode cX6_init 33 = .ok (.putfield 19, 3) := by decide +kernel
theorem dX6_init_36 : decode cX6_init 36 = .ok (.aload_n 0, 1) := by decide +kernel
theorem dX6_init_37 : decode cX6_init 37 = .ok (.bipush 84, 2) := by decide +kernel
theorem dX6_init_39 : decode cX6_init 39 = .ok (.newarray .int, 2) := by decide +kernel
theorem dX6_init_41 : decode cX6_init 41 = .ok (.putfield 22, 3) := by decide +kernel
theorem dX6_init_44 : decode cX6_init 44 = .ok (.aload_n 0, 1) := by decide +kernel
theorem dX6_init_45 : decode cX6_init 45 = .ok (.sipush 360, 3) := by decide +kernel
theorem dX6_init_48 : decode cX6_init 48 = .ok (.newarray .int, 2) := by decide +kernel
theorem dX6_init_50 : decode cX6_init 50 = .ok (.putfield 25, 3) := by decide +kernel
theorem dX6_init_53 : decode cX6_init 53 = .ok (.aload_n 0, 1) := by decide +kernel
theorem dX6_init_54 : decode cX6_init 54 = .ok (.bipush 6, 2) := by decide +kernel
theorem dX6_init_56 : decode cX6_init 56 = .ok (.newarray .int, 2) := by decide +kernel
theorem dX6_init_58 : decode cX6_init 58 = .ok (.putfield 28, 3) := by decide +kernel
theorem dX6_init_61 : decode cX6_init 61 = .ok (.aload_n 0, 1) := by decide +kernel
theorem dX6_init_62 : decode cX6_init 62 = .ok (.iconst 3, 1) := by decide +kernel
theorem dX6_init_63 : decode cX6_init 63 = .ok (.newarray .int, 2) := by decide +kernel
theorem dX6_init_65 : decode cX6_init 65 = .ok (.putfield 31, 3) := by decide +kernel
theorem dX6_init_68 : decode cX6_init 68 = .ok (.aload_n 0, 1) := by decide +kernel
theorem dX6_init_69 : decode cX6_init 69 = .ok (.sipush 700, 3) := by decide +kernel
theorem dX6_init_72 : decode cX6_init 72 = .ok (.newarray .int, 2) := by decide +kernel
theorem dX6_init_74 : decode cX6_init 74 = .ok (.putfield 34, 3) := by decide +kernel
theorem dX6_init_77 : decode cX6_init 77 = .ok (.aload_n 0, 1) := by decide +kernel
theorem dX6_init_78 : decode cX6_init 78 = .ok (.bipush 12, 2) := by decide +kernel
theorem dX6_init_80 : decode cX6_init 80 = .ok (.newarray .int, 2) := by decide +kernel
theorem dX6_init_82 : decode cX6_init 82 = .ok (.putfield 37, 3) := by decide +kernel
theorem dX6_init_85 : decode cX6_init 85 = .ok (.aload_n 0, 1) := by decide +kernel
theorem dX6_init_86 : decode cX6_init 86 = .ok (.sipush 700, 3) := by decide +kernel
theorem dX6_init_89 : decode cX6_init 89 = .ok (.newarray .int, 2) := by decide +kernel
theorem dX6_init_91 : decode cX6_init 91 = .ok (.putfield 40, 3) := by decide +kernel
theorem dX6_init_94 : decode cX6_init 94 = .ok (.aload_n 0, 1) := by decide +kernel
theorem dX6_init_95 : decode cX6_init 95 = .ok (.bipush 60, 2) := by decide +kernel
theorem dX6_init_97 : decode cX6_init 97 = .ok (.newarray .int, 2) := by decide +kernel
theorem dX6_init_99 : decode cX6_init 99 = .ok (.putfield 43, 3) := by decide +kernel
theorem dX6_init_102 : decode cX6_init 102 = .ok (.aload_n 0, 1) := by decide +kernel
theorem dX6_init_103 : decode cX6_init 103 = .ok (.bipush 60, 2) := by decide +kernel
theorem dX6_init_105 : decode cX6_init 105 = .ok (.newarray .int, 2) := by decide +kernel
theorem dX6_init_107 : decode cX6_init 107 = .ok (.putfield 46, 3) := by decide +kernel
theorem dX6_init_110 : decode cX6_init 110 = .ok (.aload_n 0, 1) := by decide +kernel
theorem dX6_init_111 : decode cX6_init 111 = .ok (.bipush 100, 2) := by decide +kernel
theorem dX6_init_113 : decode cX6_init 113 = .ok (.newarray .int, 2) := by decide +kernel
theorem dX6_init_115 : decode cX6_init 115 = .ok (.putfield 49, 3) := by decide +kernel
theorem dX6_init_118 : decode cX6_init 118 = .ok (.aload_n 0, 1) := by decide +kernel
theorem dX6_init_119 : decode cX6_init 119 = .ok (.iconst 5, 1) := by decide +kernel
theorem dX6_init_120 : decode cX6_init 120 = .ok (.newarray .int, 2) := by decide +kernel
theorem dX6_init_122 : decode cX6_init 122 = .ok (.putfield 52, 3) := by decide +kernel
theorem dX6_init_125 : decode cX6_init 125 = .ok (.aload_n 0, 1) := by decide +kernel
theorem dX6_init_126 : decode cX6_init 126 = .ok (.bipush 61, 2) := by decide +kernel
theorem dX6_init_128 : decode cX6_init 128 = .ok (.newarray .int, 2) := by decide +kernel
theorem dX6_init_130 : decode cX6_init 130 = .ok (.putfield 55, 3) := by decide +kernel
theorem dX6_init_133 : decode cX6_init 133 = .ok (.aload_n 0, 1) := by decide +kernel
theorem dX6_init_134 : decode cX6_init 134 = .ok (.sipush 360, 3) := by decide +kernel
theorem dX6_init_137 : decode cX6_init 137 = .ok (.newarray .int, 2) := by decide +kernel
theorem dX6_init_139 : decode cX6_init 139 = .ok (.putfield 58, 3) := by decide +kernel
theorem dX6_init_142 : decode cX6_init 142 = .ok (.aload_n 0, 1) := by decide +kernel
theorem dX6_init_143 : decode cX6_init 143 = .ok (.bipush 6, 2) := by decide +kernel
theorem dX6_init_145 : decode cX6_init 145 = .ok (.newarray .int, 2) := by decide +kernel
theorem dX6_init_147 : decode cX6_init 147 = .ok (.putfield 61, 3) := by decide +kernel
theorem dX6_init_150 : decode cX6_init 150 = .ok (.return_, 1) := by decide +kernel
theorem dX6_in_0 : decode cX6_in 0 = .ok (.lload_n 0, 1) := by decide +kernel
theorem dX6_in_1 : decode cX6_in 1 = .ok (.lload_n 2, 1) := by decide +kernel
theorem dX6_in_2 : decode cX6_in 2 = .ok (.lcmp, 1) := by decide +kernel
theorem dX6_in_3 : decode cX6_in 3 = .ok (.ifCond .lt 14, 3) := by decide +kernel
theorem dX6_in_6 : decode cX6_in 6 = .ok (.lload_n 0, 1) := by decide +kernel
theorem dX6_in_7 : decode cX6_in 7 = .ok (.lload 4, 2) := by decide +kernel
theorem dX6_in_9 : decode cX6_in 9 = .ok (.lcmp, 1) := by decide +kernel
theorem dX6_in_10 : decode cX6_in 10 = .ok (.ifCond .gt 7, 3) := by decide +kernel
theorem dX6_in_13 : decode cX6_in 13 = .ok (.iconst 1, 1) := by decide +kernel
theorem dX6_in_14 : decode cX6_in 14 = .ok (.goto 4, 3) := by decide +kernel
theorem dX6_in_17 : decode cX6_in 17 = .ok (.iconst 0, 1) := by decide +kernel
theorem dX6_in_18 : decode cX6_in 18 = .ok (.ireturn, 1) := by decide +kernel
theorem dX6_bad_0 : decode cX6_bad 0 = .ok (.aload_n 0, 1) := by decide +kernel
theorem dX6_bad_1 : decode cX6_bad 1 = .ok (.getfield 31, 3) := by decide +kernel
theorem dX6_bad_4 : decode cX6_bad 4 = .ok (.iconst 0, 1) := by decide +kernel
theorem dX6_bad_5 : decode cX6_bad 5 = .ok (.dup2, 1) := by decide +kernel
theorem dX6_bad_6 : decode cX6_bad 6 = .ok (.iaload, 1) := by decide +kernel
theorem dX6_bad_7 : decode cX6_bad 7 = .ok (.iconst 1, 1) := by decide +kernel
theorem dX6_bad_8 : decode cX6_bad 8 = .ok (.iadd, 1) := by decide +kernel
theorem dX6_bad_9 : decode cX6_bad 9 = .ok (.iastore, 1) := by decide +kernel
theorem dX6_bad_10 : decode cX6_bad 10 = .ok (.bipush (-2), 2) := by decide +kernel
theorem dX6_bad_12 : decode cX6_bad 12 = .ok (.ireturn, 1) := by decide +kernel
theorem dX6_no_0 : decode cX6_no 0 = .ok (.aload_n 0, 1) := by decide +kernel
theorem dX6_no_1 : decode cX6_no 1 = .ok (.getfield 31, 3) := by decide +kernel
theorem dX6_no_4 : decode cX6_no 4 = .ok (.iconst 1, 1) := by decide +kernel
theorem dX6_no_5 : decode cX6_no 5 = .ok (.dup2, 1) := by decide +kernel
theorem dX6_no_6 : decode cX6_no 6 = .ok (.iaload, 1) := by decide +kernel
theorem dX6_no_7 : decode cX6_no 7 = .ok (.iconst 1, 1) := by decide +kernel
theorem dX6_no_8 : decode cX6_no 8 = .ok (.iadd, 1) := by decide +kernel
theorem dX6_no_9 : decode cX6_no 9 = .ok (.iastore, 1) := by decide +kernel
theorem dX6_no_10 : decode cX6_no 10 = .ok (.bipush (-3), 2) := by decide +kernel
theorem dX6_no_12 : decode cX6_no 12 = .ok (.ireturn, 1) := by decide +kernel
theorem dX6_full_0 : decode cX6_full 0 = .ok (.aload_n 0, 1) := by decide +kernel
theorem dX6_full_1 : decode cX6_full 1 = .ok (.getfield 31, 3) := by decide +kernel
theorem dX6_full_4 : decode cX6_full 4 = .ok (.iconst 2, 1) := by decide +kernel
theorem dX6_full_5 : decode cX6_full 5 = .ok (.dup2, 1) := by decide +kernel
theorem dX6_full_6 : decode cX6_full 6 = .ok (.iaload, 1) := by decide +kernel
theorem dX6_full_7 : decode cX6_full 7 = .ok (.iconst 1, 1) := by decide +kernel
theorem dX6_full_8 : decode cX6_full 8 = .ok (.iadd, 1) := by decide +kernel
theorem dX6_full_9 : decode cX6_full 9 = .ok (.iastore, 1) := by decide +kernel
theorem dX6_full_10 : decode cX6_full 10 = .ok (.bipush (-4), 2) := by decide +kernel
theorem dX6_full_12 : decode cX6_full 12 = .ok (.ireturn, 1) := by decide +kernel
theorem dX6_isWord_0 : decode cX6_isWord 0 = .ok (.iload_n 0, 1) := by decide +kernel
theorem dX6_isWord_1 : decode cX6_isWord 1 = .ok (.i2l, 1) := by decide +kernel
theorem dX6_isWord_2 : decode cX6_isWord 2 = .ok (.lconst 0, 1) := by decide +kernel
theorem dX6_isWord_3 : decode cX6_isWord 3 = .ok (.ldc2_w 64, 3) := by decide +kernel
theorem dX6_isWord_6 : decode cX6_isWord 6 = .ok (.invokestatic 66, 3) := by decide +kernel
theorem dX6_isWord_9 : decode cX6_isWord 9 = .ok (.ireturn, 1) := by decide +kernel
theorem dX6_isLetter_0 : decode cX6_isLetter 0 = .ok (.iload_n 0, 1) := by decide +kernel
theorem dX6_isLetter_1 : decode cX6_isLetter 1 = .ok (.i2l, 1) := by decide +kernel
theorem dX6_isLetter_2 : decode cX6_isLetter 2 = .ok (.lconst 0, 1) := by decide +kernel
theorem dX6_isLetter_3 : decode cX6_isLetter 3 = .ok (.ldc2_w 70, 3) := by decide +kernel
theorem dX6_isLetter_6 : decode cX6_isLetter 6 = .ok (.invokestatic 66, 3) := by decide +kernel
theorem dX6_isLetter_9 : decode cX6_isLetter 9 = .ok (.ireturn, 1) := by decide +kernel
theorem dX6_opposite_0 : decode cX6_opposite 0 = .ok (.iload_n 0, 1) := by decide +kernel
theorem dX6_opposite_1 : decode cX6_opposite 1 = .ok (.iconst 4, 1) := by decide +kernel
theorem dX6_opposite_2 : decode cX6_opposite 2 = .ok (.if_icmp .ge 9, 3) := by decide +kernel
theorem dX6_opposite_5 : decode cX6_opposite 5 = .ok (.iload_n 0, 1) := by decide +kernel
theorem dX6_opposite_6 : decode cX6_opposite 6 = .ok (.iconst 4, 1) := by decide +kernel
theorem dX6_opposite_7 : decode cX6_opposite 7 = .ok (.iadd, 1) := by decide +kernel
theorem dX6_opposite_8 : decode cX6_opposite 8 = .ok (.goto 6, 3) := by decide +kernel
theorem dX6_opposite_11 : decode cX6_opposite 11 = .ok (.iload_n 0, 1) := by decide +kernel
theorem dX6_opposite_12 : decode cX6_opposite 12 = .ok (.iconst 4, 1) := by decide +kernel
theorem dX6_opposite_13 : decode cX6_opposite 13 = .ok (.isub, 1) := by decide +kernel
theorem dX6_opposite_14 : decode cX6_opposite 14 = .ok (.ireturn, 1) := by decide +kernel
theorem dX6_push_0 : decode cX6_push 0 = .ok (.aload_n 0, 1) := by decide +kernel
theorem dX6_push_1 : decode cX6_push 1 = .ok (.getfield 72, 3) := by decide +kernel
theorem dX6_push_4 : decode cX6_push 4 = .ok (.ifCond .le 34, 3) := by decide +kernel
theorem dX6_push_7 : decode cX6_push 7 = .ok (.aload_n 0, 1) := by decide +kernel
theorem dX6_push_8 : decode cX6_push 8 = .ok (.getfield 34, 3) := by decide +kernel
theorem dX6_push_11 : decode cX6_push 11 = .ok (.aload_n 0, 1) := by decide +kernel
theorem dX6_push_12 : decode cX6_push 12 = .ok (.getfield 72, 3) := by decide +kernel
theorem dX6_push_15 : decode cX6_push 15 = .ok (.iconst 1, 1) := by decide +kernel
theorem dX6_push_16 : decode cX6_push 16 = .ok (.isub, 1) := by decide +kernel
theorem dX6_push_17 : decode cX6_push 17 = .ok (.iaload, 1) := by decide +kernel
theorem dX6_push_18 : decode cX6_push 18 = .ok (.iload_n 1, 1) := by decide +kernel
theorem dX6_push_19 : decode cX6_push 19 = .ok (.invokestatic 76, 3) := by decide +kernel
theorem dX6_push_22 : decode cX6_push 22 = .ok (.if_icmp .ne 16, 3) := by decide +kernel
theorem dX6_push_25 : decode cX6_push 25 = .ok (.aload_n 0, 1) := by decide +kernel
theorem dX6_push_26 : decode cX6_push 26 = .ok (.dup, 1) := by decide +kernel
theorem dX6_push_27 : decode cX6_push 27 = .ok (.getfield 72, 3) := by decide +kernel
theorem dX6_push_30 : decode cX6_push 30 = .ok (.iconst 1, 1) := by decide +kernel
theorem dX6_push_31 : decode cX6_push 31 = .ok (.isub, 1) := by decide +kernel
theorem dX6_push_32 : decode cX6_push 32 = .ok (.putfield 72, 3) := by decide +kernel
theorem dX6_push_35 : decode cX6_push 35 = .ok (.goto 23, 3) := by decide +kernel
theorem dX6_push_38 : decode cX6_push 38 = .ok (.aload_n 0, 1) := by decide +kernel
theorem dX6_push_39 : decode cX6_push 39 = .ok (.getfield 34, 3) := by decide +kernel
theorem dX6_push_42 : decode cX6_push 42 = .ok (.aload_n 0, 1) := by decide +kernel
theorem dX6_push_43 : decode cX6_push 43 = .ok (.getfield 72, 3) := by decide +kernel
theorem dX6_push_46 : decode cX6_push 46 = .ok (.iload_n 1, 1) := by decide +kernel
theorem dX6_push_47 : decode cX6_push 47 = .ok (.iastore, 1) := by decide +kernel
theorem dX6_push_48 : decode cX6_push 48 = .ok (.aload_n 0, 1) := by decide +kernel
theorem dX6_push_49 : decode cX6_push 49 = .ok (.dup, 1) := by decide +kernel
theorem dX6_push_50 : decode cX6_push 50 = .ok (.getfield 72, 3) := by decide +kernel
theorem dX6_push_53 : decode cX6_push 53 = .ok (.iconst 1, 1) := by decide +kernel
theorem dX6_push_54 : decode cX6_push 54 = .ok (.iadd, 1) := by decide +kernel
theorem dX6_push_55 : decode cX6_push 55 = .ok (.putfield 72, 3) := by decide +kernel
theorem dX6_push_58 : decode cX6_push 58 = .ok (.return_, 1) := by decide +kernel
theorem dX6_pushWord_0 : decode cX6_pushWord 0 = .ok (.iconst 0, 1) := by decide +kernel
theorem dX6_pushWord_1 : decode cX6_pushWord 1 = .ok (.istore_n 2, 1) := by decide +kernel
theorem dX6_pushWord_2 : decode cX6_pushWord 2 = .ok (.iload_n 2, 1) := by decide +kernel
theorem dX6_pushWord_3 : decode cX6_pushWord 3 = .ok (.aload_n 0, 1) := by decide +kernel
theorem dX6_pushWord_4 : decode cX6_pushWord 4 = .ok (.getfield 28, 3) := by decide +kernel
theorem dX6_pushWord_7 : decode cX6_pushWord 7 = .ok (.iload_n 1, 1) := by decide +kernel
theorem dX6_pushWord_8 : decode cX6_pushWord 8 = .ok (.iaload, 1) := by decide +kernel
theorem dX6_pushWord_9 : decode cX6_pushWord 9 = .ok (.if_icmp .ge 24, 3) := by decide +kernel
theorem dX6_pushWord_12 : decode cX6_pushWord 12 = .ok (.aload_n 0, 1) := by decide +kernel
theorem dX6_pushWord_13 : decode cX6_pushWord 13 = .ok (.aload_n 0, 1) := by decide +kernel
theorem dX6_pushWord_14 : decode cX6_pushWord 14 = .ok (.getfield 25, 3) := by decide +kernel
theorem dX6_pushWord_17 : decode cX6_pushWord 17 = .ok (.bipush 60, 2) := by decide +kernel
theorem dX6_pushWord_19 : decode cX6_pushWord 19 = .ok (.iload_n 1, 1) := by decide +kernel
theorem dX6_pushWord_20 : decode cX6_pushWord 20 = .ok (.imul, 1) := by decide +kernel
theorem dX6_pushWord_21 : decode cX6_pushWord 21 = .ok (.iload_n 2, 1) := by decide +kernel
theorem dX6_pushWord_22 : decode cX6_pushWord 22 = .ok (.iadd, 1) := by decide +kernel
theorem dX6_pushWord_23 : decode cX6_pushWord 23 = .ok (.iaload, 1) := by decide +kernel
theorem dX6_pushWord_24 : decode cX6_pushWord 24 = .ok (.invokevirtual 80, 3) := by decide +kernel
theorem dX6_pushWord_27 : decode cX6_pushWord 27 = .ok (.iinc 2 1, 3) := by decide +kernel
theorem dX6_pushWord_30 : decode cX6_pushWord 30 = .ok (.goto (-28), 3) := by decide +kernel
theorem dX6_pushWord_33 : decode cX6_pushWord 33 = .ok (.return_, 1) := by decide +kernel
theorem dX6_pushInverse_0 : decode cX6_pushInverse 0 = .ok (.aload_n 0, 1) := by decide +kernel
theorem dX6_pushInverse_1 : decode cX6_pushInverse 1 = .ok (.getfield 28, 3) := by decide +kernel
theorem dX6_pushInverse_4 : decode cX6_pushInverse 4 = .ok (.iload_n 1, 1) := by decide +kernel
theorem dX6_pushInverse_5 : decode cX6_pushInverse 5 = .ok (.iaload, 1) := by decide +kernel
theorem dX6_pushInverse_6 : decode cX6_pushInverse 6 = .ok (.iconst 1, 1) := by decide +kernel
theorem dX6_pushInverse_7 : decode cX6_pushInverse 7 = .ok (.isub, 1) := by decide +kernel
theorem dX6_pushInverse_8 : decode cX6_pushInverse 8 = .ok (.istore_n 2, 1) := by decide +kernel
theorem dX6_pushInverse_9 : decode cX6_pushInverse 9 = .ok (.iload_n 2, 1) := by decide +kernel
theorem dX6_pushInverse_10 : decode cX6_pushInverse 10 = .ok (.ifCond .lt 27, 3) := by decide +kernel
theorem dX6_pushInverse_13 : decode cX6_pushInverse 13 = .ok (.aload_n 0, 1) := by decide +kernel
theorem dX6_pushInverse_14 : decode cX6_pushInverse 14 = .ok (.aload_n 0, 1) := by decide +kernel
theorem dX6_pushInverse_15 : decode cX6_pushInverse 15 = .ok (.getfield 25, 3) := by decide +kernel
theorem dX6_pushInverse_18 : decode cX6_pushInverse 18 = .ok (.bipush 60, 2) := by decide +kernel
theorem dX6_pushInverse_20 : decode cX6_pushInverse 20 = .ok (.iload_n 1, 1) := by decide +kernel
theorem dX6_pushInverse_21 : decode cX6_pushInverse 21 = .ok (.imul, 1) := by decide +kernel
theorem dX6_pushInverse_22 : decode cX6_pushInverse 22 = .ok (.iload_n 2, 1) := by decide +kernel
theorem dX6_pushInverse_23 : decode cX6_pushInverse 23 = .ok (.iadd, 1) := by decide +kernel
theorem dX6_pushInverse_24 : decode cX6_pushInverse 24 = .ok (.iaload, 1) := by decide +kernel
theorem dX6_pushInverse_25 : decode cX6_pushInverse 25 = .ok (.invokestatic 76, 3) := by decide +kernel
theorem dX6_pushInverse_28 : decode cX6_pushInverse 28 = .ok (.invokevirtual 80, 3) := by decide +kernel
theorem dX6_pushInverse_31 : decode cX6_pushInverse 31 = .ok (.iinc 2 (-1), 3) := by decide +kernel
theorem dX6_pushInverse_34 : decode cX6_pushInverse 34 = .ok (.goto (-25), 3) := by decide +kernel
theorem dX6_pushInverse_37 : decode cX6_pushInverse 37 = .ok (.return_, 1) := by decide +kernel
theorem dX6_handWord_0 : decode cX6_handWord 0 = .ok (.aload_n 0, 1) := by decide +kernel
theorem dX6_handWord_1 : decode cX6_handWord 1 = .ok (.iconst 0, 1) := by decide +kernel
theorem dX6_handWord_2 : decode cX6_handWord 2 = .ok (.putfield 72, 3) := by decide +kernel
theorem dX6_handWord_5 : decode cX6_handWord 5 = .ok (.aload_n 0, 1) := by decide +kernel
theorem dX6_handWord_6 : decode cX6_handWord 6 = .ok (.iload_n 1, 1) := by decide +kernel
theorem dX6_handWord_7 : decode cX6_handWord 7 = .ok (.invokevirtual 84, 3) := by decide +kernel
theorem dX6_handWord_10 : decode cX6_handWord 10 = .ok (.return_, 1) := by decide +kernel
theorem dX6_layWord_0 : decode cX6_layWord 0 = .ok (.iconst 0, 1) := by decide +kernel
theorem dX6_layWord_1 : decode cX6_layWord 1 = .ok (.istore_n 2, 1) := by decide +kernel
theorem dX6_layWord_2 : decode cX6_layWord 2 = .ok (.iload_n 2, 1) := by decide +kernel
theorem dX6_layWord_3 : decode cX6_layWord 3 = .ok (.aload_n 0, 1) := by decide +kernel
theorem dX6_layWord_4 : decode cX6_layWord 4 = .ok (.getfield 72, 3) := by decide +kernel
theorem dX6_layWord_7 : decode cX6_layWord 7 = .ok (.if_icmp .ge 26, 3) := by decide +kernel
theorem dX6_layWord_10 : decode cX6_layWord 10 = .ok (.aload_n 0, 1) := by decide +kernel
theorem dX6_layWord_11 : decode cX6_layWord 11 = .ok (.getfield 25, 3) := by decide +kernel
theorem dX6_layWord_14 : decode cX6_layWord 14 = .ok (.bipush 60, 2) := by decide +kernel
theorem dX6_layWord_16 : decode cX6_layWord 16 = .ok (.iload_n 1, 1) := by decide +kernel
theorem dX6_layWord_17 : decode cX6_layWord 17 = .ok (.imul, 1) := by decide +kernel
theorem dX6_layWord_18 : decode cX6_layWord 18 = .ok (.iload_n 2, 1) := by decide +kernel
theorem dX6_layWord_19 : decode cX6_layWord 19 = .ok (.iadd, 1) := by decide +kernel
theorem dX6_layWord_20 : decode cX6_layWord 20 = .ok (.aload_n 0, 1) := by decide +kernel
theorem dX6_layWord_21 : decode cX6_layWord 21 = .ok (.getfield 34, 3) := by decide +kernel
theorem dX6_layWord_24 : decode cX6_layWord 24 = .ok (.iload_n 2, 1) := by decide +kernel
theorem dX6_layWord_25 : decode cX6_layWord 25 = .ok (.iaload, 1) := by decide +kernel
theorem dX6_layWord_26 : decode cX6_layWord 26 = .ok (.iastore, 1) := by decide +kernel
theorem dX6_layWord_27 : decode cX6_layWord 27 = .ok (.iinc 2 1, 3) := by decide +kernel
theorem dX6_layWord_30 : decode cX6_layWord 30 = .ok (.goto (-28), 3) := by decide +kernel
theorem dX6_layWord_33 : decode cX6_layWord 33 = .ok (.aload_n 0, 1) := by decide +kernel
theorem dX6_layWord_34 : decode cX6_layWord 34 = .ok (.getfield 28, 3) := by decide +kernel
theorem dX6_layWord_37 : decode cX6_layWord 37 = .ok (.iload_n 1, 1) := by decide +kernel
theorem dX6_layWord_38 : decode cX6_layWord 38 = .ok (.aload_n 0, 1) := by decide +kernel
theorem dX6_layWord_39 : decode cX6_layWord 39 = .ok (.getfield 72, 3) := by decide +kernel
theorem dX6_layWord_42 : decode cX6_layWord 42 = .ok (.iastore, 1) := by decide +kernel
theorem dX6_layWord_43 : decode cX6_layWord 43 = .ok (.aload_n 0, 1) := by decide +kernel
theorem dX6_layWord_44 : decode cX6_layWord 44 = .ok (.getfield 72, 3) := by decide +kernel
theorem dX6_layWord_47 : decode cX6_layWord 47 = .ok (.ireturn, 1) := by decide +kernel
theorem dX6_layIfFits_0 : decode cX6_layIfFits 0 = .ok (.aload_n 0, 1) := by decide +kernel
theorem dX6_layIfFits_1 : decode cX6_layIfFits 1 = .ok (.getfield 72, 3) := by decide +kernel
theorem dX6_layIfFits_4 : decode cX6_layIfFits 4 = .ok (.bipush 60, 2) := by decide +kernel
theorem dX6_layIfFits_6 : decode cX6_layIfFits 6 = .ok (.if_icmp .le 10, 3) := by decide +kernel
theorem dX6_layIfFits_9 : decode cX6_layIfFits 9 = .ok (.aload_n 0, 1) := by decide +kernel
theorem dX6_layIfFits_10 : decode cX6_layIfFits 10 = .ok (.invokevirtual 87, 3) := by decide +kernel
theorem dX6_layIfFits_13 : decode cX6_layIfFits 13 = .ok (.goto 8, 3) := by decide +kernel
theorem dX6_layIfFits_16 : decode cX6_layIfFits 16 = .ok (.aload_n 0, 1) := by decide +kernel
theorem dX6_layIfFits_17 : decode cX6_layIfFits 17 = .ok (.iload_n 1, 1) := by decide +kernel
theorem dX6_layIfFits_18 : decode cX6_layIfFits 18 = .ok (.invokevirtual 91, 3) := by decide +kernel
theorem dX6_layIfFits_21 : decode cX6_layIfFits 21 = .ok (.ireturn, 1) := by decide +kernel
theorem dX6_ringHand_0 : decode cX6_ringHand 0 = .ok (.iconst 0, 1) := by decide +kernel
theorem dX6_ringHand_1 : decode cX6_ringHand 1 = .ok (.istore_n 1, 1) := by decide +kernel
theorem dX6_ringHand_2 : decode cX6_ringHand 2 = .ok (.aload_n 0, 1) := by decide +kernel
theorem dX6_ringHand_3 : decode cX6_ringHand 3 = .ok (.getfield 72, 3) := by decide +kernel
theorem dX6_ringHand_6 : decode cX6_ringHand 6 = .ok (.iload_n 1, 1) := by decide +kernel
theorem dX6_ringHand_7 : decode cX6_ringHand 7 = .ok (.isub, 1) := by decide +kernel
theorem dX6_ringHand_8 : decode cX6_ringHand 8 = .ok (.iconst 1, 1) := by decide +kernel
theorem dX6_ringHand_9 : decode cX6_ringHand 9 = .ok (.if_icmp .le 42, 3) := by decide +kernel
theorem dX6_ringHand_12 : decode cX6_ringHand 12 = .ok (.aload_n 0, 1) := by decide +kernel
theorem dX6_ringHand_13 : decode cX6_ringHand 13 = .ok (.getfield 34, 3) := by decide +kernel
theorem dX6_ringHand_16 : decode cX6_ringHand 16 = .ok (.iload_n 1, 1) := by decide +kernel
theorem dX6_ringHand_17 : decode cX6_ringHand 17 = .ok (.iaload, 1) := by decide +kernel
theorem dX6_ringHand_18 : decode cX6_ringHand 18 = .ok (.aload_n 0, 1) := by decide +kernel
theorem dX6_ringHand_19 : decode cX6_ringHand 19 = .ok (.getfield 34, 3) := by decide +kernel
theorem dX6_ringHand_22 : decode cX6_ringHand 22 = .ok (.aload_n 0, 1) := by decide +kernel
theorem dX6_ringHand_23 : decode cX6_ringHand 23 = .ok (.getfield 72, 3) := by decide +kernel
theorem dX6_ringHand_26 : decode cX6_ringHand 26 = .ok (.iconst 1, 1) := by decide +kernel
theorem dX6_ringHand_27 : decode cX6_ringHand 27 = .ok (.isub, 1) := by decide +kernel
theorem dX6_ringHand_28 : decode cX6_ringHand 28 = .ok (.iaload, 1) := by decide +kernel
theorem dX6_ringHand_29 : decode cX6_ringHand 29 = .ok (.invokestatic 76, 3) := by decide +kernel
theorem dX6_ringHand_32 : decode cX6_ringHand 32 = .ok (.if_icmp .ne 19, 3) := by decide +kernel
theorem dX6_ringHand_35 : decode cX6_ringHand 35 = .ok (.iinc 1 1, 3) := by decide +kernel
theorem dX6_ringHand_38 : decode cX6_ringHand 38 = .ok (.aload_n 0, 1) := by decide +kernel
theorem dX6_ringHand_39 : decode cX6_ringHand 39 = .ok (.dup, 1) := by decide +kernel
theorem dX6_ringHand_40 : decode cX6_ringHand 40 = .ok (.getfield 72, 3) := by decide +kernel
theorem dX6_ringHand_43 : decode cX6_ringHand 43 = .ok (.iconst 1, 1) := by decide +kernel
theorem dX6_ringHand_44 : decode cX6_ringHand 44 = .ok (.isub, 1) := by decide +kernel
theorem dX6_ringHand_45 : decode cX6_ringHand 45 = .ok (.putfield 72, 3) := by decide +kernel
theorem dX6_ringHand_48 : decode cX6_ringHand 48 = .ok (.goto (-46), 3) := by decide +kernel
theorem dX6_ringHand_51 : decode cX6_ringHand 51 = .ok (.iload_n 1, 1) := by decide +kernel
theorem dX6_ringHand_52 : decode cX6_ringHand 52 = .ok (.istore_n 2, 1) := by decide +kernel
theorem dX6_ringHand_53 : decode cX6_ringHand 53 = .ok (.iload_n 2, 1) := by decide +kernel
theorem dX6_ringHand_54 : decode cX6_ringHand 54 = .ok (.aload_n 0, 1) := by decide +kernel
theorem dX6_ringHand_55 : decode cX6_ringHand 55 = .ok (.getfield 72, 3) := by decide +kernel
theorem dX6_ringHand_58 : decode cX6_ringHand 58 = .ok (.if_icmp .ge 23, 3) := by decide +kernel
theorem dX6_ringHand_61 : decode cX6_ringHand 61 = .ok (.aload_n 0, 1) := by decide +kernel
theorem dX6_ringHand_62 : decode cX6_ringHand 62 = .ok (.getfield 34, 3) := by decide +kernel
theorem dX6_ringHand_65 : decode cX6_ringHand 65 = .ok (.iload_n 2, 1) := by decide +kernel
theorem dX6_ringHand_66 : decode cX6_ringHand 66 = .ok (.iload_n 1, 1) := by decide +kernel
theorem dX6_ringHand_67 : decode cX6_ringHand 67 = .ok (.isub, 1) := by decide +kernel
theorem dX6_ringHand_68 : decode cX6_ringHand 68 = .ok (.aload_n 0, 1) := by decide +kernel
theorem dX6_ringHand_69 : decode cX6_ringHand 69 = .ok (.getfield 34, 3) := by decide +kernel
theorem dX6_ringHand_72 : decode cX6_ringHand 72 = .ok (.iload_n 2, 1) := by decide +kernel
theorem dX6_ringHand_73 : decode cX6_ringHand 73 = .ok (.iaload, 1) := by decide +kernel
theorem dX6_ringHand_74 : decode cX6_ringHand 74 = .ok (.iastore, 1) := by decide +kernel
theorem dX6_ringHand_75 : decode cX6_ringHand 75 = .ok (.iinc 2 1, 3) := by decide +kernel
theorem dX6_ringHand_78 : decode cX6_ringHand 78 = .ok (.goto (-25), 3) := by decide +kernel
theorem dX6_ringHand_81 : decode cX6_ringHand 81 = .ok (.aload_n 0, 1) := by decide +kernel
theorem dX6_ringHand_82 : decode cX6_ringHand 82 = .ok (.dup, 1) := by decide +kernel
theorem dX6_ringHand_83 : decode cX6_ringHand 83 = .ok (.getfield 72, 3) := by decide +kernel
theorem dX6_ringHand_86 : decode cX6_ringHand 86 = .ok (.iload_n 1, 1) := by decide +kernel
theorem dX6_ringHand_87 : decode cX6_ringHand 87 = .ok (.isub, 1) := by decide +kernel
theorem dX6_ringHand_88 : decode cX6_ringHand 88 = .ok (.putfield 72, 3) := by decide +kernel
theorem dX6_ringHand_91 : decode cX6_ringHand 91 = .ok (.return_, 1) := by decide +kernel
theorem dX6_relatorLetter_0 : decode cX6_relatorLetter 0 = .ok (.aload_n 0, 1) := by decide +kernel
theorem dX6_relatorLetter_1 : decode cX6_relatorLetter 1 = .ok (.getfield 13, 3) := by decide +kernel
theorem dX6_relatorLetter_4 : decode cX6_relatorLetter 4 = .ok (.iload_n 1, 1) := by decide +kernel
theorem dX6_relatorLetter_5 : decode cX6_relatorLetter 5 = .ok (.iaload, 1) := by decide +kernel
theorem dX6_relatorLetter_6 : decode cX6_relatorLetter 6 = .ok (.istore 5, 2) := by decide +kernel
theorem dX6_relatorLetter_8 : decode cX6_relatorLetter 8 = .ok (.iload_n 2, 1) := by decide +kernel
theorem dX6_relatorLetter_9 : decode cX6_relatorLetter 9 = .ok (.iload_n 3, 1) := by decide +kernel
theorem dX6_relatorLetter_10 : decode cX6_relatorLetter 10 = .ok (.iadd, 1) := by decide +kernel
theorem dX6_relatorLetter_11 : decode cX6_relatorLetter 11 = .ok (.iload 5, 2) := by decide +kernel
theorem dX6_relatorLetter_13 : decode cX6_relatorLetter 13 = .ok (.irem, 1) := by decide +kernel
theorem dX6_relatorLetter_14 : decode cX6_relatorLetter 14 = .ok (.istore 6, 2) := by decide +kernel
theorem dX6_relatorLetter_16 : decode cX6_relatorLetter 16 = .ok (.iload 4, 2) := by decide +kernel
theorem dX6_relatorLetter_18 : decode cX6_relatorLetter 18 = .ok (.ifCond .eq 26, 3) := by decide +kernel
theorem dX6_relatorLetter_21 : decode cX6_relatorLetter 21 = .ok (.aload_n 0, 1) := by decide +kernel
theorem dX6_relatorLetter_22 : decode cX6_relatorLetter 22 = .ok (.getfield 7, 3) := by decide +kernel
theorem dX6_relatorLetter_25 : decode cX6_relatorLetter 25 = .ok (.bipush 14, 2) := by decide +kernel
theorem dX6_relatorLetter_27 : decode cX6_relatorLetter 27 = .ok (.iload_n 1, 1) := by decide +kernel
theorem dX6_relatorLetter_28 : decode cX6_relatorLetter 28 = .ok (.imul, 1) := by decide +kernel
theorem dX6_relatorLetter_29 : decode cX6_relatorLetter 29 = .ok (.iload 5, 2) := by decide +kernel
theorem dX6_relatorLetter_31 : decode cX6_relatorLetter 31 = .ok (.iadd, 1) := by decide +kernel
theorem dX6_relatorLetter_32 : decode cX6_relatorLetter 32 = .ok (.iconst 1, 1) := by decide +kernel
theorem dX6_relatorLetter_33 : decode cX6_relatorLetter 33 = .ok (.isub, 1) := by decide +kernel
theorem dX6_relatorLetter_34 : decode cX6_relatorLetter 34 = .ok (.iload 6, 2) := by decide +kernel
theorem dX6_relatorLetter_36 : decode cX6_relatorLetter 36 = .ok (.isub, 1) := by decide +kernel
theorem dX6_relatorLetter_37 : decode cX6_relatorLetter 37 = .ok (.iaload, 1) := by decide +kernel
theorem dX6_relatorLetter_38 : decode cX6_relatorLetter 38 = .ok (.invokestatic 76, 3) := by decide +kernel
theorem dX6_relatorLetter_41 : decode cX6_relatorLetter 41 = .ok (.goto 15, 3) := by decide +kernel
theorem dX6_relatorLetter_44 : decode cX6_relatorLetter 44 = .ok (.aload_n 0, 1) := by decide +kernel
theorem dX6_relatorLetter_45 : decode cX6_relatorLetter 45 = .ok (.getfield 7, 3) := by decide +kernel
theorem dX6_relatorLetter_48 : decode cX6_relatorLetter 48 = .ok (.bipush 14, 2) := by decide +kernel
theorem dX6_relatorLetter_50 : decode cX6_relatorLetter 50 = .ok (.iload_n 1, 1) := by decide +kernel
theorem dX6_relatorLetter_51 : decode cX6_relatorLetter 51 = .ok (.imul, 1) := by decide +kernel
theorem dX6_relatorLetter_52 : decode cX6_relatorLetter 52 = .ok (.iload 6, 2) := by decide +kernel
theorem dX6_relatorLetter_54 : decode cX6_relatorLetter 54 = .ok (.iadd, 1) := by decide +kernel
theorem dX6_relatorLetter_55 : decode cX6_relatorLetter 55 = .ok (.iaload, 1) := by decide +kernel
theorem dX6_relatorLetter_56 : decode cX6_relatorLetter 56 = .ok (.ireturn, 1) := by decide +kernel
theorem dX6_isTurn_0 : decode cX6_isTurn 0 = .ok (.aload_n 0, 1) := by decide +kernel
theorem dX6_isTurn_1 : decode cX6_isTurn 1 = .ok (.getfield 19, 3) := by decide +kernel
theorem dX6_isTurn_4 : decode cX6_isTurn 4 = .ok (.iload_n 1, 1) := by decide +kernel
theorem dX6_isTurn_5 : decode cX6_isTurn 5 = .ok (.iaload, 1) := by decide +kernel
theorem dX6_isTurn_6 : decode cX6_isTurn 6 = .ok (.aload_n 0, 1) := by decide +kernel
theorem dX6_isTurn_7 : decode cX6_isTurn 7 = .ok (.getfield 13, 3) := by decide +kernel
theorem dX6_isTurn_10 : decode cX6_isTurn 10 = .ok (.iload_n 2, 1) := by decide +kernel
theorem dX6_isTurn_11 : decode cX6_isTurn 11 = .ok (.iaload, 1) := by decide +kernel
theorem dX6_isTurn_12 : decode cX6_isTurn 12 = .ok (.if_icmp .ne 7, 3) := by decide +kernel
theorem dX6_isTurn_15 : decode cX6_isTurn 15 = .ok (.iconst 1, 1) := by decide +kernel
theorem dX6_isTurn_16 : decode cX6_isTurn 16 = .ok (.goto 4, 3) := by decide +kernel
theorem dX6_isTurn_19 : decode cX6_isTurn 19 = .ok (.iconst 0, 1) := by decide +kernel
theorem dX6_isTurn_20 : decode cX6_isTurn 20 = .ok (.istore 5, 2) := by decide +kernel
theorem dX6_isTurn_22 : decode cX6_isTurn 22 = .ok (.iconst 0, 1) := by decide +kernel
theorem dX6_isTurn_23 : decode cX6_isTurn 23 = .ok (.istore 6, 2) := by decide +kernel
theorem dX6_isTurn_25 : decode cX6_isTurn 25 = .ok (.iload 6, 2) := by decide +kernel
theorem dX6_isTurn_27 : decode cX6_isTurn 27 = .ok (.aload_n 0, 1) := by decide +kernel
theorem dX6_isTurn_28 : decode cX6_isTurn 28 = .ok (.getfield 13, 3) := by decide +kernel
theorem dX6_isTurn_31 : decode cX6_isTurn 31 = .ok (.iload_n 2, 1) := by decide +kernel
theorem dX6_isTurn_32 : decode cX6_isTurn 32 = .ok (.iaload, 1) := by decide +kernel
theorem dX6_isTurn_33 : decode cX6_isTurn 33 = .ok (.if_icmp .ge 46, 3) := by decide +kernel
theorem dX6_isTurn_36 : decode cX6_isTurn 36 = .ok (.iload 5, 2) := by decide +kernel
theorem dX6_isTurn_38 : decode cX6_isTurn 38 = .ok (.ifCond .eq 41, 3) := by decide +kernel
theorem dX6_isTurn_41 : decode cX6_isTurn 41 = .ok (.aload_n 0, 1) := by decide +kernel
theorem dX6_isTurn_42 : decode cX6_isTurn 42 = .ok (.getfield 16, 3) := by decide +kernel
theorem dX6_isTurn_45 : decode cX6_isTurn 45 = .ok (.bipush 14, 2) := by decide +kernel
theorem dX6_isTurn_47 : decode cX6_isTurn 47 = .ok (.iload_n 1, 1) := by decide +kernel
theorem dX6_isTurn_48 : decode cX6_isTurn 48 = .ok (.imul, 1) := by decide +kernel
theorem dX6_isTurn_49 : decode cX6_isTurn 49 = .ok (.iload 6, 2) := by decide +kernel
theorem dX6_isTurn_51 : decode cX6_isTurn 51 = .ok (.iadd, 1) := by decide +kernel
theorem dX6_isTurn_52 : decode cX6_isTurn 52 = .ok (.iaload, 1) := by decide +kernel
theorem dX6_isTurn_53 : decode cX6_isTurn 53 = .ok (.aload_n 0, 1) := by decide +kernel
theorem dX6_isTurn_54 : decode cX6_isTurn 54 = .ok (.iload_n 2, 1) := by decide +kernel
theorem dX6_isTurn_55 : decode cX6_isTurn 55 = .ok (.iload_n 3, 1) := by decide +kernel
theorem dX6_isTurn_56 : decode cX6_isTurn 56 = .ok (.iload 6, 2) := by decide +kernel
theorem dX6_isTurn_58 : decode cX6_isTurn 58 = .ok (.iload 4, 2) := by decide +kernel
theorem dX6_isTurn_60 : decode cX6_isTurn 60 = .ok (.invokevirtual 94, 3) := by decide +kernel
theorem dX6_isTurn_63 : decode cX6_isTurn 63 = .ok (.if_icmp .ne 7, 3) := by decide +kernel
theorem dX6_isTurn_66 : decode cX6_isTurn 66 = .ok (.iconst 1, 1) := by decide +kernel
theorem dX6_isTurn_67 : decode cX6_isTurn 67 = .ok (.goto 4, 3) := by decide +kernel
theorem dX6_isTurn_70 : decode cX6_isTurn 70 = .ok (.iconst 0, 1) := by decide +kernel
theorem dX6_isTurn_71 : decode cX6_isTurn 71 = .ok (.istore 5, 2) := by decide +kernel
theorem dX6_isTurn_73 : decode cX6_isTurn 73 = .ok (.iinc 6 1, 3) := by decide +kernel
theorem dX6_isTurn_76 : decode cX6_isTurn 76 = .ok (.goto (-51), 3) := by decide +kernel
theorem dX6_isTurn_79 : decode cX6_isTurn 79 = .ok (.iload 5, 2) := by decide +kernel
theorem dX6_isTurn_81 : decode cX6_isTurn 81 = .ok (.ireturn, 1) := by decide +kernel
theorem dX6_isListed_0 : decode cX6_isListed 0 = .ok (.iconst 0, 1) := by decide +kernel
theorem dX6_isListed_1 : decode cX6_isListed 1 = .ok (.istore 4, 2) := by decide +kernel
theorem dX6_isListed_3 : decode cX6_isListed 3 = .ok (.iconst 0, 1) := by decide +kernel
theorem dX6_isListed_4 : decode cX6_isListed 4 = .ok (.istore 5, 2) := by decide +kernel
theorem dX6_isListed_6 : decode cX6_isListed 6 = .ok (.iload 5, 2) := by decide +kernel
theorem dX6_isListed_8 : decode cX6_isListed 8 = .ok (.aload_n 0, 1) := by decide +kernel
theorem dX6_isListed_9 : decode cX6_isListed 9 = .ok (.getfield 98, 3) := by decide +kernel
theorem dX6_isListed_12 : decode cX6_isListed 12 = .ok (.if_icmp .ge 25, 3) := by decide +kernel
theorem dX6_isListed_15 : decode cX6_isListed 15 = .ok (.iload 4, 2) := by decide +kernel
theorem dX6_isListed_17 : decode cX6_isListed 17 = .ok (.ifCond .ne 20, 3) := by decide +kernel
theorem dX6_isListed_20 : decode cX6_isListed 20 = .ok (.aload_n 0, 1) := by decide +kernel
theorem dX6_isListed_21 : decode cX6_isListed 21 = .ok (.iload 5, 2) := by decide +kernel
theorem dX6_isListed_23 : decode cX6_isListed 23 = .ok (.iload_n 1, 1) := by decide +kernel
theorem dX6_isListed_24 : decode cX6_isListed 24 = .ok (.iload_n 2, 1) := by decide +kernel
theorem dX6_isListed_25 : decode cX6_isListed 25 = .ok (.iload_n 3, 1) := by decide +kernel
theorem dX6_isListed_26 : decode cX6_isListed 26 = .ok (.invokevirtual 101, 3) := by decide +kernel
theorem dX6_isListed_29 : decode cX6_isListed 29 = .ok (.istore 4, 2) := by decide +kernel
theorem dX6_isListed_31 : decode cX6_isListed 31 = .ok (.iinc 5 1, 3) := by decide +kernel
theorem dX6_isListed_34 : decode cX6_isListed 34 = .ok (.goto (-28), 3) := by decide +kernel
theorem dX6_isListed_37 : decode cX6_isListed 37 = .ok (.iload 4, 2) := by decide +kernel
theorem dX6_isListed_39 : decode cX6_isListed 39 = .ok (.ireturn, 1) := by decide +kernel
theorem dX6_listTurns_0 : decode cX6_listTurns 0 = .ok (.iconst 0, 1) := by decide +kernel
theorem dX6_listTurns_1 : decode cX6_listTurns 1 = .ok (.istore_n 3, 1) := by decide +kernel
theorem dX6_listTurns_2 : decode cX6_listTurns 2 = .ok (.iload_n 3, 1) := by decide +kernel
theorem dX6_listTurns_3 : decode cX6_listTurns 3 = .ok (.aload_n 0, 1) := by decide +kernel
theorem dX6_listTurns_4 : decode cX6_listTurns 4 = .ok (.getfield 13, 3) := by decide +kernel
theorem dX6_listTurns_7 : decode cX6_listTurns 7 = .ok (.iload_n 1, 1) := by decide +kernel
theorem dX6_listTurns_8 : decode cX6_listTurns 8 = .ok (.iaload, 1) := by decide +kernel
theorem dX6_listTurns_9 : decode cX6_listTurns 9 = .ok (.if_icmp .ge 98, 3) := by decide +kernel
theorem dX6_listTurns_12 : decode cX6_listTurns 12 = .ok (.aload_n 0, 1) := by decide +kernel
theorem dX6_listTurns_13 : decode cX6_listTurns 13 = .ok (.iload_n 1, 1) := by decide +kernel
theorem dX6_listTurns_14 : decode cX6_listTurns 14 = .ok (.iload_n 3, 1) := by decide +kernel
theorem dX6_listTurns_15 : decode cX6_listTurns 15 = .ok (.iload_n 2, 1) := by decide +kernel
theorem dX6_listTurns_16 : decode cX6_listTurns 16 = .ok (.invokevirtual 105, 3) := by decide +kernel
theorem dX6_listTurns_19 : decode cX6_listTurns 19 = .ok (.ifCond .ne 82, 3) := by decide +kernel
theorem dX6_listTurns_22 : decode cX6_listTurns 22 = .ok (.iconst 0, 1) := by decide +kernel
theorem dX6_listTurns_23 : decode cX6_listTurns 23 = .ok (.istore 4, 2) := by decide +kernel
theorem dX6_listTurns_25 : decode cX6_listTurns 25 = .ok (.iload 4, 2) := by decide +kernel
theorem dX6_listTurns_27 : decode cX6_listTurns 27 = .ok (.aload_n 0, 1) := by decide +kernel
theorem dX6_listTurns_28 : decode cX6_listTurns 28 = .ok (.getfield 13, 3) := by decide +kernel
theorem dX6_listTurns_31 : decode cX6_listTurns 31 = .ok (.iload_n 1, 1) := by decide +kernel
theorem dX6_listTurns_32 : decode cX6_listTurns 32 = .ok (.iaload, 1) := by decide +kernel
theorem dX6_listTurns_33 : decode cX6_listTurns 33 = .ok (.if_icmp .ge 33, 3) := by decide +kernel
theorem dX6_listTurns_36 : decode cX6_listTurns 36 = .ok (.aload_n 0, 1) := by decide +kernel
theorem dX6_listTurns_37 : decode cX6_listTurns 37 = .ok (.getfield 16, 3) := by decide +kernel
theorem dX6_listTurns_40 : decode cX6_listTurns 40 = .ok (.bipush 14, 2) := by decide +kernel
theorem dX6_listTurns_42 : decode cX6_listTurns 42 = .ok (.aload_n 0, 1) := by decide +kernel
theorem dX6_listTurns_43 : decode cX6_listTurns 43 = .ok (.getfield 98, 3) := by decide +kernel
theorem dX6_listTurns_46 : decode cX6_listTurns 46 = .ok (.imul, 1) := by decide +kernel
theorem dX6_listTurns_47 : decode cX6_listTurns 47 = .ok (.iload 4, 2) := by decide +kernel
theorem dX6_listTurns_49 : decode cX6_listTurns 49 = .ok (.iadd, 1) := by decide +kernel
theorem dX6_listTurns_50 : decode cX6_listTurns 50 = .ok (.aload_n 0, 1) := by decide +kernel
theorem dX6_listTurns_51 : decode cX6_listTurns 51 = .ok (.iload_n 1, 1) := by decide +kernel
theorem dX6_listTurns_52 : decode cX6_listTurns 52 = .ok (.iload_n 3, 1) := by decide +kernel
theorem dX6_listTurns_53 : decode cX6_listTurns 53 = .ok (.iload 4, 2) := by decide +kernel
theorem dX6_listTurns_55 : decode cX6_listTurns 55 = .ok (.iload_n 2, 1) := by decide +kernel
theorem dX6_listTurns_56 : decode cX6_listTurns 56 = .ok (.invokevirtual 94, 3) := by decide +kernel
theorem dX6_listTurns_59 : decode cX6_listTurns 59 = .ok (.iastore, 1) := by decide +kernel
theorem dX6_listTurns_60 : decode cX6_listTurns 60 = .ok (.iinc 4 1, 3) := by decide +kernel
theorem dX6_listTurns_63 : decode cX6_listTurns 63 = .ok (.goto (-38), 3) := by decide +kernel
theorem dX6_listTurns_66 : decode cX6_listTurns 66 = .ok (.aload_n 0, 1) := by decide +kernel
theorem dX6_listTurns_67 : decode cX6_listTurns 67 = .ok (.getfield 19, 3) := by decide +kernel
theorem dX6_listTurns_70 : decode cX6_listTurns 70 = .ok (.aload_n 0, 1) := by decide +kernel
theorem dX6_listTurns_71 : decode cX6_listTurns 71 = .ok (.getfield 98, 3) := by decide +kernel
theorem dX6_listTurns_74 : decode cX6_listTurns 74 = .ok (.aload_n 0, 1) := by decide +kernel
theorem dX6_listTurns_75 : decode cX6_listTurns 75 = .ok (.getfield 13, 3) := by decide +kernel
theorem dX6_listTurns_78 : decode cX6_listTurns 78 = .ok (.iload_n 1, 1) := by decide +kernel
theorem dX6_listTurns_79 : decode cX6_listTurns 79 = .ok (.iaload, 1) := by decide +kernel
theorem dX6_listTurns_80 : decode cX6_listTurns 80 = .ok (.iastore, 1) := by decide +kernel
theorem dX6_listTurns_81 : decode cX6_listTurns 81 = .ok (.aload_n 0, 1) := by decide +kernel
theorem dX6_listTurns_82 : decode cX6_listTurns 82 = .ok (.getfield 22, 3) := by decide +kernel
theorem dX6_listTurns_85 : decode cX6_listTurns 85 = .ok (.aload_n 0, 1) := by decide +kernel
theorem dX6_listTurns_86 : decode cX6_listTurns 86 = .ok (.getfield 98, 3) := by decide +kernel
theorem dX6_listTurns_89 : decode cX6_listTurns 89 = .ok (.iload_n 1, 1) := by decide +kernel
theorem dX6_listTurns_90 : decode cX6_listTurns 90 = .ok (.iastore, 1) := by decide +kernel
theorem dX6_listTurns_91 : decode cX6_listTurns 91 = .ok (.aload_n 0, 1) := by decide +kernel
theorem dX6_listTurns_92 : decode cX6_listTurns 92 = .ok (.dup, 1) := by decide +kernel
theorem dX6_listTurns_93 : decode cX6_listTurns 93 = .ok (.getfield 98, 3) := by decide +kernel
theorem dX6_listTurns_96 : decode cX6_listTurns 96 = .ok (.iconst 1, 1) := by decide +kernel
theorem dX6_listTurns_97 : decode cX6_listTurns 97 = .ok (.iadd, 1) := by decide +kernel
theorem dX6_listTurns_98 : decode cX6_listTurns 98 = .ok (.putfield 98, 3) := by decide +kernel
theorem dX6_listTurns_101 : decode cX6_listTurns 101 = .ok (.iinc 3 1, 3) := by decide +kernel
theorem dX6_listTurns_104 : decode cX6_listTurns 104 = .ok (.goto (-102), 3) := by decide +kernel
theorem dX6_listTurns_107 : decode cX6_listTurns 107 = .ok (.return_, 1) := by decide +kernel
theorem dX6_listMembers_0 : decode cX6_listMembers 0 = .ok (.aload_n 0, 1) := by decide +kernel
theorem dX6_listMembers_1 : decode cX6_listMembers 1 = .ok (.iconst 0, 1) := by decide +kernel
theorem dX6_listMembers_2 : decode cX6_listMembers 2 = .ok (.putfield 98, 3) := by decide +kernel
theorem dX6_listMembers_5 : decode cX6_listMembers 5 = .ok (.iconst 0, 1) := by decide +kernel
theorem dX6_listMembers_6 : decode cX6_listMembers 6 = .ok (.istore_n 1, 1) := by decide +kernel
theorem dX6_listMembers_7 : decode cX6_listMembers 7 = .ok (.iload_n 1, 1) := by decide +kernel
theorem dX6_listMembers_8 : decode cX6_listMembers 8 = .ok (.aload_n 0, 1) := by decide +kernel
theorem dX6_listMembers_9 : decode cX6_listMembers 9 = .ok (.getfield 109, 3) := by decide +kernel
theorem dX6_listMembers_12 : decode cX6_listMembers 12 = .ok (.if_icmp .ge 21, 3) := by decide +kernel
theorem dX6_listMembers_15 : decode cX6_listMembers 15 = .ok (.aload_n 0, 1) := by decide +kernel
theorem dX6_listMembers_16 : decode cX6_listMembers 16 = .ok (.iload_n 1, 1) := by decide +kernel
theorem dX6_listMembers_17 : decode cX6_listMembers 17 = .ok (.iconst 0, 1) := by decide +kernel
theorem dX6_listMembers_18 : decode cX6_listMembers 18 = .ok (.invokevirtual 112, 3) := by decide +kernel
theorem dX6_listMembers_21 : decode cX6_listMembers 21 = .ok (.aload_n 0, 1) := by decide +kernel
theorem dX6_listMembers_22 : decode cX6_listMembers 22 = .ok (.iload_n 1, 1) := by decide +kernel
theorem dX6_listMembers_23 : decode cX6_listMembers 23 = .ok (.iconst 1, 1) := by decide +kernel
theorem dX6_listMembers_24 : decode cX6_listMembers 24 = .ok (.invokevirtual 112, 3) := by decide +kernel
theorem dX6_listMembers_27 : decode cX6_listMembers 27 = .ok (.iinc 1 1, 3) := by decide +kernel
theorem dX6_listMembers_30 : decode cX6_listMembers 30 = .ok (.goto (-23), 3) := by decide +kernel
theorem dX6_listMembers_33 : decode cX6_listMembers 33 = .ok (.return_, 1) := by decide +kernel
theorem dX6_isMember_0 : decode cX6_isMember 0 = .ok (.iload_n 1, 1) := by decide +kernel
theorem dX6_isMember_1 : decode cX6_isMember 1 = .ok (.i2l, 1) := by decide +kernel
theorem dX6_isMember_2 : decode cX6_isMember 2 = .ok (.lconst 0, 1) := by decide +kernel
theorem dX6_isMember_3 : decode cX6_isMember 3 = .ok (.aload_n 0, 1) := by decide +kernel
theorem dX6_isMember_4 : decode cX6_isMember 4 = .ok (.getfield 98, 3) := by decide +kernel
theorem dX6_isMember_7 : decode cX6_isMember 7 = .ok (.iconst 1, 1) := by decide +kernel
theorem dX6_isMember_8 : decode cX6_isMember 8 = .ok (.isub, 1) := by decide +kernel
theorem dX6_isMember_9 : decode cX6_isMember 9 = .ok (.i2l, 1) := by decide +kernel
theorem dX6_isMember_10 : decode cX6_isMember 10 = .ok (.invokestatic 66, 3) := by decide +kernel
theorem dX6_isMember_13 : decode cX6_isMember 13 = .ok (.ireturn, 1) := by decide +kernel
theorem dX6_isRelator_0 : decode cX6_isRelator 0 = .ok (.iload_n 1, 1) := by decide +kernel
theorem dX6_isRelator_1 : decode cX6_isRelator 1 = .ok (.i2l, 1) := by decide +kernel
theorem dX6_isRelator_2 : decode cX6_isRelator 2 = .ok (.lconst 0, 1) := by decide +kernel
theorem dX6_isRelator_3 : decode cX6_isRelator 3 = .ok (.aload_n 0, 1) := by decide +kernel
theorem dX6_isRelator_4 : decode cX6_isRelator 4 = .ok (.getfield 109, 3) := by decide +kernel
theorem dX6_isRelator_7 : decode cX6_isRelator 7 = .ok (.iconst 1, 1) := by decide +kernel
theorem dX6_isRelator_8 : decode cX6_isRelator 8 = .ok (.isub, 1) := by decide +kernel
theorem dX6_isRelator_9 : decode cX6_isRelator 9 = .ok (.i2l, 1) := by decide +kernel
theorem dX6_isRelator_10 : decode cX6_isRelator 10 = .ok (.invokestatic 66, 3) := by decide +kernel
theorem dX6_isRelator_13 : decode cX6_isRelator 13 = .ok (.ireturn, 1) := by decide +kernel
theorem dX6_beginAlike_0 : decode cX6_beginAlike 0 = .ok (.iconst 0, 1) := by decide +kernel
theorem dX6_beginAlike_1 : decode cX6_beginAlike 1 = .ok (.istore_n 3, 1) := by decide +kernel
theorem dX6_beginAlike_2 : decode cX6_beginAlike 2 = .ok (.iload_n 3, 1) := by decide +kernel
theorem dX6_beginAlike_3 : decode cX6_beginAlike 3 = .ok (.aload_n 0, 1) := by decide +kernel
theorem dX6_beginAlike_4 : decode cX6_beginAlike 4 = .ok (.getfield 19, 3) := by decide +kernel
theorem dX6_beginAlike_7 : decode cX6_beginAlike 7 = .ok (.iload_n 1, 1) := by decide +kernel
theorem dX6_beginAlike_8 : decode cX6_beginAlike 8 = .ok (.iaload, 1) := by decide +kernel
theorem dX6_beginAlike_9 : decode cX6_beginAlike 9 = .ok (.if_icmp .ge 44, 3) := by decide +kernel
theorem dX6_beginAlike_12 : decode cX6_beginAlike 12 = .ok (.iload_n 3, 1) := by decide +kernel
theorem dX6_beginAlike_13 : decode cX6_beginAlike 13 = .ok (.aload_n 0, 1) := by decide +kernel
theorem dX6_beginAlike_14 : decode cX6_beginAlike 14 = .ok (.getfield 19, 3) := by decide +kernel
theorem dX6_beginAlike_17 : decode cX6_beginAlike 17 = .ok (.iload_n 2, 1) := by decide +kernel
theorem dX6_beginAlike_18 : decode cX6_beginAlike 18 = .ok (.iaload, 1) := by decide +kernel
theorem dX6_beginAlike_19 : decode cX6_beginAlike 19 = .ok (.if_icmp .ge 34, 3) := by decide +kernel
theorem dX6_beginAlike_22 : decode cX6_beginAlike 22 = .ok (.aload_n 0, 1) := by decide +kernel
theorem dX6_beginAlike_23 : decode cX6_beginAlike 23 = .ok (.getfield 16, 3) := by decide +kernel
theorem dX6_beginAlike_26 : decode cX6_beginAlike 26 = .ok (.bipush 14, 2) := by decide +kernel
theorem dX6_beginAlike_28 : decode cX6_beginAlike 28 = .ok (.iload_n 1, 1) := by decide +kernel
theorem dX6_beginAlike_29 : decode cX6_beginAlike 29 = .ok (.imul, 1) := by decide +kernel
theorem dX6_beginAlike_30 : decode cX6_beginAlike 30 = .ok (.iload_n 3, 1) := by decide +kernel
theorem dX6_beginAlike_31 : decode cX6_beginAlike 31 = .ok (.iadd, 1) := by decide +kernel
theorem dX6_beginAlike_32 : decode cX6_beginAlike 32 = .ok (.iaload, 1) := by decide +kernel
theorem dX6_beginAlike_33 : decode cX6_beginAlike 33 = .ok (.aload_n 0, 1) := by decide +kernel
theorem dX6_beginAlike_34 : decode cX6_beginAlike 34 = .ok (.getfield 16, 3) := by decide +kernel
theorem dX6_beginAlike_37 : decode cX6_beginAlike 37 = .ok (.bipush 14, 2) := by decide +kernel
theorem dX6_beginAlike_39 : decode cX6_beginAlike 39 = .ok (.iload_n 2, 1) := by decide +kernel
theorem dX6_beginAlike_40 : decode cX6_beginAlike 40 = .ok (.imul, 1) := by decide +kernel
theorem dX6_beginAlike_41 : decode cX6_beginAlike 41 = .ok (.iload_n 3, 1) := by decide +kernel
theorem dX6_beginAlike_42 : decode cX6_beginAlike 42 = .ok (.iadd, 1) := by decide +kernel
theorem dX6_beginAlike_43 : decode cX6_beginAlike 43 = .ok (.iaload, 1) := by decide +kernel
theorem dX6_beginAlike_44 : decode cX6_beginAlike 44 = .ok (.if_icmp .ne 9, 3) := by decide +kernel
theorem dX6_beginAlike_47 : decode cX6_beginAlike 47 = .ok (.iinc 3 1, 3) := by decide +kernel
theorem dX6_beginAlike_50 : decode cX6_beginAlike 50 = .ok (.goto (-48), 3) := by decide +kernel
theorem dX6_beginAlike_53 : decode cX6_beginAlike 53 = .ok (.iload_n 3, 1) := by decide +kernel
theorem dX6_beginAlike_54 : decode cX6_beginAlike 54 = .ok (.ireturn, 1) := by decide +kernel
theorem dX6_isOf_0 : decode cX6_isOf 0 = .ok (.iconst 0, 1) := by decide +kernel
theorem dX6_isOf_1 : decode cX6_isOf 1 = .ok (.istore_n 3, 1) := by decide +kernel
theorem dX6_isOf_2 : decode cX6_isOf 2 = .ok (.iconst 0, 1) := by decide +kernel
theorem dX6_isOf_3 : decode cX6_isOf 3 = .ok (.istore 4, 2) := by decide +kernel
theorem dX6_isOf_5 : decode cX6_isOf 5 = .ok (.iload 4, 2) := by decide +kernel
theorem dX6_isOf_7 : decode cX6_isOf 7 = .ok (.aload_n 0, 1) := by decide +kernel
theorem dX6_isOf_8 : decode cX6_isOf 8 = .ok (.getfield 13, 3) := by decide +kernel
theorem dX6_isOf_11 : decode cX6_isOf 11 = .ok (.iload_n 2, 1) := by decide +kernel
theorem dX6_isOf_12 : decode cX6_isOf 12 = .ok (.iaload, 1) := by decide +kernel
theorem dX6_isOf_13 : decode cX6_isOf 13 = .ok (.if_icmp .ge 43, 3) := by decide +kernel
theorem dX6_isOf_16 : decode cX6_isOf 16 = .ok (.iload_n 3, 1) := by decide +kernel
theorem dX6_isOf_17 : decode cX6_isOf 17 = .ok (.ifCond .ne 39, 3) := by decide +kernel
theorem dX6_isOf_20 : decode cX6_isOf 20 = .ok (.aload_n 0, 1) := by decide +kernel
theorem dX6_isOf_21 : decode cX6_isOf 21 = .ok (.iload_n 1, 1) := by decide +kernel
theorem dX6_isOf_22 : decode cX6_isOf 22 = .ok (.iload_n 2, 1) := by decide +kernel
theorem dX6_isOf_23 : decode cX6_isOf 23 = .ok (.iload 4, 2) := by decide +kernel
theorem dX6_isOf_25 : decode cX6_isOf 25 = .ok (.iconst 0, 1) := by decide +kernel
theorem dX6_isOf_26 : decode cX6_isOf 26 = .ok (.invokevirtual 101, 3) := by decide +kernel
theorem dX6_isOf_29 : decode cX6_isOf 29 = .ok (.ifCond .ne 15, 3) := by decide +kernel
theorem dX6_isOf_32 : decode cX6_isOf 32 = .ok (.aload_n 0, 1) := by decide +kernel
theorem dX6_isOf_33 : decode cX6_isOf 33 = .ok (.iload_n 1, 1) := by decide +kernel
theorem dX6_isOf_34 : decode cX6_isOf 34 = .ok (.iload_n 2, 1) := by decide +kernel
theorem dX6_isOf_35 : decode cX6_isOf 35 = .ok (.iload 4, 2) := by decide +kernel
theorem dX6_isOf_37 : decode cX6_isOf 37 = .ok (.iconst 1, 1) := by decide +kernel
theorem dX6_isOf_38 : decode cX6_isOf 38 = .ok (.invokevirtual 101, 3) := by decide +kernel
theorem dX6_isOf_41 : decode cX6_isOf 41 = .ok (.ifCond .eq 7, 3) := by decide +kernel
theorem dX6_isOf_44 : decode cX6_isOf 44 = .ok (.iconst 1, 1) := by decide +kernel
theorem dX6_isOf_45 : decode cX6_isOf 45 = .ok (.goto 4, 3) := by decide +kernel
theorem dX6_isOf_48 : decode cX6_isOf 48 = .ok (.iconst 0, 1) := by decide +kernel
theorem dX6_isOf_49 : decode cX6_isOf 49 = .ok (.istore_n 3, 1) := by decide +kernel
theorem dX6_isOf_50 : decode cX6_isOf 50 = .ok (.iinc 4 1, 3) := by decide +kernel
theorem dX6_isOf_53 : decode cX6_isOf 53 = .ok (.goto (-48), 3) := by decide +kernel
theorem dX6_isOf_56 : decode cX6_isOf 56 = .ok (.iload_n 3, 1) := by decide +kernel
theorem dX6_isOf_57 : decode cX6_isOf 57 = .ok (.ireturn, 1) := by decide +kernel
theorem dX6_pieceOf_0 : decode cX6_pieceOf 0 = .ok (.iconst 0, 1) := by decide +kernel
theorem dX6_pieceOf_1 : decode cX6_pieceOf 1 = .ok (.istore_n 2, 1) := by decide +kernel
theorem dX6_pieceOf_2 : decode cX6_pieceOf 2 = .ok (.iconst 0, 1) := by decide +kernel
theorem dX6_pieceOf_3 : decode cX6_pieceOf 3 = .ok (.istore_n 3, 1) := by decide +kernel
theorem dX6_pieceOf_4 : decode cX6_pieceOf 4 = .ok (.iload_n 3, 1) := by decide +kernel
theorem dX6_pieceOf_5 : decode cX6_pieceOf 5 = .ok (.aload_n 0, 1) := by decide +kernel
theorem dX6_pieceOf_6 : decode cX6_pieceOf 6 = .ok (.getfield 98, 3) := by decide +kernel
theorem dX6_pieceOf_9 : decode cX6_pieceOf 9 = .ok (.if_icmp .ge 68, 3) := by decide +kernel
theorem dX6_pieceOf_12 : decode cX6_pieceOf 12 = .ok (.aload_n 0, 1) := by decide +kernel
theorem dX6_pieceOf_13 : decode cX6_pieceOf 13 = .ok (.iload_n 3, 1) := by decide +kernel
theorem dX6_pieceOf_14 : decode cX6_pieceOf 14 = .ok (.iload_n 1, 1) := by decide +kernel
theorem dX6_pieceOf_15 : decode cX6_pieceOf 15 = .ok (.invokevirtual 116, 3) := by decide +kernel
theorem dX6_pieceOf_18 : decode cX6_pieceOf 18 = .ok (.ifCond .eq 53, 3) := by decide +kernel
theorem dX6_pieceOf_21 : decode cX6_pieceOf 21 = .ok (.iconst 0, 1) := by decide +kernel
theorem dX6_pieceOf_22 : decode cX6_pieceOf 22 = .ok (.istore 4, 2) := by decide +kernel
theorem dX6_pieceOf_24 : decode cX6_pieceOf 24 = .ok (.iload 4, 2) := by decide +kernel
theorem dX6_pieceOf_26 : decode cX6_pieceOf 26 = .ok (.aload_n 0, 1) := by decide +kernel
theorem dX6_pieceOf_27 : decode cX6_pieceOf 27 = .ok (.getfield 98, 3) := by decide +kernel
theorem dX6_pieceOf_30 : decode cX6_pieceOf 30 = .ok (.if_icmp .ge 41, 3) := by decide +kernel
theorem dX6_pieceOf_33 : decode cX6_pieceOf 33 = .ok (.iload 4, 2) := by decide +kernel
theorem dX6_pieceOf_35 : decode cX6_pieceOf 35 = .ok (.iload_n 3, 1) := by decide +kernel
theorem dX6_pieceOf_36 : decode cX6_pieceOf 36 = .ok (.if_icmp .ne 7, 3) := by decide +kernel
theorem dX6_pieceOf_39 : decode cX6_pieceOf 39 = .ok (.iconst 0, 1) := by decide +kernel
theorem dX6_pieceOf_40 : decode cX6_pieceOf 40 = .ok (.goto 10, 3) := by decide +kernel
theorem dX6_pieceOf_43 : decode cX6_pieceOf 43 = .ok (.aload_n 0, 1) := by decide +kernel
theorem dX6_pieceOf_44 : decode cX6_pieceOf 44 = .ok (.iload_n 3, 1) := by decide +kernel
theorem dX6_pieceOf_45 : decode cX6_pieceOf 45 = .ok (.iload 4, 2) := by decide +kernel
theorem dX6_pieceOf_47 : decode cX6_pieceOf 47 = .ok (.invokevirtual 120, 3) := by decide +kernel
theorem dX6_pieceOf_50 : decode cX6_pieceOf 50 = .ok (.istore 5, 2) := by decide +kernel
theorem dX6_pieceOf_52 : decode cX6_pieceOf 52 = .ok (.iload 5, 2) := by decide +kernel
theorem dX6_pieceOf_54 : decode cX6_pieceOf 54 = .ok (.iload_n 2, 1) := by decide +kernel
theorem dX6_pieceOf_55 : decode cX6_pieceOf 55 = .ok (.if_icmp .le 8, 3) := by decide +kernel
theorem dX6_pieceOf_58 : decode cX6_pieceOf 58 = .ok (.iload 5, 2) := by decide +kernel
theorem dX6_pieceOf_60 : decode cX6_pieceOf 60 = .ok (.goto 4, 3) := by decide +kernel
theorem dX6_pieceOf_63 : decode cX6_pieceOf 63 = .ok (.iload_n 2, 1) := by decide +kernel
theorem dX6_pieceOf_64 : decode cX6_pieceOf 64 = .ok (.istore_n 2, 1) := by decide +kernel
theorem dX6_pieceOf_65 : decode cX6_pieceOf 65 = .ok (.iinc 4 1, 3) := by decide +kernel
theorem dX6_pieceOf_68 : decode cX6_pieceOf 68 = .ok (.goto (-44), 3) := by decide +kernel
theorem dX6_pieceOf_71 : decode cX6_pieceOf 71 = .ok (.iinc 3 1, 3) := by decide +kernel
theorem dX6_pieceOf_74 : decode cX6_pieceOf 74 = .ok (.goto (-70), 3) := by decide +kernel
theorem dX6_pieceOf_77 : decode cX6_pieceOf 77 = .ok (.iload_n 2, 1) := by decide +kernel
theorem dX6_pieceOf_78 : decode cX6_pieceOf 78 = .ok (.ireturn, 1) := by decide +kernel
theorem dX6_isGood_0 : decode cX6_isGood 0 = .ok (.iconst 1, 1) := by decide +kernel
theorem dX6_isGood_1 : decode cX6_isGood 1 = .ok (.istore_n 2, 1) := by decide +kernel
theorem dX6_isGood_2 : decode cX6_isGood 2 = .ok (.iconst 0, 1) := by decide +kernel
theorem dX6_isGood_3 : decode cX6_isGood 3 = .ok (.istore_n 3, 1) := by decide +kernel
theorem dX6_isGood_4 : decode cX6_isGood 4 = .ok (.iload_n 3, 1) := by decide +kernel
theorem dX6_isGood_5 : decode cX6_isGood 5 = .ok (.aload_n 0, 1) := by decide +kernel
theorem dX6_isGood_6 : decode cX6_isGood 6 = .ok (.getfield 109, 3) := by decide +kernel
theorem dX6_isGood_9 : decode cX6_isGood 9 = .ok (.if_icmp .ge 35, 3) := by decide +kernel
theorem dX6_isGood_12 : decode cX6_isGood 12 = .ok (.iload_n 2, 1) := by decide +kernel
theorem dX6_isGood_13 : decode cX6_isGood 13 = .ok (.ifCond .eq 23, 3) := by decide +kernel
theorem dX6_isGood_16 : decode cX6_isGood 16 = .ok (.iload_n 1, 1) := by decide +kernel
theorem dX6_isGood_17 : decode cX6_isGood 17 = .ok (.aload_n 0, 1) := by decide +kernel
theorem dX6_isGood_18 : decode cX6_isGood 18 = .ok (.iload_n 3, 1) := by decide +kernel
theorem dX6_isGood_19 : decode cX6_isGood 19 = .ok (.invokevirtual 124, 3) := by decide +kernel
theorem dX6_isGood_22 : decode cX6_isGood 22 = .ok (.imul, 1) := by decide +kernel
theorem dX6_isGood_23 : decode cX6_isGood 23 = .ok (.aload_n 0, 1) := by decide +kernel
theorem dX6_isGood_24 : decode cX6_isGood 24 = .ok (.getfield 13, 3) := by decide +kernel
theorem dX6_isGood_27 : decode cX6_isGood 27 = .ok (.iload_n 3, 1) := by decide +kernel
theorem dX6_isGood_28 : decode cX6_isGood 28 = .ok (.iaload, 1) := by decide +kernel
theorem dX6_isGood_29 : decode cX6_isGood 29 = .ok (.if_icmp .ge 7, 3) := by decide +kernel
theorem dX6_isGood_32 : decode cX6_isGood 32 = .ok (.iconst 1, 1) := by decide +kernel
theorem dX6_isGood_33 : decode cX6_isGood 33 = .ok (.goto 4, 3) := by decide +kernel
theorem dX6_isGood_36 : decode cX6_isGood 36 = .ok (.iconst 0, 1) := by decide +kernel
theorem dX6_isGood_37 : decode cX6_isGood 37 = .ok (.istore_n 2, 1) := by decide +kernel
theorem dX6_isGood_38 : decode cX6_isGood 38 = .ok (.iinc 3 1, 3) := by decide +kernel
theorem dX6_isGood_41 : decode cX6_isGood 41 = .ok (.goto (-37), 3) := by decide +kernel
theorem dX6_isGood_44 : decode cX6_isGood 44 = .ok (.iload_n 2, 1) := by decide +kernel
theorem dX6_isGood_45 : decode cX6_isGood 45 = .ok (.ireturn, 1) := by decide +kernel
theorem dX6_relator_0 : decode cX6_relator 0 = .ok (.aload_n 0, 1) := by decide +kernel
theorem dX6_relator_1 : decode cX6_relator 1 = .ok (.iload_n 1, 1) := by decide +kernel
theorem dX6_relator_2 : decode cX6_relator 2 = .ok (.invokevirtual 127, 3) := by decide +kernel
theorem dX6_relator_5 : decode cX6_relator 5 = .ok (.ifCond .eq 15, 3) := by decide +kernel
theorem dX6_relator_8 : decode cX6_relator 8 = .ok (.iload_n 2, 1) := by decide +kernel
theorem dX6_relator_9 : decode cX6_relator 9 = .ok (.i2l, 1) := by decide +kernel
theorem dX6_relator_10 : decode cX6_relator 10 = .ok (.lconst 0, 1) := by decide +kernel
theorem dX6_relator_11 : decode cX6_relator 11 = .ok (.ldc2_w 131, 3) := by decide +kernel
theorem dX6_relator_14 : decode cX6_relator 14 = .ok (.invokestatic 66, 3) := by decide +kernel
theorem dX6_relator_17 : decode cX6_relator 17 = .ok (.ifCond .ne 8, 3) := by decide +kernel
theorem dX6_relator_20 : decode cX6_relator 20 = .ok (.aload_n 0, 1) := by decide +kernel
theorem dX6_relator_21 : decode cX6_relator 21 = .ok (.invokevirtual 133, 3) := by decide +kernel
theorem dX6_relator_24 : decode cX6_relator 24 = .ok (.ireturn, 1) := by decide +kernel
theorem dX6_relator_25 : decode cX6_relator 25 = .ok (.iconst 0, 1) := by decide +kernel
theorem dX6_relator_26 : decode cX6_relator 26 = .ok (.istore_n 3, 1) := by decide +kernel
theorem dX6_relator_27 : decode cX6_relator 27 = .ok (.iconst 0, 1) := by decide +kernel
theorem dX6_relator_28 : decode cX6_relator 28 = .ok (.istore 4, 2) := by decide +kernel
theorem dX6_relator_30 : decode cX6_relator 30 = .ok (.iload 4, 2) := by decide +kernel
theorem dX6_relator_32 : decode cX6_relator 32 = .ok (.aload_n 0, 1) := by decide +kernel
theorem dX6_relator_33 : decode cX6_relator 33 = .ok (.getfield 98, 3) := by decide +kernel
theorem dX6_relator_36 : decode cX6_relator 36 = .ok (.if_icmp .ge 28, 3) := by decide +kernel
theorem dX6_relator_39 : decode cX6_relator 39 = .ok (.iload_n 3, 1) := by decide +kernel
theorem dX6_relator_40 : decode cX6_relator 40 = .ok (.aload_n 0, 1) := by decide +kernel
theorem dX6_relator_41 : decode cX6_relator 41 = .ok (.getfield 22, 3) := by decide +kernel
theorem dX6_relator_44 : decode cX6_relator 44 = .ok (.iload 4, 2) := by decide +kernel
theorem dX6_relator_46 : decode cX6_relator 46 = .ok (.iaload, 1) := by decide +kernel
theorem dX6_relator_47 : decode cX6_relator 47 = .ok (.iload_n 1, 1) := by decide +kernel
theorem dX6_relator_48 : decode cX6_relator 48 = .ok (.if_icmp .ne 7, 3) := by decide +kernel
theorem dX6_relator_51 : decode cX6_relator 51 = .ok (.iconst 1, 1) := by decide +kernel
theorem dX6_relator_52 : decode cX6_relator 52 = .ok (.goto 4, 3) := by decide +kernel
theorem dX6_relator_55 : decode cX6_relator 55 = .ok (.iconst 0, 1) := by decide +kernel
theorem dX6_relator_56 : decode cX6_relator 56 = .ok (.iadd, 1) := by decide +kernel
theorem dX6_relator_57 : decode cX6_relator 57 = .ok (.istore_n 3, 1) := by decide +kernel
theorem dX6_relator_58 : decode cX6_relator 58 = .ok (.iinc 4 1, 3) := by decide +kernel
theorem dX6_relator_61 : decode cX6_relator 61 = .ok (.goto (-31), 3) := by decide +kernel
theorem dX6_relator_64 : decode cX6_relator 64 = .ok (.iload_n 2, 1) := by decide +kernel
theorem dX6_relator_65 : decode cX6_relator 65 = .ok (.ifCond .ne 12, 3) := by decide +kernel
theorem dX6_relator_68 : decode cX6_relator 68 = .ok (.aload_n 0, 1) := by decide +kernel
theorem dX6_relator_69 : decode cX6_relator 69 = .ok (.getfield 13, 3) := by decide +kernel
theorem dX6_relator_72 : decode cX6_relator 72 = .ok (.iload_n 1, 1) := by decide +kernel
theorem dX6_relator_73 : decode cX6_relator 73 = .ok (.iaload, 1) := by decide +kernel
theorem dX6_relator_74 : decode cX6_relator 74 = .ok (.goto 17, 3) := by decide +kernel
theorem dX6_relator_77 : decode cX6_relator 77 = .ok (.iload_n 2, 1) := by decide +kernel
theorem dX6_relator_78 : decode cX6_relator 78 = .ok (.iconst 1, 1) := by decide +kernel
theorem dX6_relator_79 : decode cX6_relator 79 = .ok (.if_icmp .ne 11, 3) := by decide +kernel
theorem dX6_relator_82 : decode cX6_relator 82 = .ok (.aload_n 0, 1) := by decide +kernel
theorem dX6_relator_83 : decode cX6_relator 83 = .ok (.iload_n 1, 1) := by decide +kernel
theorem dX6_relator_84 : decode cX6_relator 84 = .ok (.invokevirtual 124, 3) := by decide +kernel
theorem dX6_relator_87 : decode cX6_relator 87 = .ok (.goto 4, 3) := by decide +kernel
theorem dX6_relator_90 : decode cX6_relator 90 = .ok (.iload_n 3, 1) := by decide +kernel
theorem dX6_relator_91 : decode cX6_relator 91 = .ok (.ireturn, 1) := by decide +kernel
theorem dX6_member_0 : decode cX6_member 0 = .ok (.aload_n 0, 1) := by decide +kernel
theorem dX6_member_1 : decode cX6_member 1 = .ok (.iload_n 1, 1) := by decide +kernel
theorem dX6_member_2 : decode cX6_member 2 = .ok (.invokevirtual 136, 3) := by decide +kernel
theorem dX6_member_5 : decode cX6_member 5 = .ok (.ifCond .eq 8, 3) := by decide +kernel
theorem dX6_member_8 : decode cX6_member 8 = .ok (.iload_n 2, 1) := by decide +kernel
theorem dX6_member_9 : decode cX6_member 9 = .ok (.iconst (-1), 1) := by decide +kernel
theorem dX6_member_10 : decode cX6_member 10 = .ok (.if_icmp .ge 8, 3) := by decide +kernel
theorem dX6_member_13 : decode cX6_member 13 = .ok (.aload_n 0, 1) := by decide +kernel
theorem dX6_member_14 : decode cX6_member 14 = .ok (.invokevirtual 133, 3) := by decide +kernel
theorem dX6_member_17 : decode cX6_member 17 = .ok (.ireturn, 1) := by decide +kernel
theorem dX6_member_18 : decode cX6_member 18 = .ok (.iload_n 2, 1) := by decide +kernel
theorem dX6_member_19 : decode cX6_member 19 = .ok (.iconst (-1), 1) := by decide +kernel
theorem dX6_member_20 : decode cX6_member 20 = .ok (.if_icmp .ne 12, 3) := by decide +kernel
theorem dX6_member_23 : decode cX6_member 23 = .ok (.aload_n 0, 1) := by decide +kernel
theorem dX6_member_24 : decode cX6_member 24 = .ok (.getfield 19, 3) := by decide +kernel
theorem dX6_member_27 : decode cX6_member 27 = .ok (.iload_n 1, 1) := by decide +kernel
theorem dX6_member_28 : decode cX6_member 28 = .ok (.iaload, 1) := by decide +kernel
theorem dX6_member_29 : decode cX6_member 29 = .ok (.goto 28, 3) := by decide +kernel
theorem dX6_member_32 : decode cX6_member 32 = .ok (.iload_n 2, 1) := by decide +kernel
theorem dX6_member_33 : decode cX6_member 33 = .ok (.aload_n 0, 1) := by decide +kernel
theorem dX6_member_34 : decode cX6_member 34 = .ok (.getfield 19, 3) := by decide +kernel
theorem dX6_member_37 : decode cX6_member 37 = .ok (.iload_n 1, 1) := by decide +kernel
theorem dX6_member_38 : decode cX6_member 38 = .ok (.iaload, 1) := by decide +kernel
theorem dX6_member_39 : decode cX6_member 39 = .ok (.if_icmp .ge 17, 3) := by decide +kernel
theorem dX6_member_42 : decode cX6_member 42 = .ok (.aload_n 0, 1) := by decide +kernel
theorem dX6_member_43 : decode cX6_member 43 = .ok (.getfield 16, 3) := by decide +kernel
theorem dX6_member_46 : decode cX6_member 46 = .ok (.bipush 14, 2) := by decide +kernel
theorem dX6_member_48 : decode cX6_member 48 = .ok (.iload_n 1, 1) := by decide +kernel
theorem dX6_member_49 : decode cX6_member 49 = .ok (.imul, 1) := by decide +kernel
theorem dX6_member_50 : decode cX6_member 50 = .ok (.iload_n 2, 1) := by decide +kernel
theorem dX6_member_51 : decode cX6_member 51 = .ok (.iadd, 1) := by decide +kernel
theorem dX6_member_52 : decode cX6_member 52 = .ok (.iaload, 1) := by decide +kernel
theorem dX6_member_53 : decode cX6_member 53 = .ok (.goto 4, 3) := by decide +kernel
theorem dX6_member_56 : decode cX6_member 56 = .ok (.iconst (-1), 1) := by decide +kernel
theorem dX6_member_57 : decode cX6_member 57 = .ok (.ireturn, 1) := by decide +kernel
theorem dX6_good_0 : decode cX6_good 0 = .ok (.iload_n 1, 1) := by decide +kernel
theorem dX6_good_1 : decode cX6_good 1 = .ok (.i2l, 1) := by decide +kernel
theorem dX6_good_2 : decode cX6_good 2 = .ok (.lconst 1, 1) := by decide +kernel
theorem dX6_good_3 : decode cX6_good 3 = .ok (.ldc2_w 139, 3) := by decide +kernel
theorem dX6_good_6 : decode cX6_good 6 = .ok (.invokestatic 66, 3) := by decide +kernel
theorem dX6_good_9 : decode cX6_good 9 = .ok (.ifCond .ne 8, 3) := by decide +kernel
theorem dX6_good_12 : decode cX6_good 12 = .ok (.aload_n 0, 1) := by decide +kernel
theorem dX6_good_13 : decode cX6_good 13 = .ok (.invokevirtual 133, 3) := by decide +kernel
theorem dX6_good_16 : decode cX6_good 16 = .ok (.ireturn, 1) := by decide +kernel
theorem dX6_good_17 : decode cX6_good 17 = .ok (.aload_n 0, 1) := by decide +kernel
theorem dX6_good_18 : decode cX6_good 18 = .ok (.iload_n 1, 1) := by decide +kernel
theorem dX6_good_19 : decode cX6_good 19 = .ok (.invokevirtual 141, 3) := by decide +kernel
theorem dX6_good_22 : decode cX6_good 22 = .ok (.ifCond .eq 7, 3) := by decide +kernel
theorem dX6_good_25 : decode cX6_good 25 = .ok (.iconst 1, 1) := by decide +kernel
theorem dX6_good_26 : decode cX6_good 26 = .ok (.goto 4, 3) := by decide +kernel
theorem dX6_good_29 : decode cX6_good 29 = .ok (.iconst 0, 1) := by decide +kernel
theorem dX6_good_30 : decode cX6_good 30 = .ok (.ireturn, 1) := by decide +kernel
theorem dX6_alike_0 : decode cX6_alike 0 = .ok (.aload_n 0, 1) := by decide +kernel
theorem dX6_alike_1 : decode cX6_alike 1 = .ok (.iload_n 1, 1) := by decide +kernel
theorem dX6_alike_2 : decode cX6_alike 2 = .ok (.invokevirtual 136, 3) := by decide +kernel
theorem dX6_alike_5 : decode cX6_alike 5 = .ok (.ifCond .eq 20, 3) := by decide +kernel
theorem dX6_alike_8 : decode cX6_alike 8 = .ok (.aload_n 0, 1) := by decide +kernel
theorem dX6_alike_9 : decode cX6_alike 9 = .ok (.iload_n 2, 1) := by decide +kernel
theorem dX6_alike_10 : decode cX6_alike 10 = .ok (.invokevirtual 136, 3) := by decide +kernel
theorem dX6_alike_13 : decode cX6_alike 13 = .ok (.ifCond .eq 12, 3) := by decide +kernel
theorem dX6_alike_16 : decode cX6_alike 16 = .ok (.aload_n 0, 1) := by decide +kernel
theorem dX6_alike_17 : decode cX6_alike 17 = .ok (.iload_n 1, 1) := by decide +kernel
theorem dX6_alike_18 : decode cX6_alike 18 = .ok (.iload_n 2, 1) := by decide +kernel
theorem dX6_alike_19 : decode cX6_alike 19 = .ok (.invokevirtual 120, 3) := by decide +kernel
theorem dX6_alike_22 : decode cX6_alike 22 = .ok (.goto 7, 3) := by decide +kernel
theorem dX6_alike_25 : decode cX6_alike 25 = .ok (.aload_n 0, 1) := by decide +kernel
theorem dX6_alike_26 : decode cX6_alike 26 = .ok (.invokevirtual 133, 3) := by decide +kernel
theorem dX6_alike_29 : decode cX6_alike 29 = .ok (.ireturn, 1) := by decide +kernel
theorem dX6_layMatrix_0 : decode cX6_layMatrix 0 = .ok (.iconst 0, 1) := by decide +kernel
theorem dX6_layMatrix_1 : decode cX6_layMatrix 1 = .ok (.istore_n 2, 1) := by decide +kernel
theorem dX6_layMatrix_2 : decode cX6_layMatrix 2 = .ok (.iload_n 2, 1) := by decide +kernel
theorem dX6_layMatrix_3 : decode cX6_layMatrix 3 = .ok (.bipush 12, 2) := by decide +kernel
theorem dX6_layMatrix_5 : decode cX6_layMatrix 5 = .ok (.if_icmp .ge 16, 3) := by decide +kernel
theorem dX6_layMatrix_8 : decode cX6_layMatrix 8 = .ok (.aload_n 0, 1) := by decide +kernel
theorem dX6_layMatrix_9 : decode cX6_layMatrix 9 = .ok (.getfield 37, 3) := by decide +kernel
theorem dX6_layMatrix_12 : decode cX6_layMatrix 12 = .ok (.iload_n 2, 1) := by decide +kernel
theorem dX6_layMatrix_13 : decode cX6_layMatrix 13 = .ok (.iconst 0, 1) := by decide +kernel
theorem dX6_layMatrix_14 : decode cX6_layMatrix 14 = .ok (.iastore, 1) := by decide +kernel
theorem dX6_layMatrix_15 : decode cX6_layMatrix 15 = .ok (.iinc 2 1, 3) := by decide +kernel
theorem dX6_layMatrix_18 : decode cX6_layMatrix 18 = .ok (.goto (-16), 3) := by decide +kernel
theorem dX6_layMatrix_21 : decode cX6_layMatrix 21 = .ok (.iconst 0, 1) := by decide +kernel
theorem dX6_layMatrix_22 : decode cX6_layMatrix 22 = .ok (.istore_n 2, 1) := by decide +kernel
theorem dX6_layMatrix_23 : decode cX6_layMatrix 23 = .ok (.iload_n 2, 1) := by decide +kernel
theorem dX6_layMatrix_24 : decode cX6_layMatrix 24 = .ok (.aload_n 0, 1) := by decide +kernel
theorem dX6_layMatrix_25 : decode cX6_layMatrix 25 = .ok (.getfield 109, 3) := by decide +kernel
theorem dX6_layMatrix_28 : decode cX6_layMatrix 28 = .ok (.if_icmp .ge 69, 3) := by decide +kernel
theorem dX6_layMatrix_31 : decode cX6_layMatrix 31 = .ok (.iconst 0, 1) := by decide +kernel
theorem dX6_layMatrix_32 : decode cX6_layMatrix 32 = .ok (.istore_n 3, 1) := by decide +kernel
theorem dX6_layMatrix_33 : decode cX6_layMatrix 33 = .ok (.iload_n 3, 1) := by decide +kernel
theorem dX6_layMatrix_34 : decode cX6_layMatrix 34 = .ok (.aload_n 0, 1) := by decide +kernel
theorem dX6_layMatrix_35 : decode cX6_layMatrix 35 = .ok (.getfield 13, 3) := by decide +kernel
theorem dX6_layMatrix_38 : decode cX6_layMatrix 38 = .ok (.iload_n 2, 1) := by decide +kernel
theorem dX6_layMatrix_39 : decode cX6_layMatrix 39 = .ok (.iaload, 1) := by decide +kernel
theorem dX6_layMatrix_40 : decode cX6_layMatrix 40 = .ok (.if_icmp .ge 51, 3) := by decide +kernel
theorem dX6_layMatrix_43 : decode cX6_layMatrix 43 = .ok (.aload_n 0, 1) := by decide +kernel
theorem dX6_layMatrix_44 : decode cX6_layMatrix 44 = .ok (.getfield 7, 3) := by decide +kernel
theorem dX6_layMatrix_47 : decode cX6_layMatrix 47 = .ok (.bipush 14, 2) := by decide +kernel
theorem dX6_layMatrix_49 : decode cX6_layMatrix 49 = .ok (.iload_n 2, 1) := by decide +kernel
theorem dX6_layMatrix_50 : decode cX6_layMatrix 50 = .ok (.imul, 1) := by decide +kernel
theorem dX6_layMatrix_51 : decode cX6_layMatrix 51 = .ok (.iload_n 3, 1) := by decide +kernel
theorem dX6_layMatrix_52 : decode cX6_layMatrix 52 = .ok (.iadd, 1) := by decide +kernel
theorem dX6_layMatrix_53 : decode cX6_layMatrix 53 = .ok (.iaload, 1) := by decide +kernel
theorem dX6_layMatrix_54 : decode cX6_layMatrix 54 = .ok (.istore 4, 2) := by decide +kernel
theorem dX6_layMatrix_56 : decode cX6_layMatrix 56 = .ok (.aload_n 0, 1) := by decide +kernel
theorem dX6_layMatrix_57 : decode cX6_layMatrix 57 = .ok (.getfield 37, 3) := by decide +kernel
theorem dX6_layMatrix_60 : decode cX6_layMatrix 60 = .ok (.iconst 4, 1) := by decide +kernel
theorem dX6_layMatrix_61 : decode cX6_layMatrix 61 = .ok (.iload_n 2, 1) := by decide +kernel
theorem dX6_layMatrix_62 : decode cX6_layMatrix 62 = .ok (.imul, 1) := by decide +kernel
theorem dX6_layMatrix_63 : decode cX6_layMatrix 63 = .ok (.iload 4, 2) := by decide +kernel
theorem dX6_layMatrix_65 : decode cX6_layMatrix 65 = .ok (.iconst 4, 1) := by decide +kernel
theorem dX6_layMatrix_66 : decode cX6_layMatrix 66 = .ok (.irem, 1) := by decide +kernel
theorem dX6_layMatrix_67 : decode cX6_layMatrix 67 = .ok (.iadd, 1) := by decide +kernel
theorem dX6_layMatrix_68 : decode cX6_layMatrix 68 = .ok (.dup2, 1) := by decide +kernel
theorem dX6_layMatrix_69 : decode cX6_layMatrix 69 = .ok (.iaload, 1) := by decide +kernel
theorem dX6_layMatrix_70 : decode cX6_layMatrix 70 = .ok (.iload 4, 2) := by decide +kernel
theorem dX6_layMatrix_72 : decode cX6_layMatrix 72 = .ok (.iconst 4, 1) := by decide +kernel
theorem dX6_layMatrix_73 : decode cX6_layMatrix 73 = .ok (.if_icmp .ge 7, 3) := by decide +kernel
theorem dX6_layMatrix_76 : decode cX6_layMatrix 76 = .ok (.iconst 1, 1) := by decide +kernel
theorem dX6_layMatrix_77 : decode cX6_layMatrix 77 = .ok (.goto 6, 3) := by decide +kernel
theorem dX6_layMatrix_80 : decode cX6_layMatrix 80 = .ok (.iload_n 1, 1) := by decide +kernel
theorem dX6_layMatrix_81 : decode cX6_layMatrix 81 = .ok (.iconst 1, 1) := by decide +kernel
theorem dX6_layMatrix_82 : decode cX6_layMatrix 82 = .ok (.isub, 1) := by decide +kernel
theorem dX6_layMatrix_83 : decode cX6_layMatrix 83 = .ok (.iadd, 1) := by decide +kernel
theorem dX6_layMatrix_84 : decode cX6_layMatrix 84 = .ok (.iastore, 1) := by decide +kernel
theorem dX6_layMatrix_85 : decode cX6_layMatrix 85 = .ok (.iinc 3 1, 3) := by decide +kernel
theorem dX6_layMatrix_88 : decode cX6_layMatrix 88 = .ok (.goto (-55), 3) := by decide +kernel
theorem dX6_layMatrix_91 : decode cX6_layMatrix 91 = .ok (.iinc 2 1, 3) := by decide +kernel
theorem dX6_layMatrix_94 : decode cX6_layMatrix 94 = .ok (.goto (-71), 3) := by decide +kernel
theorem dX6_layMatrix_97 : decode cX6_layMatrix 97 = .ok (.iconst 0, 1) := by decide +kernel
theorem dX6_layMatrix_98 : decode cX6_layMatrix 98 = .ok (.istore_n 2, 1) := by decide +kernel
theorem dX6_layMatrix_99 : decode cX6_layMatrix 99 = .ok (.iload_n 2, 1) := by decide +kernel
theorem dX6_layMatrix_100 : decode cX6_layMatrix 100 = .ok (.bipush 12, 2) := by decide +kernel
theorem dX6_layMatrix_102 : decode cX6_layMatrix 102 = .ok (.if_icmp .ge 19, 3) := by decide +kernel
theorem dX6_layMatrix_105 : decode cX6_layMatrix 105 = .ok (.aload_n 0, 1) := by decide +kernel
theorem dX6_layMatrix_106 : decode cX6_layMatrix 106 = .ok (.getfield 37, 3) := by decide +kernel
theorem dX6_layMatrix_109 : decode cX6_layMatrix 109 = .ok (.iload_n 2, 1) := by decide +kernel
theorem dX6_layMatrix_110 : decode cX6_layMatrix 110 = .ok (.dup2, 1) := by decide +kernel
theorem dX6_layMatrix_111 : decode cX6_layMatrix 111 = .ok (.iaload, 1) := by decide +kernel
theorem dX6_layMatrix_112 : decode cX6_layMatrix 112 = .ok (.iload_n 1, 1) := by decide +kernel
theorem dX6_layMatrix_113 : decode cX6_layMatrix 113 = .ok (.irem, 1) := by decide +kernel
theorem dX6_layMatrix_114 : decode cX6_layMatrix 114 = .ok (.iastore, 1) := by decide +kernel
theorem dX6_layMatrix_115 : decode cX6_layMatrix 115 = .ok (.iinc 2 1, 3) := by decide +kernel
theorem dX6_layMatrix_118 : decode cX6_layMatrix 118 = .ok (.goto (-19), 3) := by decide +kernel
theorem dX6_layMatrix_121 : decode cX6_layMatrix 121 = .ok (.return_, 1) := by decide +kernel
theorem dX6_swapRows_0 : decode cX6_swapRows 0 = .ok (.iconst 0, 1) := by decide +kernel
theorem dX6_swapRows_1 : decode cX6_swapRows 1 = .ok (.istore_n 3, 1) := by decide +kernel
theorem dX6_swapRows_2 : decode cX6_swapRows 2 = .ok (.iload_n 3, 1) := by decide +kernel
theorem dX6_swapRows_3 : decode cX6_swapRows 3 = .ok (.iconst 4, 1) := by decide +kernel
theorem dX6_swapRows_4 : decode cX6_swapRows 4 = .ok (.if_icmp .ge 53, 3) := by decide +kernel
theorem dX6_swapRows_7 : decode cX6_swapRows 7 = .ok (.aload_n 0, 1) := by decide +kernel
theorem dX6_swapRows_8 : decode cX6_swapRows 8 = .ok (.getfield 37, 3) := by decide +kernel
theorem dX6_swapRows_11 : decode cX6_swapRows 11 = .ok (.iconst 4, 1) := by decide +kernel
theorem dX6_swapRows_12 : decode cX6_swapRows 12 = .ok (.iload_n 1, 1) := by decide +kernel
theorem dX6_swapRows_13 : decode cX6_swapRows 13 = .ok (.imul, 1) := by decide +kernel
theorem dX6_swapRows_14 : decode cX6_swapRows 14 = .ok (.iload_n 3, 1) := by decide +kernel
theorem dX6_swapRows_15 : decode cX6_swapRows 15 = .ok (.iadd, 1) := by decide +kernel
theorem dX6_swapRows_16 : decode cX6_swapRows 16 = .ok (.iaload, 1) := by decide +kernel
theorem dX6_swapRows_17 : decode cX6_swapRows 17 = .ok (.istore 4, 2) := by decide +kernel
theorem dX6_swapRows_19 : decode cX6_swapRows 19 = .ok (.aload_n 0, 1) := by decide +kernel
theorem dX6_swapRows_20 : decode cX6_swapRows 20 = .ok (.getfield 37, 3) := by decide +kernel
theorem dX6_swapRows_23 : decode cX6_swapRows 23 = .ok (.iconst 4, 1) := by decide +kernel
theorem dX6_swapRows_24 : decode cX6_swapRows 24 = .ok (.iload_n 1, 1) := by decide +kernel
theorem dX6_swapRows_25 : decode cX6_swapRows 25 = .ok (.imul, 1) := by decide +kernel
theorem dX6_swapRows_26 : decode cX6_swapRows 26 = .ok (.iload_n 3, 1) := by decide +kernel
theorem dX6_swapRows_27 : decode cX6_swapRows 27 = .ok (.iadd, 1) := by decide +kernel
theorem dX6_swapRows_28 : decode cX6_swapRows 28 = .ok (.aload_n 0, 1) := by decide +kernel
theorem dX6_swapRows_29 : decode cX6_swapRows 29 = .ok (.getfield 37, 3) := by decide +kernel
theorem dX6_swapRows_32 : decode cX6_swapRows 32 = .ok (.iconst 4, 1) := by decide +kernel
theorem dX6_swapRows_33 : decode cX6_swapRows 33 = .ok (.iload_n 2, 1) := by decide +kernel
theorem dX6_swapRows_34 : decode cX6_swapRows 34 = .ok (.imul, 1) := by decide +kernel
theorem dX6_swapRows_35 : decode cX6_swapRows 35 = .ok (.iload_n 3, 1) := by decide +kernel
theorem dX6_swapRows_36 : decode cX6_swapRows 36 = .ok (.iadd, 1) := by decide +kernel
theorem dX6_swapRows_37 : decode cX6_swapRows 37 = .ok (.iaload, 1) := by decide +kernel
theorem dX6_swapRows_38 : decode cX6_swapRows 38 = .ok (.iastore, 1) := by decide +kernel
theorem dX6_swapRows_39 : decode cX6_swapRows 39 = .ok (.aload_n 0, 1) := by decide +kernel
theorem dX6_swapRows_40 : decode cX6_swapRows 40 = .ok (.getfield 37, 3) := by decide +kernel
theorem dX6_swapRows_43 : decode cX6_swapRows 43 = .ok (.iconst 4, 1) := by decide +kernel
theorem dX6_swapRows_44 : decode cX6_swapRows 44 = .ok (.iload_n 2, 1) := by decide +kernel
theorem dX6_swapRows_45 : decode cX6_swapRows 45 = .ok (.imul, 1) := by decide +kernel
theorem dX6_swapRows_46 : decode cX6_swapRows 46 = .ok (.iload_n 3, 1) := by decide +kernel
theorem dX6_swapRows_47 : decode cX6_swapRows 47 = .ok (.iadd, 1) := by decide +kernel
theorem dX6_swapRows_48 : decode cX6_swapRows 48 = .ok (.iload 4, 2) := by decide +kernel
theorem dX6_swapRows_50 : decode cX6_swapRows 50 = .ok (.iastore, 1) := by decide +kernel
theorem dX6_swapRows_51 : decode cX6_swapRows 51 = .ok (.iinc 3 1, 3) := by decide +kernel
theorem dX6_swapRows_54 : decode cX6_swapRows 54 = .ok (.goto (-52), 3) := by decide +kernel
theorem dX6_swapRows_57 : decode cX6_swapRows 57 = .ok (.return_, 1) := by decide +kernel
theorem dX6_rank_0 : decode cX6_rank 0 = .ok (.iload_n 1, 1) := by decide +kernel
theorem dX6_rank_1 : decode cX6_rank 1 = .ok (.iconst 2, 1) := by decide +kernel
theorem dX6_rank_2 : decode cX6_rank 2 = .ok (.if_icmp .eq 24, 3) := by decide +kernel
theorem dX6_rank_5 : decode cX6_rank 5 = .ok (.iload_n 1, 1) := by decide +kernel
theorem dX6_rank_6 : decode cX6_rank 6 = .ok (.iconst 3, 1) := by decide +kernel
theorem dX6_rank_7 : decode cX6_rank 7 = .ok (.if_icmp .eq 19, 3) := by decide +kernel
theorem dX6_rank_10 : decode cX6_rank 10 = .ok (.iload_n 1, 1) := by decide +kernel
theorem dX6_rank_11 : decode cX6_rank 11 = .ok (.iconst 5, 1) := by decide +kernel
theorem dX6_rank_12 : decode cX6_rank 12 = .ok (.if_icmp .eq 14, 3) := by decide +kernel
theorem dX6_rank_15 : decode cX6_rank 15 = .ok (.iload_n 1, 1) := by decide +kernel
theorem dX6_rank_16 : decode cX6_rank 16 = .ok (.bipush 7, 2) := by decide +kernel
theorem dX6_rank_18 : decode cX6_rank 18 = .ok (.if_icmp .eq 8, 3) := by decide +kernel
theorem dX6_rank_21 : decode cX6_rank 21 = .ok (.aload_n 0, 1) := by decide +kernel
theorem dX6_rank_22 : decode cX6_rank 22 = .ok (.invokevirtual 133, 3) := by decide +kernel
theorem dX6_rank_25 : decode cX6_rank 25 = .ok (.ireturn, 1) := by decide +kernel
theorem dX6_rank_26 : decode cX6_rank 26 = .ok (.aload_n 0, 1) := by decide +kernel
theorem dX6_rank_27 : decode cX6_rank 27 = .ok (.iload_n 1, 1) := by decide +kernel
theorem dX6_rank_28 : decode cX6_rank 28 = .ok (.invokevirtual 144, 3) := by decide +kernel
theorem dX6_rank_31 : decode cX6_rank 31 = .ok (.iconst 0, 1) := by decide +kernel
theorem dX6_rank_32 : decode cX6_rank 32 = .ok (.istore_n 2, 1) := by decide +kernel
theorem dX6_rank_33 : decode cX6_rank 33 = .ok (.iconst 0, 1) := by decide +kernel
theorem dX6_rank_34 : decode cX6_rank 34 = .ok (.istore_n 3, 1) := by decide +kernel
theorem dX6_rank_35 : decode cX6_rank 35 = .ok (.iload_n 3, 1) := by decide +kernel
theorem dX6_rank_36 : decode cX6_rank 36 = .ok (.iconst 4, 1) := by decide +kernel
theorem dX6_rank_37 : decode cX6_rank 37 = .ok (.if_icmp .ge 170, 3) := by decide +kernel
theorem dX6_rank_40 : decode cX6_rank 40 = .ok (.iload_n 2, 1) := by decide +kernel
theorem dX6_rank_41 : decode cX6_rank 41 = .ok (.aload_n 0, 1) := by decide +kernel
theorem dX6_rank_42 : decode cX6_rank 42 = .ok (.getfield 109, 3) := by decide +kernel
theorem dX6_rank_45 : decode cX6_rank 45 = .ok (.if_icmp .ge 162, 3) := by decide +kernel
theorem dX6_rank_48 : decode cX6_rank 48 = .ok (.iload_n 2, 1) := by decide +kernel
theorem dX6_rank_49 : decode cX6_rank 49 = .ok (.istore 4, 2) := by decide +kernel
theorem dX6_rank_51 : decode cX6_rank 51 = .ok (.iload 4, 2) := by decide +kernel
theorem dX6_rank_53 : decode cX6_rank 53 = .ok (.aload_n 0, 1) := by decide +kernel
theorem dX6_rank_54 : decode cX6_rank 54 = .ok (.getfield 109, 3) := by decide +kernel
theorem dX6_rank_57 : decode cX6_rank 57 = .ok (.if_icmp .ge 23, 3) := by decide +kernel
theorem dX6_rank_60 : decode cX6_rank 60 = .ok (.aload_n 0, 1) := by decide +kernel
theorem dX6_rank_61 : decode cX6_rank 61 = .ok (.getfield 37, 3) := by decide +kernel
theorem dX6_rank_64 : decode cX6_rank 64 = .ok (.iconst 4, 1) := by decide +kernel
theorem dX6_rank_65 : decode cX6_rank 65 = .ok (.iload 4, 2) := by decide +kernel
theorem dX6_rank_67 : decode cX6_rank 67 = .ok (.imul, 1) := by decide +kernel
theorem dX6_rank_68 : decode cX6_rank 68 = .ok (.iload_n 3, 1) := by decide +kernel
theorem dX6_rank_69 : decode cX6_rank 69 = .ok (.iadd, 1) := by decide +kernel
theorem dX6_rank_70 : decode cX6_rank 70 = .ok (.iaload, 1) := by decide +kernel
theorem dX6_rank_71 : decode cX6_rank 71 = .ok (.ifCond .ne 9, 3) := by decide +kernel
theorem dX6_rank_74 : decode cX6_rank 74 = .ok (.iinc 4 1, 3) := by decide +kernel
theorem dX6_rank_77 : decode cX6_rank 77 = .ok (.goto (-26), 3) := by decide +kernel
theorem dX6_rank_80 : decode cX6_rank 80 = .ok (.iload 4, 2) := by decide +kernel
theorem dX6_rank_82 : decode cX6_rank 82 = .ok (.aload_n 0, 1) := by decide +kernel
theorem dX6_rank_83 : decode cX6_rank 83 = .ok (.getfield 109, 3) := by decide +kernel
theorem dX6_rank_86 : decode cX6_rank 86 = .ok (.if_icmp .ge 115, 3) := by decide +kernel
theorem dX6_rank_89 : decode cX6_rank 89 = .ok (.aload_n 0, 1) := by decide +kernel
theorem dX6_rank_90 : decode cX6_rank 90 = .ok (.iload_n 2, 1) := by decide +kernel
theorem dX6_rank_91 : decode cX6_rank 91 = .ok (.iload 4, 2) := by decide +kernel
theorem dX6_rank_93 : decode cX6_rank 93 = .ok (.invokevirtual 147, 3) := by decide +kernel
theorem dX6_rank_96 : decode cX6_rank 96 = .ok (.iload_n 2, 1) := by decide +kernel
theorem dX6_rank_97 : decode cX6_rank 97 = .ok (.iconst 1, 1) := by decide +kernel
theorem dX6_rank_98 : decode cX6_rank 98 = .ok (.iadd, 1) := by decide +kernel
theorem dX6_rank_99 : decode cX6_rank 99 = .ok (.istore 5, 2) := by decide +kernel
theorem dX6_rank_101 : decode cX6_rank 101 = .ok (.iload 5, 2) := by decide +kernel
theorem dX6_rank_103 : decode cX6_rank 103 = .ok (.aload_n 0, 1) := by decide +kernel
theorem dX6_rank_104 : decode cX6_rank 104 = .ok (.getfield 109, 3) := by decide +kernel
theorem dX6_rank_107 : decode cX6_rank 107 = .ok (.if_icmp .ge 91, 3) := by decide +kernel
theorem dX6_rank_110 : decode cX6_rank 110 = .ok (.aload_n 0, 1) := by decide +kernel
theorem dX6_rank_111 : decode cX6_rank 111 = .ok (.getfield 37, 3) := by decide +kernel
theorem dX6_rank_114 : decode cX6_rank 114 = .ok (.iconst 4, 1) := by decide +kernel
theorem dX6_rank_115 : decode cX6_rank 115 = .ok (.iload 5, 2) := by decide +kernel
theorem dX6_rank_117 : decode cX6_rank 117 = .ok (.imul, 1) := by decide +kernel
theorem dX6_rank_118 : decode cX6_rank 118 = .ok (.iload_n 3, 1) := by decide +kernel
theorem dX6_rank_119 : decode cX6_rank 119 = .ok (.iadd, 1) := by decide +kernel
theorem dX6_rank_120 : decode cX6_rank 120 = .ok (.iaload, 1) := by decide +kernel
theorem dX6_rank_121 : decode cX6_rank 121 = .ok (.istore 6, 2) := by decide +kernel
theorem dX6_rank_123 : decode cX6_rank 123 = .ok (.iconst 0, 1) := by decide +kernel
theorem dX6_rank_124 : decode cX6_rank 124 = .ok (.istore 7, 2) := by decide +kernel
theorem dX6_rank_126 : decode cX6_rank 126 = .ok (.iload 7, 2) := by decide +kernel
theorem dX6_rank_128 : decode cX6_rank 128 = .ok (.iconst 4, 1) := by decide +kernel
theorem dX6_rank_129 : decode cX6_rank 129 = .ok (.if_icmp .ge 63, 3) := by decide +kernel
theorem dX6_rank_132 : decode cX6_rank 132 = .ok (.aload_n 0, 1) := by decide +kernel
theorem dX6_rank_133 : decode cX6_rank 133 = .ok (.getfield 37, 3) := by decide +kernel
theorem dX6_rank_136 : decode cX6_rank 136 = .ok (.iconst 4, 1) := by decide +kernel
theorem dX6_rank_137 : decode cX6_rank 137 = .ok (.iload 5, 2) := by decide +kernel
theorem dX6_rank_139 : decode cX6_rank 139 = .ok (.imul, 1) := by decide +kernel
theorem dX6_rank_140 : decode cX6_rank 140 = .ok (.iload 7, 2) := by decide +kernel
theorem dX6_rank_142 : decode cX6_rank 142 = .ok (.iadd, 1) := by decide +kernel
theorem dX6_rank_143 : decode cX6_rank 143 = .ok (.aload_n 0, 1) := by decide +kernel
theorem dX6_rank_144 : decode cX6_rank 144 = .ok (.getfield 37, 3) := by decide +kernel
theorem dX6_rank_147 : decode cX6_rank 147 = .ok (.iconst 4, 1) := by decide +kernel
theorem dX6_rank_148 : decode cX6_rank 148 = .ok (.iload 5, 2) := by decide +kernel
theorem dX6_rank_150 : decode cX6_rank 150 = .ok (.imul, 1) := by decide +kernel
theorem dX6_rank_151 : decode cX6_rank 151 = .ok (.iload 7, 2) := by decide +kernel
theorem dX6_rank_153 : decode cX6_rank 153 = .ok (.iadd, 1) := by decide +kernel
theorem dX6_rank_154 : decode cX6_rank 154 = .ok (.iaload, 1) := by decide +kernel
theorem dX6_rank_155 : decode cX6_rank 155 = .ok (.aload_n 0, 1) := by decide +kernel
theorem dX6_rank_156 : decode cX6_rank 156 = .ok (.getfield 37, 3) := by decide +kernel
theorem dX6_rank_159 : decode cX6_rank 159 = .ok (.iconst 4, 1) := by decide +kernel
theorem dX6_rank_160 : decode cX6_rank 160 = .ok (.iload_n 2, 1) := by decide +kernel
theorem dX6_rank_161 : decode cX6_rank 161 = .ok (.imul, 1) := by decide +kernel
theorem dX6_rank_162 : decode cX6_rank 162 = .ok (.iload_n 3, 1) := by decide +kernel
theorem dX6_rank_163 : decode cX6_rank 163 = .ok (.iadd, 1) := by decide +kernel
theorem dX6_rank_164 : decode cX6_rank 164 = .ok (.iaload, 1) := by decide +kernel
theorem dX6_rank_165 : decode cX6_rank 165 = .ok (.imul, 1) := by decide +kernel
theorem dX6_rank_166 : decode cX6_rank 166 = .ok (.iload_n 1, 1) := by decide +kernel
theorem dX6_rank_167 : decode cX6_rank 167 = .ok (.iload 6, 2) := by decide +kernel
theorem dX6_rank_169 : decode cX6_rank 169 = .ok (.isub, 1) := by decide +kernel
theorem dX6_rank_170 : decode cX6_rank 170 = .ok (.aload_n 0, 1) := by decide +kernel
theorem dX6_rank_171 : decode cX6_rank 171 = .ok (.getfield 37, 3) := by decide +kernel
theorem dX6_rank_174 : decode cX6_rank 174 = .ok (.iconst 4, 1) := by decide +kernel
theorem dX6_rank_175 : decode cX6_rank 175 = .ok (.iload_n 2, 1) := by decide +kernel
theorem dX6_rank_176 : decode cX6_rank 176 = .ok (.imul, 1) := by decide +kernel
theorem dX6_rank_177 : decode cX6_rank 177 = .ok (.iload 7, 2) := by decide +kernel
theorem dX6_rank_179 : decode cX6_rank 179 = .ok (.iadd, 1) := by decide +kernel
theorem dX6_rank_180 : decode cX6_rank 180 = .ok (.iaload, 1) := by decide +kernel
theorem dX6_rank_181 : decode cX6_rank 181 = .ok (.imul, 1) := by decide +kernel
theorem dX6_rank_182 : decode cX6_rank 182 = .ok (.iadd, 1) := by decide +kernel
theorem dX6_rank_183 : decode cX6_rank 183 = .ok (.iload_n 1, 1) := by decide +kernel
theorem dX6_rank_184 : decode cX6_rank 184 = .ok (.irem, 1) := by decide +kernel
theorem dX6_rank_185 : decode cX6_rank 185 = .ok (.iastore, 1) := by decide +kernel
theorem dX6_rank_186 : decode cX6_rank 186 = .ok (.iinc 7 1, 3) := by decide +kernel
theorem dX6_rank_189 : decode cX6_rank 189 = .ok (.goto (-63), 3) := by decide +kernel
theorem dX6_rank_192 : decode cX6_rank 192 = .ok (.iinc 5 1, 3) := by decide +kernel
theorem dX6_rank_195 : decode cX6_rank 195 = .ok (.goto (-94), 3) := by decide +kernel
theorem dX6_rank_198 : decode cX6_rank 198 = .ok (.iinc 2 1, 3) := by decide +kernel
theorem dX6_rank_201 : decode cX6_rank 201 = .ok (.iinc 3 1, 3) := by decide +kernel
theorem dX6_rank_204 : decode cX6_rank 204 = .ok (.goto (-169), 3) := by decide +kernel
theorem dX6_rank_207 : decode cX6_rank 207 = .ok (.iload_n 2, 1) := by decide +kernel
theorem dX6_rank_208 : decode cX6_rank 208 = .ok (.ireturn, 1) := by decide +kernel
theorem dX6_chooser_0 : decode cX6_chooser 0 = .ok (.iload_n 1, 1) := by decide +kernel
theorem dX6_chooser_1 : decode cX6_chooser 1 = .ok (.i2l, 1) := by decide +kernel
theorem dX6_chooser_2 : decode cX6_chooser 2 = .ok (.lconst 0, 1) := by decide +kernel
theorem dX6_chooser_3 : decode cX6_chooser 3 = .ok (.ldc2_w 151, 3) := by decide +kernel
theorem dX6_chooser_6 : decode cX6_chooser 6 = .ok (.invokestatic 66, 3) := by decide +kernel
theorem dX6_chooser_9 : decode cX6_chooser 9 = .ok (.ifCond .ne 8, 3) := by decide +kernel
theorem dX6_chooser_12 : decode cX6_chooser 12 = .ok (.aload_n 0, 1) := by decide +kernel
theorem dX6_chooser_13 : decode cX6_chooser 13 = .ok (.invokevirtual 133, 3) := by decide +kernel
theorem dX6_chooser_16 : decode cX6_chooser 16 = .ok (.ireturn, 1) := by decide +kernel
theorem dX6_chooser_17 : decode cX6_chooser 17 = .ok (.aload_n 0, 1) := by decide +kernel
theorem dX6_chooser_18 : decode cX6_chooser 18 = .ok (.getfield 153, 3) := by decide +kernel
theorem dX6_chooser_21 : decode cX6_chooser 21 = .ok (.istore_n 2, 1) := by decide +kernel
theorem dX6_chooser_22 : decode cX6_chooser 22 = .ok (.aload_n 0, 1) := by decide +kernel
theorem dX6_chooser_23 : decode cX6_chooser 23 = .ok (.iload_n 1, 1) := by decide +kernel
theorem dX6_chooser_24 : decode cX6_chooser 24 = .ok (.putfield 153, 3) := by decide +kernel
theorem dX6_chooser_27 : decode cX6_chooser 27 = .ok (.iload_n 2, 1) := by decide +kernel
theorem dX6_chooser_28 : decode cX6_chooser 28 = .ok (.ireturn, 1) := by decide +kernel
theorem dX6_length_0 : decode cX6_length 0 = .ok (.iload_n 1, 1) := by decide +kernel
theorem dX6_length_1 : decode cX6_length 1 = .ok (.invokestatic 156, 3) := by decide +kernel
theorem dX6_length_4 : decode cX6_length 4 = .ok (.ifCond .eq 12, 3) := by decide +kernel
theorem dX6_length_7 : decode cX6_length 7 = .ok (.aload_n 0, 1) := by decide +kernel
theorem dX6_length_8 : decode cX6_length 8 = .ok (.getfield 28, 3) := by decide +kernel
theorem dX6_length_11 : decode cX6_length 11 = .ok (.iload_n 1, 1) := by decide +kernel
theorem dX6_length_12 : decode cX6_length 12 = .ok (.iaload, 1) := by decide +kernel
theorem dX6_length_13 : decode cX6_length 13 = .ok (.goto 7, 3) := by decide +kernel
theorem dX6_length_16 : decode cX6_length 16 = .ok (.aload_n 0, 1) := by decide +kernel
theorem dX6_length_17 : decode cX6_length 17 = .ok (.invokevirtual 133, 3) := by decide +kernel
theorem dX6_length_20 : decode cX6_length 20 = .ok (.ireturn, 1) := by decide +kernel
theorem dX6_letter_0 : decode cX6_letter 0 = .ok (.iload_n 1, 1) := by decide +kernel
theorem dX6_letter_1 : decode cX6_letter 1 = .ok (.invokestatic 156, 3) := by decide +kernel
theorem dX6_letter_4 : decode cX6_letter 4 = .ok (.ifCond .eq 7, 3) := by decide +kernel
theorem dX6_letter_7 : decode cX6_letter 7 = .ok (.iload_n 2, 1) := by decide +kernel
theorem dX6_letter_8 : decode cX6_letter 8 = .ok (.ifCond .ge 8, 3) := by decide +kernel
theorem dX6_letter_11 : decode cX6_letter 11 = .ok (.aload_n 0, 1) := by decide +kernel
theorem dX6_letter_12 : decode cX6_letter 12 = .ok (.invokevirtual 133, 3) := by decide +kernel
theorem dX6_letter_15 : decode cX6_letter 15 = .ok (.ireturn, 1) := by decide +kernel
theorem dX6_letter_16 : decode cX6_letter 16 = .ok (.iload_n 2, 1) := by decide +kernel
theorem dX6_letter_17 : decode cX6_letter 17 = .ok (.aload_n 0, 1) := by decide +kernel
theorem dX6_letter_18 : decode cX6_letter 18 = .ok (.getfield 28, 3) := by decide +kernel
theorem dX6_letter_21 : decode cX6_letter 21 = .ok (.iload_n 1, 1) := by decide +kernel
theorem dX6_letter_22 : decode cX6_letter 22 = .ok (.iaload, 1) := by decide +kernel
theorem dX6_letter_23 : decode cX6_letter 23 = .ok (.if_icmp .ge 17, 3) := by decide +kernel
theorem dX6_letter_26 : decode cX6_letter 26 = .ok (.aload_n 0, 1) := by decide +kernel
theorem dX6_letter_27 : decode cX6_letter 27 = .ok (.getfield 25, 3) := by decide +kernel
theorem dX6_letter_30 : decode cX6_letter 30 = .ok (.bipush 60, 2) := by decide +kernel
theorem dX6_letter_32 : decode cX6_letter 32 = .ok (.iload_n 1, 1) := by decide +kernel
theorem dX6_letter_33 : decode cX6_letter 33 = .ok (.imul, 1) := by decide +kernel
theorem dX6_letter_34 : decode cX6_letter 34 = .ok (.iload_n 2, 1) := by decide +kernel
theorem dX6_letter_35 : decode cX6_letter 35 = .ok (.iadd, 1) := by decide +kernel
theorem dX6_letter_36 : decode cX6_letter 36 = .ok (.iaload, 1) := by decide +kernel
theorem dX6_letter_37 : decode cX6_letter 37 = .ok (.goto 4, 3) := by decide +kernel
theorem dX6_letter_40 : decode cX6_letter 40 = .ok (.iconst (-1), 1) := by decide +kernel
theorem dX6_letter_41 : decode cX6_letter 41 = .ok (.ireturn, 1) := by decide +kernel
theorem dX6_adds_0 : decode cX6_adds 0 = .ok (.iload_n 1, 1) := by decide +kernel
theorem dX6_adds_1 : decode cX6_adds 1 = .ok (.invokestatic 156, 3) := by decide +kernel
theorem dX6_adds_4 : decode cX6_adds 4 = .ok (.ifCond .eq 10, 3) := by decide +kernel
theorem dX6_adds_7 : decode cX6_adds 7 = .ok (.iload_n 2, 1) := by decide +kernel
theorem dX6_adds_8 : decode cX6_adds 8 = .ok (.invokestatic 159, 3) := by decide +kernel
theorem dX6_adds_11 : decode cX6_adds 11 = .ok (.ifCond .ne 8, 3) := by decide +kernel
theorem dX6_adds_14 : decode cX6_adds 14 = .ok (.aload_n 0, 1) := by decide +kernel
theorem dX6_adds_15 : decode cX6_adds 15 = .ok (.invokevirtual 133, 3) := by decide +kernel
theorem dX6_adds_18 : decode cX6_adds 18 = .ok (.ireturn, 1) := by decide +kernel
theorem dX6_adds_19 : decode cX6_adds 19 = .ok (.aload_n 0, 1) := by decide +kernel
theorem dX6_adds_20 : decode cX6_adds 20 = .ok (.iload_n 1, 1) := by decide +kernel
theorem dX6_adds_21 : decode cX6_adds 21 = .ok (.invokevirtual 162, 3) := by decide +kernel
theorem dX6_adds_24 : decode cX6_adds 24 = .ok (.aload_n 0, 1) := by decide +kernel
theorem dX6_adds_25 : decode cX6_adds 25 = .ok (.iload_n 2, 1) := by decide +kernel
theorem dX6_adds_26 : decode cX6_adds 26 = .ok (.invokevirtual 80, 3) := by decide +kernel
theorem dX6_adds_29 : decode cX6_adds 29 = .ok (.aload_n 0, 1) := by decide +kernel
theorem dX6_adds_30 : decode cX6_adds 30 = .ok (.iload_n 1, 1) := by decide +kernel
theorem dX6_adds_31 : decode cX6_adds 31 = .ok (.invokevirtual 165, 3) := by decide +kernel
theorem dX6_adds_34 : decode cX6_adds 34 = .ok (.ireturn, 1) := by decide +kernel
theorem dX6_times_0 : decode cX6_times 0 = .ok (.iload_n 1, 1) := by decide +kernel
theorem dX6_times_1 : decode cX6_times 1 = .ok (.invokestatic 156, 3) := by decide +kernel
theorem dX6_times_4 : decode cX6_times 4 = .ok (.ifCond .eq 17, 3) := by decide +kernel
theorem dX6_times_7 : decode cX6_times 7 = .ok (.iload_n 2, 1) := by decide +kernel
theorem dX6_times_8 : decode cX6_times 8 = .ok (.invokestatic 156, 3) := by decide +kernel
theorem dX6_times_11 : decode cX6_times 11 = .ok (.ifCond .eq 10, 3) := by decide +kernel
theorem dX6_times_14 : decode cX6_times 14 = .ok (.iload_n 3, 1) := by decide +kernel
theorem dX6_times_15 : decode cX6_times 15 = .ok (.invokestatic 156, 3) := by decide +kernel
theorem dX6_times_18 : decode cX6_times 18 = .ok (.ifCond .ne 8, 3) := by decide +kernel
theorem dX6_times_21 : decode cX6_times 21 = .ok (.aload_n 0, 1) := by decide +kernel
theorem dX6_times_22 : decode cX6_times 22 = .ok (.invokevirtual 133, 3) := by decide +kernel
theorem dX6_times_25 : decode cX6_times 25 = .ok (.ireturn, 1) := by decide +kernel
theorem dX6_times_26 : decode cX6_times 26 = .ok (.aload_n 0, 1) := by decide +kernel
theorem dX6_times_27 : decode cX6_times 27 = .ok (.iload_n 1, 1) := by decide +kernel
theorem dX6_times_28 : decode cX6_times 28 = .ok (.invokevirtual 162, 3) := by decide +kernel
theorem dX6_times_31 : decode cX6_times 31 = .ok (.aload_n 0, 1) := by decide +kernel
theorem dX6_times_32 : decode cX6_times 32 = .ok (.iload_n 2, 1) := by decide +kernel
theorem dX6_times_33 : decode cX6_times 33 = .ok (.invokevirtual 84, 3) := by decide +kernel
theorem dX6_times_36 : decode cX6_times 36 = .ok (.aload_n 0, 1) := by decide +kernel
theorem dX6_times_37 : decode cX6_times 37 = .ok (.iload_n 3, 1) := by decide +kernel
theorem dX6_times_38 : decode cX6_times 38 = .ok (.invokevirtual 165, 3) := by decide +kernel
theorem dX6_times_41 : decode cX6_times 41 = .ok (.ireturn, 1) := by decide +kernel
theorem dX6_inverse_0 : decode cX6_inverse 0 = .ok (.iload_n 1, 1) := by decide +kernel
theorem dX6_inverse_1 : decode cX6_inverse 1 = .ok (.invokestatic 156, 3) := by decide +kernel
theorem dX6_inverse_4 : decode cX6_inverse 4 = .ok (.ifCond .eq 10, 3) := by decide +kernel
theorem dX6_inverse_7 : decode cX6_inverse 7 = .ok (.iload_n 2, 1) := by decide +kernel
theorem dX6_inverse_8 : decode cX6_inverse 8 = .ok (.invokestatic 156, 3) := by decide +kernel
theorem dX6_inverse_11 : decode cX6_inverse 11 = .ok (.ifCond .ne 8, 3) := by decide +kernel
theorem dX6_inverse_14 : decode cX6_inverse 14 = .ok (.aload_n 0, 1) := by decide +kernel
theorem dX6_inverse_15 : decode cX6_inverse 15 = .ok (.invokevirtual 133, 3) := by decide +kernel
theorem dX6_inverse_18 : decode cX6_inverse 18 = .ok (.ireturn, 1) := by decide +kernel
theorem dX6_inverse_19 : decode cX6_inverse 19 = .ok (.aload_n 0, 1) := by decide +kernel
theorem dX6_inverse_20 : decode cX6_inverse 20 = .ok (.iconst 0, 1) := by decide +kernel
theorem dX6_inverse_21 : decode cX6_inverse 21 = .ok (.putfield 72, 3) := by decide +kernel
theorem dX6_inverse_24 : decode cX6_inverse 24 = .ok (.aload_n 0, 1) := by decide +kernel
theorem dX6_inverse_25 : decode cX6_inverse 25 = .ok (.iload_n 1, 1) := by decide +kernel
theorem dX6_inverse_26 : decode cX6_inverse 26 = .ok (.invokevirtual 168, 3) := by decide +kernel
theorem dX6_inverse_29 : decode cX6_inverse 29 = .ok (.aload_n 0, 1) := by decide +kernel
theorem dX6_inverse_30 : decode cX6_inverse 30 = .ok (.iload_n 2, 1) := by decide +kernel
theorem dX6_inverse_31 : decode cX6_inverse 31 = .ok (.invokevirtual 91, 3) := by decide +kernel
theorem dX6_inverse_34 : decode cX6_inverse 34 = .ok (.ireturn, 1) := by decide +kernel
theorem dX6_power_0 : decode cX6_power 0 = .ok (.iload_n 1, 1) := by decide +kernel
theorem dX6_power_1 : decode cX6_power 1 = .ok (.invokestatic 156, 3) := by decide +kernel
theorem dX6_power_4 : decode cX6_power 4 = .ok (.ifCond .eq 24, 3) := by decide +kernel
theorem dX6_power_7 : decode cX6_power 7 = .ok (.iload_n 2, 1) := by decide +kernel
theorem dX6_power_8 : decode cX6_power 8 = .ok (.i2l, 1) := by decide +kernel
theorem dX6_power_9 : decode cX6_power 9 = .ok (.ldc2_w 171, 3) := by decide +kernel
theorem dX6_power_12 : decode cX6_power 12 = .ok (.ldc2_w 139, 3) := by decide +kernel
theorem dX6_power_15 : decode cX6_power 15 = .ok (.invokestatic 66, 3) := by decide +kernel
theorem dX6_power_18 : decode cX6_power 18 = .ok (.ifCond .eq 10, 3) := by decide +kernel
theorem dX6_power_21 : decode cX6_power 21 = .ok (.iload_n 3, 1) := by decide +kernel
theorem dX6_power_22 : decode cX6_power 22 = .ok (.invokestatic 156, 3) := by decide +kernel
theorem dX6_power_25 : decode cX6_power 25 = .ok (.ifCond .ne 8, 3) := by decide +kernel
theorem dX6_power_28 : decode cX6_power 28 = .ok (.aload_n 0, 1) := by decide +kernel
theorem dX6_power_29 : decode cX6_power 29 = .ok (.invokevirtual 133, 3) := by decide +kernel
theorem dX6_power_32 : decode cX6_power 32 = .ok (.ireturn, 1) := by decide +kernel
theorem dX6_power_33 : decode cX6_power 33 = .ok (.aload_n 0, 1) := by decide +kernel
theorem dX6_power_34 : decode cX6_power 34 = .ok (.iconst 0, 1) := by decide +kernel
theorem dX6_power_35 : decode cX6_power 35 = .ok (.putfield 72, 3) := by decide +kernel
theorem dX6_power_38 : decode cX6_power 38 = .ok (.iconst 0, 1) := by decide +kernel
theorem dX6_power_39 : decode cX6_power 39 = .ok (.istore 4, 2) := by decide +kernel
theorem dX6_power_41 : decode cX6_power 41 = .ok (.iload 4, 2) := by decide +kernel
theorem dX6_power_43 : decode cX6_power 43 = .ok (.iload_n 2, 1) := by decide +kernel
theorem dX6_power_44 : decode cX6_power 44 = .ok (.ifCond .ge 8, 3) := by decide +kernel
theorem dX6_power_47 : decode cX6_power 47 = .ok (.iload_n 2, 1) := by decide +kernel
theorem dX6_power_48 : decode cX6_power 48 = .ok (.ineg, 1) := by decide +kernel
theorem dX6_power_49 : decode cX6_power 49 = .ok (.goto 4, 3) := by decide +kernel
theorem dX6_power_52 : decode cX6_power 52 = .ok (.iload_n 2, 1) := by decide +kernel
theorem dX6_power_53 : decode cX6_power 53 = .ok (.if_icmp .ge 26, 3) := by decide +kernel
theorem dX6_power_56 : decode cX6_power 56 = .ok (.iload_n 2, 1) := by decide +kernel
theorem dX6_power_57 : decode cX6_power 57 = .ok (.ifCond .ge 11, 3) := by decide +kernel
theorem dX6_power_60 : decode cX6_power 60 = .ok (.aload_n 0, 1) := by decide +kernel
theorem dX6_power_61 : decode cX6_power 61 = .ok (.iload_n 1, 1) := by decide +kernel
theorem dX6_power_62 : decode cX6_power 62 = .ok (.invokevirtual 168, 3) := by decide +kernel
theorem dX6_power_65 : decode cX6_power 65 = .ok (.goto 8, 3) := by decide +kernel
theorem dX6_power_68 : decode cX6_power 68 = .ok (.aload_n 0, 1) := by decide +kernel
theorem dX6_power_69 : decode cX6_power 69 = .ok (.iload_n 1, 1) := by decide +kernel
theorem dX6_power_70 : decode cX6_power 70 = .ok (.invokevirtual 84, 3) := by decide +kernel
theorem dX6_power_73 : decode cX6_power 73 = .ok (.iinc 4 1, 3) := by decide +kernel
theorem dX6_power_76 : decode cX6_power 76 = .ok (.goto (-35), 3) := by decide +kernel
theorem dX6_power_79 : decode cX6_power 79 = .ok (.aload_n 0, 1) := by decide +kernel
theorem dX6_power_80 : decode cX6_power 80 = .ok (.iload_n 3, 1) := by decide +kernel
theorem dX6_power_81 : decode cX6_power 81 = .ok (.invokevirtual 165, 3) := by decide +kernel
theorem dX6_power_84 : decode cX6_power 84 = .ok (.ireturn, 1) := by decide +kernel
theorem dX6_ring_0 : decode cX6_ring 0 = .ok (.iload_n 1, 1) := by decide +kernel
theorem dX6_ring_1 : decode cX6_ring 1 = .ok (.invokestatic 156, 3) := by decide +kernel
theorem dX6_ring_4 : decode cX6_ring 4 = .ok (.ifCond .eq 10, 3) := by decide +kernel
theorem dX6_ring_7 : decode cX6_ring 7 = .ok (.iload_n 2, 1) := by decide +kernel
theorem dX6_ring_8 : decode cX6_ring 8 = .ok (.invokestatic 156, 3) := by decide +kernel
theorem dX6_ring_11 : decode cX6_ring 11 = .ok (.ifCond .ne 8, 3) := by decide +kernel
theorem dX6_ring_14 : decode cX6_ring 14 = .ok (.aload_n 0, 1) := by decide +kernel
theorem dX6_ring_15 : decode cX6_ring 15 = .ok (.invokevirtual 133, 3) := by decide +kernel
theorem dX6_ring_18 : decode cX6_ring 18 = .ok (.ireturn, 1) := by decide +kernel
theorem dX6_ring_19 : decode cX6_ring 19 = .ok (.aload_n 0, 1) := by decide +kernel
theorem dX6_ring_20 : decode cX6_ring 20 = .ok (.iload_n 1, 1) := by decide +kernel
theorem dX6_ring_21 : decode cX6_ring 21 = .ok (.invokevirtual 162, 3) := by decide +kernel
theorem dX6_ring_24 : decode cX6_ring 24 = .ok (.aload_n 0, 1) := by decide +kernel
theorem dX6_ring_25 : decode cX6_ring 25 = .ok (.invokevirtual 173, 3) := by decide +kernel
theorem dX6_ring_28 : decode cX6_ring 28 = .ok (.aload_n 0, 1) := by decide +kernel
theorem dX6_ring_29 : decode cX6_ring 29 = .ok (.iload_n 2, 1) := by decide +kernel
theorem dX6_ring_30 : decode cX6_ring 30 = .ok (.invokevirtual 91, 3) := by decide +kernel
theorem dX6_ring_33 : decode cX6_ring 33 = .ok (.ireturn, 1) := by decide +kernel
theorem dX6_turn_0 : decode cX6_turn 0 = .ok (.iload_n 1, 1) := by decide +kernel
theorem dX6_turn_1 : decode cX6_turn 1 = .ok (.invokestatic 156, 3) := by decide +kernel
theorem dX6_turn_4 : decode cX6_turn 4 = .ok (.ifCond .eq 22, 3) := by decide +kernel
theorem dX6_turn_7 : decode cX6_turn 7 = .ok (.iload_n 2, 1) := by decide +kernel
theorem dX6_turn_8 : decode cX6_turn 8 = .ok (.i2l, 1) := by decide +kernel
theorem dX6_turn_9 : decode cX6_turn 9 = .ok (.lconst 0, 1) := by decide +kernel
theorem dX6_turn_10 : decode cX6_turn 10 = .ok (.ldc2_w 176, 3) := by decide +kernel
theorem dX6_turn_13 : decode cX6_turn 13 = .ok (.invokestatic 66, 3) := by decide +kernel
theorem dX6_turn_16 : decode cX6_turn 16 = .ok (.ifCond .eq 10, 3) := by decide +kernel
theorem dX6_turn_19 : decode cX6_turn 19 = .ok (.iload_n 3, 1) := by decide +kernel
theorem dX6_turn_20 : decode cX6_turn 20 = .ok (.invokestatic 156, 3) := by decide +kernel
theorem dX6_turn_23 : decode cX6_turn 23 = .ok (.ifCond .ne 8, 3) := by decide +kernel
theorem dX6_turn_26 : decode cX6_turn 26 = .ok (.aload_n 0, 1) := by decide +kernel
theorem dX6_turn_27 : decode cX6_turn 27 = .ok (.invokevirtual 133, 3) := by decide +kernel
theorem dX6_turn_30 : decode cX6_turn 30 = .ok (.ireturn, 1) := by decide +kernel
theorem dX6_turn_31 : decode cX6_turn 31 = .ok (.aload_n 0, 1) := by decide +kernel
theorem dX6_turn_32 : decode cX6_turn 32 = .ok (.getfield 28, 3) := by decide +kernel
theorem dX6_turn_35 : decode cX6_turn 35 = .ok (.iload_n 1, 1) := by decide +kernel
theorem dX6_turn_36 : decode cX6_turn 36 = .ok (.iaload, 1) := by decide +kernel
theorem dX6_turn_37 : decode cX6_turn 37 = .ok (.iload_n 2, 1) := by decide +kernel
theorem dX6_turn_38 : decode cX6_turn 38 = .ok (.if_icmp .gt 8, 3) := by decide +kernel
theorem dX6_turn_41 : decode cX6_turn 41 = .ok (.aload_n 0, 1) := by decide +kernel
theorem dX6_turn_42 : decode cX6_turn 42 = .ok (.invokevirtual 178, 3) := by decide +kernel
theorem dX6_turn_45 : decode cX6_turn 45 = .ok (.ireturn, 1) := by decide +kernel
theorem dX6_turn_46 : decode cX6_turn 46 = .ok (.aload_n 0, 1) := by decide +kernel
theorem dX6_turn_47 : decode cX6_turn 47 = .ok (.iconst 0, 1) := by decide +kernel
theorem dX6_turn_48 : decode cX6_turn 48 = .ok (.putfield 72, 3) := by decide +kernel
theorem dX6_turn_51 : decode cX6_turn 51 = .ok (.iconst 0, 1) := by decide +kernel
theorem dX6_turn_52 : decode cX6_turn 52 = .ok (.istore 4, 2) := by decide +kernel
theorem dX6_turn_54 : decode cX6_turn 54 = .ok (.iload 4, 2) := by decide +kernel
theorem dX6_turn_56 : decode cX6_turn 56 = .ok (.aload_n 0, 1) := by decide +kernel
theorem dX6_turn_57 : decode cX6_turn 57 = .ok (.getfield 28, 3) := by decide +kernel
theorem dX6_turn_60 : decode cX6_turn 60 = .ok (.iload_n 1, 1) := by decide +kernel
theorem dX6_turn_61 : decode cX6_turn 61 = .ok (.iaload, 1) := by decide +kernel
theorem dX6_turn_62 : decode cX6_turn 62 = .ok (.if_icmp .ge 34, 3) := by decide +kernel
theorem dX6_turn_65 : decode cX6_turn 65 = .ok (.aload_n 0, 1) := by decide +kernel
theorem dX6_turn_66 : decode cX6_turn 66 = .ok (.aload_n 0, 1) := by decide +kernel
theorem dX6_turn_67 : decode cX6_turn 67 = .ok (.getfield 25, 3) := by decide +kernel
theorem dX6_turn_70 : decode cX6_turn 70 = .ok (.bipush 60, 2) := by decide +kernel
theorem dX6_turn_72 : decode cX6_turn 72 = .ok (.iload_n 1, 1) := by decide +kernel
theorem dX6_turn_73 : decode cX6_turn 73 = .ok (.imul, 1) := by decide +kernel
theorem dX6_turn_74 : decode cX6_turn 74 = .ok (.iload_n 2, 1) := by decide +kernel
theorem dX6_turn_75 : decode cX6_turn 75 = .ok (.iload 4, 2) := by decide +kernel
theorem dX6_turn_77 : decode cX6_turn 77 = .ok (.iadd, 1) := by decide +kernel
theorem dX6_turn_78 : decode cX6_turn 78 = .ok (.aload_n 0, 1) := by decide +kernel
theorem dX6_turn_79 : decode cX6_turn 79 = .ok (.getfield 28, 3) := by decide +kernel
theorem dX6_turn_82 : decode cX6_turn 82 = .ok (.iload_n 1, 1) := by decide +kernel
theorem dX6_turn_83 : decode cX6_turn 83 = .ok (.iaload, 1) := by decide +kernel
theorem dX6_turn_84 : decode cX6_turn 84 = .ok (.irem, 1) := by decide +kernel
theorem dX6_turn_85 : decode cX6_turn 85 = .ok (.iadd, 1) := by decide +kernel
theorem dX6_turn_86 : decode cX6_turn 86 = .ok (.iaload, 1) := by decide +kernel
theorem dX6_turn_87 : decode cX6_turn 87 = .ok (.invokevirtual 80, 3) := by decide +kernel
theorem dX6_turn_90 : decode cX6_turn 90 = .ok (.iinc 4 1, 3) := by decide +kernel
theorem dX6_turn_93 : decode cX6_turn 93 = .ok (.goto (-39), 3) := by decide +kernel
theorem dX6_turn_96 : decode cX6_turn 96 = .ok (.aload_n 0, 1) := by decide +kernel
theorem dX6_turn_97 : decode cX6_turn 97 = .ok (.iload_n 3, 1) := by decide +kernel
theorem dX6_turn_98 : decode cX6_turn 98 = .ok (.invokevirtual 91, 3) := by decide +kernel
theorem dX6_turn_101 : decode cX6_turn 101 = .ok (.ireturn, 1) := by decide +kernel
theorem dX6_sum_0 : decode cX6_sum 0 = .ok (.iload_n 1, 1) := by decide +kernel
theorem dX6_sum_1 : decode cX6_sum 1 = .ok (.invokestatic 156, 3) := by decide +kernel
theorem dX6_sum_4 : decode cX6_sum 4 = .ok (.ifCond .eq 15, 3) := by decide +kernel
theorem dX6_sum_7 : decode cX6_sum 7 = .ok (.iload_n 2, 1) := by decide +kernel
theorem dX6_sum_8 : decode cX6_sum 8 = .ok (.i2l, 1) := by decide +kernel
theorem dX6_sum_9 : decode cX6_sum 9 = .ok (.lconst 0, 1) := by decide +kernel
theorem dX6_sum_10 : decode cX6_sum 10 = .ok (.ldc2_w 181, 3) := by decide +kernel
theorem dX6_sum_13 : decode cX6_sum 13 = .ok (.invokestatic 66, 3) := by decide +kernel
theorem dX6_sum_16 : decode cX6_sum 16 = .ok (.ifCond .ne 8, 3) := by decide +kernel
theorem dX6_sum_19 : decode cX6_sum 19 = .ok (.aload_n 0, 1) := by decide +kernel
theorem dX6_sum_20 : decode cX6_sum 20 = .ok (.invokevirtual 133, 3) := by decide +kernel
theorem dX6_sum_23 : decode cX6_sum 23 = .ok (.ireturn, 1) := by decide +kernel
theorem dX6_sum_24 : decode cX6_sum 24 = .ok (.iconst 0, 1) := by decide +kernel
theorem dX6_sum_25 : decode cX6_sum 25 = .ok (.istore_n 3, 1) := by decide +kernel
theorem dX6_sum_26 : decode cX6_sum 26 = .ok (.iconst 0, 1) := by decide +kernel
theorem dX6_sum_27 : decode cX6_sum 27 = .ok (.istore 4, 2) := by decide +kernel
theorem dX6_sum_29 : decode cX6_sum 29 = .ok (.iload 4, 2) := by decide +kernel
theorem dX6_sum_31 : decode cX6_sum 31 = .ok (.aload_n 0, 1) := by decide +kernel
theorem dX6_sum_32 : decode cX6_sum 32 = .ok (.getfield 28, 3) := by decide +kernel
theorem dX6_sum_35 : decode cX6_sum 35 = .ok (.iload_n 1, 1) := by decide +kernel
theorem dX6_sum_36 : decode cX6_sum 36 = .ok (.iaload, 1) := by decide +kernel
theorem dX6_sum_37 : decode cX6_sum 37 = .ok (.if_icmp .ge 49, 3) := by decide +kernel
theorem dX6_sum_40 : decode cX6_sum 40 = .ok (.aload_n 0, 1) := by decide +kernel
theorem dX6_sum_41 : decode cX6_sum 41 = .ok (.getfield 25, 3) := by decide +kernel
theorem dX6_sum_44 : decode cX6_sum 44 = .ok (.bipush 60, 2) := by decide +kernel
theorem dX6_sum_46 : decode cX6_sum 46 = .ok (.iload_n 1, 1) := by decide +kernel
theorem dX6_sum_47 : decode cX6_sum 47 = .ok (.imul, 1) := by decide +kernel
theorem dX6_sum_48 : decode cX6_sum 48 = .ok (.iload 4, 2) := by decide +kernel
theorem dX6_sum_50 : decode cX6_sum 50 = .ok (.iadd, 1) := by decide +kernel
theorem dX6_sum_51 : decode cX6_sum 51 = .ok (.iaload, 1) := by decide +kernel
theorem dX6_sum_52 : decode cX6_sum 52 = .ok (.istore 5, 2) := by decide +kernel
theorem dX6_sum_54 : decode cX6_sum 54 = .ok (.iload_n 3, 1) := by decide +kernel
theorem dX6_sum_55 : decode cX6_sum 55 = .ok (.iload 5, 2) := by decide +kernel
theorem dX6_sum_57 : decode cX6_sum 57 = .ok (.iload_n 2, 1) := by decide +kernel
theorem dX6_sum_58 : decode cX6_sum 58 = .ok (.if_icmp .ne 7, 3) := by decide +kernel
theorem dX6_sum_61 : decode cX6_sum 61 = .ok (.iconst 1, 1) := by decide +kernel
theorem dX6_sum_62 : decode cX6_sum 62 = .ok (.goto 16, 3) := by decide +kernel
theorem dX6_sum_65 : decode cX6_sum 65 = .ok (.iload 5, 2) := by decide +kernel
theorem dX6_sum_67 : decode cX6_sum 67 = .ok (.iload_n 2, 1) := by decide +kernel
theorem dX6_sum_68 : decode cX6_sum 68 = .ok (.iconst 4, 1) := by decide +kernel
theorem dX6_sum_69 : decode cX6_sum 69 = .ok (.iadd, 1) := by decide +kernel
theorem dX6_sum_70 : decode cX6_sum 70 = .ok (.if_icmp .ne 7, 3) := by decide +kernel
theorem dX6_sum_73 : decode cX6_sum 73 = .ok (.iconst (-1), 1) := by decide +kernel
theorem dX6_sum_74 : decode cX6_sum 74 = .ok (.goto 4, 3) := by decide +kernel
theorem dX6_sum_77 : decode cX6_sum 77 = .ok (.iconst 0, 1) := by decide +kernel
theorem dX6_sum_78 : decode cX6_sum 78 = .ok (.iadd, 1) := by decide +kernel
theorem dX6_sum_79 : decode cX6_sum 79 = .ok (.istore_n 3, 1) := by decide +kernel
theorem dX6_sum_80 : decode cX6_sum 80 = .ok (.iinc 4 1, 3) := by decide +kernel
theorem dX6_sum_83 : decode cX6_sum 83 = .ok (.goto (-54), 3) := by decide +kernel
theorem dX6_sum_86 : decode cX6_sum 86 = .ok (.iload_n 3, 1) := by decide +kernel
theorem dX6_sum_87 : decode cX6_sum 87 = .ok (.ireturn, 1) := by decide +kernel
theorem dX6_matches_0 : decode cX6_matches 0 = .ok (.iconst 0, 1) := by decide +kernel
theorem dX6_matches_1 : decode cX6_matches 1 = .ok (.istore_n 3, 1) := by decide +kernel
theorem dX6_matches_2 : decode cX6_matches 2 = .ok (.iload_n 3, 1) := by decide +kernel
theorem dX6_matches_3 : decode cX6_matches 3 = .ok (.aload_n 0, 1) := by decide +kernel
theorem dX6_matches_4 : decode cX6_matches 4 = .ok (.getfield 19, 3) := by decide +kernel
theorem dX6_matches_7 : decode cX6_matches 7 = .ok (.iload_n 2, 1) := by decide +kernel
theorem dX6_matches_8 : decode cX6_matches 8 = .ok (.iaload, 1) := by decide +kernel
theorem dX6_matches_9 : decode cX6_matches 9 = .ok (.if_icmp .ge 41, 3) := by decide +kernel
theorem dX6_matches_12 : decode cX6_matches 12 = .ok (.iload_n 1, 1) := by decide +kernel
theorem dX6_matches_13 : decode cX6_matches 13 = .ok (.iload_n 3, 1) := by decide +kernel
theorem dX6_matches_14 : decode cX6_matches 14 = .ok (.iadd, 1) := by decide +kernel
theorem dX6_matches_15 : decode cX6_matches 15 = .ok (.aload_n 0, 1) := by decide +kernel
theorem dX6_matches_16 : decode cX6_matches 16 = .ok (.getfield 72, 3) := by decide +kernel
theorem dX6_matches_19 : decode cX6_matches 19 = .ok (.if_icmp .ge 31, 3) := by decide +kernel
theorem dX6_matches_22 : decode cX6_matches 22 = .ok (.aload_n 0, 1) := by decide +kernel
theorem dX6_matches_23 : decode cX6_matches 23 = .ok (.getfield 34, 3) := by decide +kernel
theorem dX6_matches_26 : decode cX6_matches 26 = .ok (.iload_n 1, 1) := by decide +kernel
theorem dX6_matches_27 : decode cX6_matches 27 = .ok (.iload_n 3, 1) := by decide +kernel
theorem dX6_matches_28 : decode cX6_matches 28 = .ok (.iadd, 1) := by decide +kernel
theorem dX6_matches_29 : decode cX6_matches 29 = .ok (.iaload, 1) := by decide +kernel
theorem dX6_matches_30 : decode cX6_matches 30 = .ok (.aload_n 0, 1) := by decide +kernel
theorem dX6_matches_31 : decode cX6_matches 31 = .ok (.getfield 16, 3) := by decide +kernel
theorem dX6_matches_34 : decode cX6_matches 34 = .ok (.bipush 14, 2) := by decide +kernel
theorem dX6_matches_36 : decode cX6_matches 36 = .ok (.iload_n 2, 1) := by decide +kernel
theorem dX6_matches_37 : decode cX6_matches 37 = .ok (.imul, 1) := by decide +kernel
theorem dX6_matches_38 : decode cX6_matches 38 = .ok (.iload_n 3, 1) := by decide +kernel
theorem dX6_matches_39 : decode cX6_matches 39 = .ok (.iadd, 1) := by decide +kernel
theorem dX6_matches_40 : decode cX6_matches 40 = .ok (.iaload, 1) := by decide +kernel
theorem dX6_matches_41 : decode cX6_matches 41 = .ok (.if_icmp .ne 9, 3) := by decide +kernel
theorem dX6_matches_44 : decode cX6_matches 44 = .ok (.iinc 3 1, 3) := by decide +kernel
theorem dX6_matches_47 : decode cX6_matches 47 = .ok (.goto (-45), 3) := by decide +kernel
theorem dX6_matches_50 : decode cX6_matches 50 = .ok (.iload_n 3, 1) := by decide +kernel
theorem dX6_matches_51 : decode cX6_matches 51 = .ok (.ireturn, 1) := by decide +kernel
theorem dX6_saves_0 : decode cX6_saves 0 = .ok (.iload_n 0, 1) := by decide +kernel
theorem dX6_saves_1 : decode cX6_saves 1 = .ok (.iload_n 0, 1) := by decide +kernel
theorem dX6_saves_2 : decode cX6_saves 2 = .ok (.iadd, 1) := by decide +kernel
theorem dX6_saves_3 : decode cX6_saves 3 = .ok (.iload_n 1, 1) := by decide +kernel
theorem dX6_saves_4 : decode cX6_saves 4 = .ok (.isub, 1) := by decide +kernel
theorem dX6_saves_5 : decode cX6_saves 5 = .ok (.ireturn, 1) := by decide +kernel
theorem dX6_isBetter_0 : decode cX6_isBetter 0 = .ok (.iload_n 1, 1) := by decide +kernel
theorem dX6_isBetter_1 : decode cX6_isBetter 1 = .ok (.aload_n 0, 1) := by decide +kernel
theorem dX6_isBetter_2 : decode cX6_isBetter 2 = .ok (.getfield 183, 3) := by decide +kernel
theorem dX6_isBetter_5 : decode cX6_isBetter 5 = .ok (.if_icmp .ne 15, 3) := by decide +kernel
theorem dX6_isBetter_8 : decode cX6_isBetter 8 = .ok (.iload_n 3, 1) := by decide +kernel
theorem dX6_isBetter_9 : decode cX6_isBetter 9 = .ok (.aload_n 0, 1) := by decide +kernel
theorem dX6_isBetter_10 : decode cX6_isBetter 10 = .ok (.getfield 186, 3) := by decide +kernel
theorem dX6_isBetter_13 : decode cX6_isBetter 13 = .ok (.if_icmp .le 7, 3) := by decide +kernel
theorem dX6_isBetter_16 : decode cX6_isBetter 16 = .ok (.iconst 1, 1) := by decide +kernel
theorem dX6_isBetter_17 : decode cX6_isBetter 17 = .ok (.goto 4, 3) := by decide +kernel
theorem dX6_isBetter_20 : decode cX6_isBetter 20 = .ok (.iconst 0, 1) := by decide +kernel
theorem dX6_isBetter_21 : decode cX6_isBetter 21 = .ok (.istore 4, 2) := by decide +kernel
theorem dX6_isBetter_23 : decode cX6_isBetter 23 = .ok (.iload_n 3, 1) := by decide +kernel
theorem dX6_isBetter_24 : decode cX6_isBetter 24 = .ok (.aload_n 0, 1) := by decide +kernel
theorem dX6_isBetter_25 : decode cX6_isBetter 25 = .ok (.getfield 19, 3) := by decide +kernel
theorem dX6_isBetter_28 : decode cX6_isBetter 28 = .ok (.iload_n 2, 1) := by decide +kernel
theorem dX6_isBetter_29 : decode cX6_isBetter 29 = .ok (.iaload, 1) := by decide +kernel
theorem dX6_isBetter_30 : decode cX6_isBetter 30 = .ok (.invokestatic 189, 3) := by decide +kernel
theorem dX6_isBetter_33 : decode cX6_isBetter 33 = .ok (.aload_n 0, 1) := by decide +kernel
theorem dX6_isBetter_34 : decode cX6_isBetter 34 = .ok (.getfield 186, 3) := by decide +kernel
theorem dX6_isBetter_37 : decode cX6_isBetter 37 = .ok (.aload_n 0, 1) := by decide +kernel
theorem dX6_isBetter_38 : decode cX6_isBetter 38 = .ok (.getfield 19, 3) := by decide +kernel
theorem dX6_isBetter_41 : decode cX6_isBetter 41 = .ok (.aload_n 0, 1) := by decide +kernel
theorem dX6_isBetter_42 : decode cX6_isBetter 42 = .ok (.getfield 192, 3) := by decide +kernel
theorem dX6_isBetter_45 : decode cX6_isBetter 45 = .ok (.iaload, 1) := by decide +kernel
theorem dX6_isBetter_46 : decode cX6_isBetter 46 = .ok (.invokestatic 189, 3) := by decide +kernel
theorem dX6_isBetter_49 : decode cX6_isBetter 49 = .ok (.isub, 1) := by decide +kernel
theorem dX6_isBetter_50 : decode cX6_isBetter 50 = .ok (.istore 5, 2) := by decide +kernel
theorem dX6_isBetter_52 : decode cX6_isBetter 52 = .ok (.aload_n 0, 1) := by decide +kernel
theorem dX6_isBetter_53 : decode cX6_isBetter 53 = .ok (.getfield 153, 3) := by decide +kernel
theorem dX6_isBetter_56 : decode cX6_isBetter 56 = .ok (.tableswitch 87 1 4 #[32, 51, 62, 73], 32) := by decide +kernel
theorem dX6_isBetter_88 : decode cX6_isBetter 88 = .ok (.iload_n 1, 1) := by decide +kernel
theorem dX6_isBetter_89 : decode cX6_isBetter 89 = .ok (.aload_n 0, 1) := by decide +kernel
theorem dX6_isBetter_90 : decode cX6_isBetter 90 = .ok (.getfield 183, 3) := by decide +kernel
theorem dX6_isBetter_93 : decode cX6_isBetter 93 = .ok (.if_icmp .gt 8, 3) := by decide +kernel
theorem dX6_isBetter_96 : decode cX6_isBetter 96 = .ok (.iload 4, 2) := by decide +kernel
theorem dX6_isBetter_98 : decode cX6_isBetter 98 = .ok (.ifCond .eq 7, 3) := by decide +kernel
theorem dX6_isBetter_101 : decode cX6_isBetter 101 = .ok (.iconst 1, 1) := by decide +kernel
theorem dX6_isBetter_102 : decode cX6_isBetter 102 = .ok (.goto 4, 3) := by decide +kernel
theorem dX6_isBetter_105 : decode cX6_isBetter 105 = .ok (.iconst 0, 1) := by decide +kernel
theorem dX6_isBetter_106 : decode cX6_isBetter 106 = .ok (.ireturn, 1) := by decide +kernel
theorem dX6_isBetter_107 : decode cX6_isBetter 107 = .ok (.iload 5, 2) := by decide +kernel
theorem dX6_isBetter_109 : decode cX6_isBetter 109 = .ok (.ifCond .le 7, 3) := by decide +kernel
theorem dX6_isBetter_112 : decode cX6_isBetter 112 = .ok (.iconst 1, 1) := by decide +kernel
theorem dX6_isBetter_113 : decode cX6_isBetter 113 = .ok (.goto 4, 3) := by decide +kernel
theorem dX6_isBetter_116 : decode cX6_isBetter 116 = .ok (.iconst 0, 1) := by decide +kernel
theorem dX6_isBetter_117 : decode cX6_isBetter 117 = .ok (.ireturn, 1) := by decide +kernel
theorem dX6_isBetter_118 : decode cX6_isBetter 118 = .ok (.iload 5, 2) := by decide +kernel
theorem dX6_isBetter_120 : decode cX6_isBetter 120 = .ok (.ifCond .ge 7, 3) := by decide +kernel
theorem dX6_isBetter_123 : decode cX6_isBetter 123 = .ok (.iconst 1, 1) := by decide +kernel
theorem dX6_isBetter_124 : decode cX6_isBetter 124 = .ok (.goto 4, 3) := by decide +kernel
theorem dX6_isBetter_127 : decode cX6_isBetter 127 = .ok (.iconst 0, 1) := by decide +kernel
theorem dX6_isBetter_128 : decode cX6_isBetter 128 = .ok (.ireturn, 1) := by decide +kernel
theorem dX6_isBetter_129 : decode cX6_isBetter 129 = .ok (.iload_n 3, 1) := by decide +kernel
theorem dX6_isBetter_130 : decode cX6_isBetter 130 = .ok (.aload_n 0, 1) := by decide +kernel
theorem dX6_isBetter_131 : decode cX6_isBetter 131 = .ok (.getfield 186, 3) := by decide +kernel
theorem dX6_isBetter_134 : decode cX6_isBetter 134 = .ok (.if_icmp .le 7, 3) := by decide +kernel
theorem dX6_isBetter_137 : decode cX6_isBetter 137 = .ok (.iconst 1, 1) := by decide +kernel
theorem dX6_isBetter_138 : decode cX6_isBetter 138 = .ok (.goto 4, 3) := by decide +kernel
theorem dX6_isBetter_141 : decode cX6_isBetter 141 = .ok (.iconst 0, 1) := by decide +kernel
theorem dX6_isBetter_142 : decode cX6_isBetter 142 = .ok (.ireturn, 1) := by decide +kernel
theorem dX6_isBetter_143 : decode cX6_isBetter 143 = .ok (.iload 4, 2) := by decide +kernel
theorem dX6_isBetter_145 : decode cX6_isBetter 145 = .ok (.ireturn, 1) := by decide +kernel
theorem dX6_findCut_0 : decode cX6_findCut 0 = .ok (.aload_n 0, 1) := by decide +kernel
theorem dX6_findCut_1 : decode cX6_findCut 1 = .ok (.iconst (-1), 1) := by decide +kernel
theorem dX6_findCut_2 : decode cX6_findCut 2 = .ok (.putfield 183, 3) := by decide +kernel
theorem dX6_findCut_5 : decode cX6_findCut 5 = .ok (.aload_n 0, 1) := by decide +kernel
theorem dX6_findCut_6 : decode cX6_findCut 6 = .ok (.iconst 0, 1) := by decide +kernel
theorem dX6_findCut_7 : decode cX6_findCut 7 = .ok (.putfield 195, 3) := by decide +kernel
theorem dX6_findCut_10 : decode cX6_findCut 10 = .ok (.iconst 0, 1) := by decide +kernel
theorem dX6_findCut_11 : decode cX6_findCut 11 = .ok (.istore_n 1, 1) := by decide +kernel
theorem dX6_findCut_12 : decode cX6_findCut 12 = .ok (.iload_n 1, 1) := by decide +kernel
theorem dX6_findCut_13 : decode cX6_findCut 13 = .ok (.aload_n 0, 1) := by decide +kernel
theorem dX6_findCut_14 : decode cX6_findCut 14 = .ok (.getfield 72, 3) := by decide +kernel
theorem dX6_findCut_17 : decode cX6_findCut 17 = .ok (.if_icmp .ge 87, 3) := by decide +kernel
theorem dX6_findCut_20 : decode cX6_findCut 20 = .ok (.iconst 0, 1) := by decide +kernel
theorem dX6_findCut_21 : decode cX6_findCut 21 = .ok (.istore_n 2, 1) := by decide +kernel
theorem dX6_findCut_22 : decode cX6_findCut 22 = .ok (.iload_n 2, 1) := by decide +kernel
theorem dX6_findCut_23 : decode cX6_findCut 23 = .ok (.aload_n 0, 1) := by decide +kernel
theorem dX6_findCut_24 : decode cX6_findCut 24 = .ok (.getfield 98, 3) := by decide +kernel
theorem dX6_findCut_27 : decode cX6_findCut 27 = .ok (.if_icmp .ge 71, 3) := by decide +kernel
theorem dX6_findCut_30 : decode cX6_findCut 30 = .ok (.aload_n 0, 1) := by decide +kernel
theorem dX6_findCut_31 : decode cX6_findCut 31 = .ok (.iload_n 1, 1) := by decide +kernel
theorem dX6_findCut_32 : decode cX6_findCut 32 = .ok (.iload_n 2, 1) := by decide +kernel
theorem dX6_findCut_33 : decode cX6_findCut 33 = .ok (.invokevirtual 198, 3) := by decide +kernel
theorem dX6_findCut_36 : decode cX6_findCut 36 = .ok (.istore_n 3, 1) := by decide +kernel
theorem dX6_findCut_37 : decode cX6_findCut 37 = .ok (.iload_n 3, 1) := by decide +kernel
theorem dX6_findCut_38 : decode cX6_findCut 38 = .ok (.aload_n 0, 1) := by decide +kernel
theorem dX6_findCut_39 : decode cX6_findCut 39 = .ok (.getfield 19, 3) := by decide +kernel
theorem dX6_findCut_42 : decode cX6_findCut 42 = .ok (.iload_n 2, 1) := by decide +kernel
theorem dX6_findCut_43 : decode cX6_findCut 43 = .ok (.iaload, 1) := by decide +kernel
theorem dX6_findCut_44 : decode cX6_findCut 44 = .ok (.invokestatic 189, 3) := by decide +kernel
theorem dX6_findCut_47 : decode cX6_findCut 47 = .ok (.ifCond .le 45, 3) := by decide +kernel
theorem dX6_findCut_50 : decode cX6_findCut 50 = .ok (.aload_n 0, 1) := by decide +kernel
theorem dX6_findCut_51 : decode cX6_findCut 51 = .ok (.dup, 1) := by decide +kernel
theorem dX6_findCut_52 : decode cX6_findCut 52 = .ok (.getfield 195, 3) := by decide +kernel
theorem dX6_findCut_55 : decode cX6_findCut 55 = .ok (.iconst 1, 1) := by decide +kernel
theorem dX6_findCut_56 : decode cX6_findCut 56 = .ok (.iadd, 1) := by decide +kernel
theorem dX6_findCut_57 : decode cX6_findCut 57 = .ok (.putfield 195, 3) := by decide +kernel
theorem dX6_findCut_60 : decode cX6_findCut 60 = .ok (.aload_n 0, 1) := by decide +kernel
theorem dX6_findCut_61 : decode cX6_findCut 61 = .ok (.getfield 183, 3) := by decide +kernel
theorem dX6_findCut_64 : decode cX6_findCut 64 = .ok (.ifCond .lt 13, 3) := by decide +kernel
theorem dX6_findCut_67 : decode cX6_findCut 67 = .ok (.aload_n 0, 1) := by decide +kernel
theorem dX6_findCut_68 : decode cX6_findCut 68 = .ok (.iload_n 1, 1) := by decide +kernel
theorem dX6_findCut_69 : decode cX6_findCut 69 = .ok (.iload_n 2, 1) := by decide +kernel
theorem dX6_findCut_70 : decode cX6_findCut 70 = .ok (.iload_n 3, 1) := by decide +kernel
theorem dX6_findCut_71 : decode cX6_findCut 71 = .ok (.invokevirtual 201, 3) := by decide +kernel
theorem dX6_findCut_74 : decode cX6_findCut 74 = .ok (.ifCond .eq 18, 3) := by decide +kernel
theorem dX6_findCut_77 : decode cX6_findCut 77 = .ok (.aload_n 0, 1) := by decide +kernel
theorem dX6_findCut_78 : decode cX6_findCut 78 = .ok (.iload_n 1, 1) := by decide +kernel
theorem dX6_findCut_79 : decode cX6_findCut 79 = .ok (.putfield 183, 3) := by decide +kernel
theorem dX6_findCut_82 : decode cX6_findCut 82 = .ok (.aload_n 0, 1) := by decide +kernel
theorem dX6_findCut_83 : decode cX6_findCut 83 = .ok (.iload_n 2, 1) := by decide +kernel
theorem dX6_findCut_84 : decode cX6_findCut 84 = .ok (.putfield 192, 3) := by decide +kernel
theorem dX6_findCut_87 : decode cX6_findCut 87 = .ok (.aload_n 0, 1) := by decide +kernel
theorem dX6_findCut_88 : decode cX6_findCut 88 = .ok (.iload_n 3, 1) := by decide +kernel
theorem dX6_findCut_89 : decode cX6_findCut 89 = .ok (.putfield 186, 3) := by decide +kernel
theorem dX6_findCut_92 : decode cX6_findCut 92 = .ok (.iinc 2 1, 3) := by decide +kernel
theorem dX6_findCut_95 : decode cX6_findCut 95 = .ok (.goto (-73), 3) := by decide +kernel
