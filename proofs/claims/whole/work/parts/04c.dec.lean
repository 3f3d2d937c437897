theorem dX5_init_0 : decode cX5_init 0 = .ok (.aload_n 0, 1) := by decide +kernel
theorem dX5_init_1 : decode cX5_init 1 = .ok (.invokespecial 3, 3) := by decide +kernel
theorem dX5_init_4 : decode cX5_init 4 = .ok (.aload_n 0, 1) := by decide +kernel
theorem dX5_init_5 : decode cX5_init 5 = .ok (.bipush 6, 2) := by decide +kernel
theorem dX5_init_7 : decode cX5_init 7 = .ok (.anewarray 9, 3) := by decide +kernel
theorem dX5_init_10 : decode cX5_init 10 = .ok (.putfield 11, 3) := by decide +kernel
theorem dX5_init_13 : decode cX5_init 13 = .ok (.iconst 0, 1) := by decide +kernel
theorem dX5_init_14 : decode cX5_init 14 = .ok (.istore_n 1, 1) := by decide +kernel
theorem dX5_init_15 : decode cX5_init 15 = .ok (.iload_n 1, 1) := by decide +kernel
theorem dX5_init_16 : decode cX5_init 16 = .ok (.bipush 6, 2) := by decide +kernel
theorem dX5_init_18 : decode cX5_init 18 = .ok (.if_icmp .ge 24, 3) := by decide +kernel
theorem dX5_init_21 : decode cX5_init 21 = .ok (.aload_n 0, 1) := by decide +kernel
theorem dX5_init_22 : decode cX5_init 22 = .ok (.getfield 11, 3) := by decide +kernel
theorem dX5_init_25 : decode cX5_init 25 = .ok (.iload_n 1, 1) := by decide +kernel
theorem dX5_init_26 : decode cX5_init 26 = .ok (.new 9, 3) := by decide +kernel
theorem dX5_init_29 : decode cX5_init 29 = .ok (.dup, 1) := by decide +kernel
theorem dX5_init_30 : decode cX5_init 30 = .ok (.bipush 60, 2) := by decide +kernel
theorem dX5_init_32 : decode cX5_init 32 = .ok (.invokespecial 15, 3) := by decide +kernel
theorem dX5_init_35 : decode cX5_init 35 = .ok (.aastore, 1) := by decide +kernel
theorem dX5_init_36 : decode cX5_init 36 = .ok (.iinc 1 1, 3) := by decide +kernel
theorem dX5_init_39 : decode cX5_init 39 = .ok (.goto (-24), 3) := by decide +kernel
theorem dX5_init_42 : decode cX5_init 42 = .ok (.aload_n 0, 1) := by decide +kernel
theorem dX5_init_43 : decode cX5_init 43 = .ok (.new 18, 3) := by decide +kernel
theorem dX5_init_46 : decode cX5_init 46 = .ok (.dup, 1) := by decide +kernel
theorem dX5_init_47 : decode cX5_init 47 = .ok (.invokespecial 20, 3) := by decide +kernel
theorem dX5_init_50 : decode cX5_init 50 = .ok (.putfield 21, 3) := by decide +kernel
theorem dX5_init_53 : decode cX5_init 53 = .ok (.aload_n 0, 1) := by decide +kernel
theorem dX5_init_54 : decode cX5_init 54 = .ok (.new 25, 3) := by decide +kernel
theorem dX5_init_57 : decode cX5_init 57 = .ok (.dup, 1) := by decide +kernel
theorem dX5_init_58 : decode cX5_init 58 = .ok (.invokespecial 27, 3) := by decide +kernel
theorem dX5_init_61 : decode cX5_init 61 = .ok (.putfield 28, 3) := by decide +kernel
theorem dX5_init_64 : decode cX5_init 64 = .ok (.aload_n 0, 1) := by decide +kernel
theorem dX5_init_65 : decode cX5_init 65 = .ok (.new 32, 3) := by decide +kernel
theorem dX5_init_68 : decode cX5_init 68 = .ok (.dup, 1) := by decide +kernel
theorem dX5_init_69 : decode cX5_init 69 = .ok (.invokespecial 34, 3) := by decide +kernel
theorem dX5_init_72 : decode cX5_init 72 = .ok (.putfield 35, 3) := by decide +kernel
theorem dX5_init_75 : decode cX5_init 75 = .ok (.aload_n 0, 1) := by decide +kernel
theorem dX5_init_76 : decode cX5_init 76 = .ok (.new 39, 3) := by decide +kernel
theorem dX5_init_79 : decode cX5_init 79 = .ok (.dup, 1) := by decide +kernel
theorem dX5_init_80 : decode cX5_init 80 = .ok (.aload_n 0, 1) := by decide +kernel
theorem dX5_init_81 : decode cX5_init 81 = .ok (.getfield 35, 3) := by decide +kernel
theorem dX5_init_84 : decode cX5_init 84 = .ok (.invokespecial 41, 3) := by decide +kernel
theorem dX5_init_87 : decode cX5_init 87 = .ok (.putfield 44, 3) := by decide +kernel
theorem dX5_init_90 : decode cX5_init 90 = .ok (.aload_n 0, 1) := by decide +kernel
theorem dX5_init_91 : decode cX5_init 91 = .ok (.new 9, 3) := by decide +kernel
theorem dX5_init_94 : decode cX5_init 94 = .ok (.dup, 1) := by decide +kernel
theorem dX5_init_95 : decode cX5_init 95 = .ok (.sipush 540, 3) := by decide +kernel
theorem dX5_init_98 : decode cX5_init 98 = .ok (.invokespecial 15, 3) := by decide +kernel
theorem dX5_init_101 : decode cX5_init 101 = .ok (.putfield 48, 3) := by decide +kernel
theorem dX5_init_104 : decode cX5_init 104 = .ok (.aload_n 0, 1) := by decide +kernel
theorem dX5_init_105 : decode cX5_init 105 = .ok (.new 9, 3) := by decide +kernel
theorem dX5_init_108 : decode cX5_init 108 = .ok (.dup, 1) := by decide +kernel
theorem dX5_init_109 : decode cX5_init 109 = .ok (.bipush 60, 2) := by decide +kernel
theorem dX5_init_111 : decode cX5_init 111 = .ok (.invokespecial 15, 3) := by decide +kernel
theorem dX5_init_114 : decode cX5_init 114 = .ok (.putfield 52, 3) := by decide +kernel
theorem dX5_init_117 : decode cX5_init 117 = .ok (.aload_n 0, 1) := by decide +kernel
theorem dX5_init_118 : decode cX5_init 118 = .ok (.new 9, 3) := by decide +kernel
theorem dX5_init_121 : decode cX5_init 121 = .ok (.dup, 1) := by decide +kernel
theorem dX5_init_122 : decode cX5_init 122 = .ok (.bipush 60, 2) := by decide +kernel
theorem dX5_init_124 : decode cX5_init 124 = .ok (.invokespecial 15, 3) := by decide +kernel
theorem dX5_init_127 : decode cX5_init 127 = .ok (.putfield 55, 3) := by decide +kernel
theorem dX5_init_130 : decode cX5_init 130 = .ok (.return_, 1) := by decide +kernel
theorem dX5_type_0 : decode cX5_type 0 = .ok (.iload_n 1, 1) := by decide +kernel
theorem dX5_type_1 : decode cX5_type 1 = .ok (.ifCond .lt 9, 3) := by decide +kernel
theorem dX5_type_4 : decode cX5_type 4 = .ok (.iload_n 1, 1) := by decide +kernel
theorem dX5_type_5 : decode cX5_type 5 = .ok (.bipush 127, 2) := by decide +kernel
theorem dX5_type_7 : decode cX5_type 7 = .ok (.if_icmp .le 10, 3) := by decide +kernel
theorem dX5_type_10 : decode cX5_type 10 = .ok (.aload_n 0, 1) := by decide +kernel
theorem dX5_type_11 : decode cX5_type 11 = .ok (.bipush (-2), 2) := by decide +kernel
theorem dX5_type_13 : decode cX5_type 13 = .ok (.invokevirtual 58, 3) := by decide +kernel
theorem dX5_type_16 : decode cX5_type 16 = .ok (.ireturn, 1) := by decide +kernel
theorem dX5_type_17 : decode cX5_type 17 = .ok (.aload_n 0, 1) := by decide +kernel
theorem dX5_type_18 : decode cX5_type 18 = .ok (.getfield 21, 3) := by decide +kernel
theorem dX5_type_21 : decode cX5_type 21 = .ok (.iload_n 1, 1) := by decide +kernel
theorem dX5_type_22 : decode cX5_type 22 = .ok (.invokevirtual 62, 3) := by decide +kernel
theorem dX5_type_25 : decode cX5_type 25 = .ok (.ifCond .eq 13, 3) := by decide +kernel
theorem dX5_type_28 : decode cX5_type 28 = .ok (.aload_n 0, 1) := by decide +kernel
theorem dX5_type_29 : decode cX5_type 29 = .ok (.getfield 21, 3) := by decide +kernel
theorem dX5_type_32 : decode cX5_type 32 = .ok (.getfield 66, 3) := by decide +kernel
theorem dX5_type_35 : decode cX5_type 35 = .ok (.goto 9, 3) := by decide +kernel
theorem dX5_type_38 : decode cX5_type 38 = .ok (.aload_n 0, 1) := by decide +kernel
theorem dX5_type_39 : decode cX5_type 39 = .ok (.bipush (-4), 2) := by decide +kernel
theorem dX5_type_41 : decode cX5_type 41 = .ok (.invokevirtual 58, 3) := by decide +kernel
theorem dX5_type_44 : decode cX5_type 44 = .ok (.ireturn, 1) := by decide +kernel
theorem dX5_clear_0 : decode cX5_clear 0 = .ok (.aload_n 0, 1) := by decide +kernel
theorem dX5_clear_1 : decode cX5_clear 1 = .ok (.getfield 21, 3) := by decide +kernel
theorem dX5_clear_4 : decode cX5_clear 4 = .ok (.getfield 66, 3) := by decide +kernel
theorem dX5_clear_7 : decode cX5_clear 7 = .ok (.istore_n 1, 1) := by decide +kernel
theorem dX5_clear_8 : decode cX5_clear 8 = .ok (.aload_n 0, 1) := by decide +kernel
theorem dX5_clear_9 : decode cX5_clear 9 = .ok (.getfield 21, 3) := by decide +kernel
theorem dX5_clear_12 : decode cX5_clear 12 = .ok (.iconst 0, 1) := by decide +kernel
theorem dX5_clear_13 : decode cX5_clear 13 = .ok (.putfield 66, 3) := by decide +kernel
theorem dX5_clear_16 : decode cX5_clear 16 = .ok (.iload_n 1, 1) := by decide +kernel
theorem dX5_clear_17 : decode cX5_clear 17 = .ok (.ireturn, 1) := by decide +kernel
theorem dX5_relators_0 : decode cX5_relators 0 = .ok (.aload_n 0, 1) := by decide +kernel
theorem dX5_relators_1 : decode cX5_relators 1 = .ok (.iconst 3, 1) := by decide +kernel
theorem dX5_relators_2 : decode cX5_relators 2 = .ok (.iconst 1, 1) := by decide +kernel
theorem dX5_relators_3 : decode cX5_relators 3 = .ok (.invokevirtual 70, 3) := by decide +kernel
theorem dX5_relators_6 : decode cX5_relators 6 = .ok (.istore_n 1, 1) := by decide +kernel
theorem dX5_relators_7 : decode cX5_relators 7 = .ok (.iload_n 1, 1) := by decide +kernel
theorem dX5_relators_8 : decode cX5_relators 8 = .ok (.iconst (-1), 1) := by decide +kernel
theorem dX5_relators_9 : decode cX5_relators 9 = .ok (.if_icmp .eq 8, 3) := by decide +kernel
theorem dX5_relators_12 : decode cX5_relators 12 = .ok (.bipush (-10), 2) := by decide +kernel
theorem dX5_relators_14 : decode cX5_relators 14 = .ok (.iload_n 1, 1) := by decide +kernel
theorem dX5_relators_15 : decode cX5_relators 15 = .ok (.isub, 1) := by decide +kernel
theorem dX5_relators_16 : decode cX5_relators 16 = .ok (.ireturn, 1) := by decide +kernel
theorem dX5_relators_17 : decode cX5_relators 17 = .ok (.aload_n 0, 1) := by decide +kernel
theorem dX5_relators_18 : decode cX5_relators 18 = .ok (.getfield 35, 3) := by decide +kernel
theorem dX5_relators_21 : decode cX5_relators 21 = .ok (.aload_n 0, 1) := by decide +kernel
theorem dX5_relators_22 : decode cX5_relators 22 = .ok (.getfield 28, 3) := by decide +kernel
theorem dX5_relators_25 : decode cX5_relators 25 = .ok (.invokevirtual 74, 3) := by decide +kernel
theorem dX5_relators_28 : decode cX5_relators 28 = .ok (.aload_n 0, 1) := by decide +kernel
theorem dX5_relators_29 : decode cX5_relators 29 = .ok (.getfield 28, 3) := by decide +kernel
theorem dX5_relators_32 : decode cX5_relators 32 = .ok (.getfield 78, 3) := by decide +kernel
theorem dX5_relators_35 : decode cX5_relators 35 = .ok (.ireturn, 1) := by decide +kernel
theorem dX5_words_0 : decode cX5_words 0 = .ok (.iload_n 1, 1) := by decide +kernel
theorem dX5_words_1 : decode cX5_words 1 = .ok (.invokestatic 81, 3) := by decide +kernel
theorem dX5_words_4 : decode cX5_words 4 = .ok (.ifCond .ne 10, 3) := by decide +kernel
theorem dX5_words_7 : decode cX5_words 7 = .ok (.aload_n 0, 1) := by decide +kernel
theorem dX5_words_8 : decode cX5_words 8 = .ok (.bipush (-2), 2) := by decide +kernel
theorem dX5_words_10 : decode cX5_words 10 = .ok (.invokevirtual 58, 3) := by decide +kernel
theorem dX5_words_13 : decode cX5_words 13 = .ok (.ireturn, 1) := by decide +kernel
theorem dX5_words_14 : decode cX5_words 14 = .ok (.aload_n 0, 1) := by decide +kernel
theorem dX5_words_15 : decode cX5_words 15 = .ok (.bipush 6, 2) := by decide +kernel
theorem dX5_words_17 : decode cX5_words 17 = .ok (.iload_n 1, 1) := by decide +kernel
theorem dX5_words_18 : decode cX5_words 18 = .ok (.isub, 1) := by decide +kernel
theorem dX5_words_19 : decode cX5_words 19 = .ok (.iconst 0, 1) := by decide +kernel
theorem dX5_words_20 : decode cX5_words 20 = .ok (.invokevirtual 70, 3) := by decide +kernel
theorem dX5_words_23 : decode cX5_words 23 = .ok (.istore_n 2, 1) := by decide +kernel
theorem dX5_words_24 : decode cX5_words 24 = .ok (.iload_n 2, 1) := by decide +kernel
theorem dX5_words_25 : decode cX5_words 25 = .ok (.iconst (-1), 1) := by decide +kernel
theorem dX5_words_26 : decode cX5_words 26 = .ok (.if_icmp .eq 8, 3) := by decide +kernel
theorem dX5_words_29 : decode cX5_words 29 = .ok (.bipush (-10), 2) := by decide +kernel
theorem dX5_words_31 : decode cX5_words 31 = .ok (.iload_n 2, 1) := by decide +kernel
theorem dX5_words_32 : decode cX5_words 32 = .ok (.isub, 1) := by decide +kernel
theorem dX5_words_33 : decode cX5_words 33 = .ok (.ireturn, 1) := by decide +kernel
theorem dX5_words_34 : decode cX5_words 34 = .ok (.iconst 0, 1) := by decide +kernel
theorem dX5_words_35 : decode cX5_words 35 = .ok (.istore_n 3, 1) := by decide +kernel
theorem dX5_words_36 : decode cX5_words 36 = .ok (.iload_n 3, 1) := by decide +kernel
theorem dX5_words_37 : decode cX5_words 37 = .ok (.aload_n 0, 1) := by decide +kernel
theorem dX5_words_38 : decode cX5_words 38 = .ok (.getfield 28, 3) := by decide +kernel
theorem dX5_words_41 : decode cX5_words 41 = .ok (.getfield 78, 3) := by decide +kernel
theorem dX5_words_44 : decode cX5_words 44 = .ok (.if_icmp .ge 37, 3) := by decide +kernel
theorem dX5_words_47 : decode cX5_words 47 = .ok (.iload_n 1, 1) := by decide +kernel
theorem dX5_words_48 : decode cX5_words 48 = .ok (.iload_n 3, 1) := by decide +kernel
theorem dX5_words_49 : decode cX5_words 49 = .ok (.iadd, 1) := by decide +kernel
theorem dX5_words_50 : decode cX5_words 50 = .ok (.bipush 6, 2) := by decide +kernel
theorem dX5_words_52 : decode cX5_words 52 = .ok (.if_icmp .ge 29, 3) := by decide +kernel
theorem dX5_words_55 : decode cX5_words 55 = .ok (.aload_n 0, 1) := by decide +kernel
theorem dX5_words_56 : decode cX5_words 56 = .ok (.getfield 11, 3) := by decide +kernel
theorem dX5_words_59 : decode cX5_words 59 = .ok (.iload_n 1, 1) := by decide +kernel
theorem dX5_words_60 : decode cX5_words 60 = .ok (.iload_n 3, 1) := by decide +kernel
theorem dX5_words_61 : decode cX5_words 61 = .ok (.iadd, 1) := by decide +kernel
theorem dX5_words_62 : decode cX5_words 62 = .ok (.aaload, 1) := by decide +kernel
theorem dX5_words_63 : decode cX5_words 63 = .ok (.aload_n 0, 1) := by decide +kernel
theorem dX5_words_64 : decode cX5_words 64 = .ok (.getfield 28, 3) := by decide +kernel
theorem dX5_words_67 : decode cX5_words 67 = .ok (.getfield 84, 3) := by decide +kernel
theorem dX5_words_70 : decode cX5_words 70 = .ok (.iload_n 3, 1) := by decide +kernel
theorem dX5_words_71 : decode cX5_words 71 = .ok (.aaload, 1) := by decide +kernel
theorem dX5_words_72 : decode cX5_words 72 = .ok (.invokevirtual 87, 3) := by decide +kernel
theorem dX5_words_75 : decode cX5_words 75 = .ok (.iinc 3 1, 3) := by decide +kernel
theorem dX5_words_78 : decode cX5_words 78 = .ok (.goto (-42), 3) := by decide +kernel
theorem dX5_words_81 : decode cX5_words 81 = .ok (.aload_n 0, 1) := by decide +kernel
theorem dX5_words_82 : decode cX5_words 82 = .ok (.getfield 28, 3) := by decide +kernel
theorem dX5_words_85 : decode cX5_words 85 = .ok (.getfield 78, 3) := by decide +kernel
theorem dX5_words_88 : decode cX5_words 88 = .ok (.ireturn, 1) := by decide +kernel
theorem dX5_chooser_0 : decode cX5_chooser 0 = .ok (.iload_n 1, 1) := by decide +kernel
theorem dX5_chooser_1 : decode cX5_chooser 1 = .ok (.ifCond .lt 8, 3) := by decide +kernel
theorem dX5_chooser_4 : decode cX5_chooser 4 = .ok (.iload_n 1, 1) := by decide +kernel
theorem dX5_chooser_5 : decode cX5_chooser 5 = .ok (.iconst 4, 1) := by decide +kernel
theorem dX5_chooser_6 : decode cX5_chooser 6 = .ok (.if_icmp .le 10, 3) := by decide +kernel
theorem dX5_chooser_9 : decode cX5_chooser 9 = .ok (.aload_n 0, 1) := by decide +kernel
theorem dX5_chooser_10 : decode cX5_chooser 10 = .ok (.bipush (-2), 2) := by decide +kernel
theorem dX5_chooser_12 : decode cX5_chooser 12 = .ok (.invokevirtual 58, 3) := by decide +kernel
theorem dX5_chooser_15 : decode cX5_chooser 15 = .ok (.ireturn, 1) := by decide +kernel
theorem dX5_chooser_16 : decode cX5_chooser 16 = .ok (.aload_n 0, 1) := by decide +kernel
theorem dX5_chooser_17 : decode cX5_chooser 17 = .ok (.getfield 44, 3) := by decide +kernel
theorem dX5_chooser_20 : decode cX5_chooser 20 = .ok (.getfield 91, 3) := by decide +kernel
theorem dX5_chooser_23 : decode cX5_chooser 23 = .ok (.istore_n 2, 1) := by decide +kernel
theorem dX5_chooser_24 : decode cX5_chooser 24 = .ok (.aload_n 0, 1) := by decide +kernel
theorem dX5_chooser_25 : decode cX5_chooser 25 = .ok (.getfield 44, 3) := by decide +kernel
theorem dX5_chooser_28 : decode cX5_chooser 28 = .ok (.iload_n 1, 1) := by decide +kernel
theorem dX5_chooser_29 : decode cX5_chooser 29 = .ok (.putfield 91, 3) := by decide +kernel
theorem dX5_chooser_32 : decode cX5_chooser 32 = .ok (.iload_n 2, 1) := by decide +kernel
theorem dX5_chooser_33 : decode cX5_chooser 33 = .ok (.ireturn, 1) := by decide +kernel
theorem dX5_relator_0 : decode cX5_relator 0 = .ok (.iload_n 1, 1) := by decide +kernel
theorem dX5_relator_1 : decode cX5_relator 1 = .ok (.ifCond .lt 23, 3) := by decide +kernel
theorem dX5_relator_4 : decode cX5_relator 4 = .ok (.iload_n 1, 1) := by decide +kernel
theorem dX5_relator_5 : decode cX5_relator 5 = .ok (.aload_n 0, 1) := by decide +kernel
theorem dX5_relator_6 : decode cX5_relator 6 = .ok (.getfield 35, 3) := by decide +kernel
theorem dX5_relator_9 : decode cX5_relator 9 = .ok (.getfield 94, 3) := by decide +kernel
theorem dX5_relator_12 : decode cX5_relator 12 = .ok (.if_icmp .ge 12, 3) := by decide +kernel
theorem dX5_relator_15 : decode cX5_relator 15 = .ok (.iload_n 2, 1) := by decide +kernel
theorem dX5_relator_16 : decode cX5_relator 16 = .ok (.ifCond .lt 8, 3) := by decide +kernel
theorem dX5_relator_19 : decode cX5_relator 19 = .ok (.iload_n 2, 1) := by decide +kernel
theorem dX5_relator_20 : decode cX5_relator 20 = .ok (.iconst 2, 1) := by decide +kernel
theorem dX5_relator_21 : decode cX5_relator 21 = .ok (.if_icmp .le 10, 3) := by decide +kernel
theorem dX5_relator_24 : decode cX5_relator 24 = .ok (.aload_n 0, 1) := by decide +kernel
theorem dX5_relator_25 : decode cX5_relator 25 = .ok (.bipush (-2), 2) := by decide +kernel
theorem dX5_relator_27 : decode cX5_relator 27 = .ok (.invokevirtual 58, 3) := by decide +kernel
theorem dX5_relator_30 : decode cX5_relator 30 = .ok (.ireturn, 1) := by decide +kernel
theorem dX5_relator_31 : decode cX5_relator 31 = .ok (.iload_n 2, 1) := by decide +kernel
theorem dX5_relator_32 : decode cX5_relator 32 = .ok (.lookupswitch 51 #[(0, 28), (1, 41)], 28) := by decide +kernel
theorem dX5_relator_60 : decode cX5_relator 60 = .ok (.aload_n 0, 1) := by decide +kernel
theorem dX5_relator_61 : decode cX5_relator 61 = .ok (.getfield 35, 3) := by decide +kernel
theorem dX5_relator_64 : decode cX5_relator 64 = .ok (.getfield 97, 3) := by decide +kernel
theorem dX5_relator_67 : decode cX5_relator 67 = .ok (.iload_n 1, 1) := by decide +kernel
theorem dX5_relator_68 : decode cX5_relator 68 = .ok (.aaload, 1) := by decide +kernel
theorem dX5_relator_69 : decode cX5_relator 69 = .ok (.getfield 100, 3) := by decide +kernel
theorem dX5_relator_72 : decode cX5_relator 72 = .ok (.ireturn, 1) := by decide +kernel
theorem dX5_relator_73 : decode cX5_relator 73 = .ok (.aload_n 0, 1) := by decide +kernel
theorem dX5_relator_74 : decode cX5_relator 74 = .ok (.getfield 35, 3) := by decide +kernel
theorem dX5_relator_77 : decode cX5_relator 77 = .ok (.getfield 101, 3) := by decide +kernel
theorem dX5_relator_80 : decode cX5_relator 80 = .ok (.iload_n 1, 1) := by decide +kernel
theorem dX5_relator_81 : decode cX5_relator 81 = .ok (.iaload, 1) := by decide +kernel
theorem dX5_relator_82 : decode cX5_relator 82 = .ok (.ireturn, 1) := by decide +kernel
theorem dX5_relator_83 : decode cX5_relator 83 = .ok (.aload_n 0, 1) := by decide +kernel
theorem dX5_relator_84 : decode cX5_relator 84 = .ok (.getfield 35, 3) := by decide +kernel
theorem dX5_relator_87 : decode cX5_relator 87 = .ok (.getfield 105, 3) := by decide +kernel
theorem dX5_relator_90 : decode cX5_relator 90 = .ok (.iload_n 1, 1) := by decide +kernel
theorem dX5_relator_91 : decode cX5_relator 91 = .ok (.iaload, 1) := by decide +kernel
theorem dX5_relator_92 : decode cX5_relator 92 = .ok (.ireturn, 1) := by decide +kernel
theorem dX5_member_0 : decode cX5_member 0 = .ok (.aload_n 0, 1) := by decide +kernel
theorem dX5_member_1 : decode cX5_member 1 = .ok (.getfield 35, 3) := by decide +kernel
theorem dX5_member_4 : decode cX5_member 4 = .ok (.iload_n 1, 1) := by decide +kernel
theorem dX5_member_5 : decode cX5_member 5 = .ok (.invokevirtual 108, 3) := by decide +kernel
theorem dX5_member_8 : decode cX5_member 8 = .ok (.ifCond .eq 8, 3) := by decide +kernel
theorem dX5_member_11 : decode cX5_member 11 = .ok (.iload_n 2, 1) := by decide +kernel
theorem dX5_member_12 : decode cX5_member 12 = .ok (.iconst (-1), 1) := by decide +kernel
theorem dX5_member_13 : decode cX5_member 13 = .ok (.if_icmp .ge 10, 3) := by decide +kernel
theorem dX5_member_16 : decode cX5_member 16 = .ok (.aload_n 0, 1) := by decide +kernel
theorem dX5_member_17 : decode cX5_member 17 = .ok (.bipush (-2), 2) := by decide +kernel
theorem dX5_member_19 : decode cX5_member 19 = .ok (.invokevirtual 58, 3) := by decide +kernel
theorem dX5_member_22 : decode cX5_member 22 = .ok (.ireturn, 1) := by decide +kernel
theorem dX5_member_23 : decode cX5_member 23 = .ok (.iload_n 2, 1) := by decide +kernel
theorem dX5_member_24 : decode cX5_member 24 = .ok (.iconst (-1), 1) := by decide +kernel
theorem dX5_member_25 : decode cX5_member 25 = .ok (.if_icmp .ne 14, 3) := by decide +kernel
theorem dX5_member_28 : decode cX5_member 28 = .ok (.aload_n 0, 1) := by decide +kernel
theorem dX5_member_29 : decode cX5_member 29 = .ok (.getfield 35, 3) := by decide +kernel
theorem dX5_member_32 : decode cX5_member 32 = .ok (.iload_n 1, 1) := by decide +kernel
theorem dX5_member_33 : decode cX5_member 33 = .ok (.invokevirtual 111, 3) := by decide +kernel
theorem dX5_member_36 : decode cX5_member 36 = .ok (.goto 12, 3) := by decide +kernel
theorem dX5_member_39 : decode cX5_member 39 = .ok (.aload_n 0, 1) := by decide +kernel
theorem dX5_member_40 : decode cX5_member 40 = .ok (.getfield 35, 3) := by decide +kernel
theorem dX5_member_43 : decode cX5_member 43 = .ok (.iload_n 1, 1) := by decide +kernel
theorem dX5_member_44 : decode cX5_member 44 = .ok (.iload_n 2, 1) := by decide +kernel
theorem dX5_member_45 : decode cX5_member 45 = .ok (.invokevirtual 114, 3) := by decide +kernel
theorem dX5_member_48 : decode cX5_member 48 = .ok (.ireturn, 1) := by decide +kernel
theorem dX5_good_0 : decode cX5_good 0 = .ok (.iload_n 1, 1) := by decide +kernel
theorem dX5_good_1 : decode cX5_good 1 = .ok (.iconst 1, 1) := by decide +kernel
theorem dX5_good_2 : decode cX5_good 2 = .ok (.if_icmp .lt 9, 3) := by decide +kernel
theorem dX5_good_5 : decode cX5_good 5 = .ok (.iload_n 1, 1) := by decide +kernel
theorem dX5_good_6 : decode cX5_good 6 = .ok (.bipush 9, 2) := by decide +kernel
theorem dX5_good_8 : decode cX5_good 8 = .ok (.if_icmp .le 10, 3) := by decide +kernel
theorem dX5_good_11 : decode cX5_good 11 = .ok (.aload_n 0, 1) := by decide +kernel
theorem dX5_good_12 : decode cX5_good 12 = .ok (.bipush (-2), 2) := by decide +kernel
theorem dX5_good_14 : decode cX5_good 14 = .ok (.invokevirtual 58, 3) := by decide +kernel
theorem dX5_good_17 : decode cX5_good 17 = .ok (.ireturn, 1) := by decide +kernel
theorem dX5_good_18 : decode cX5_good 18 = .ok (.aload_n 0, 1) := by decide +kernel
theorem dX5_good_19 : decode cX5_good 19 = .ok (.getfield 35, 3) := by decide +kernel
theorem dX5_good_22 : decode cX5_good 22 = .ok (.iload_n 1, 1) := by decide +kernel
theorem dX5_good_23 : decode cX5_good 23 = .ok (.invokevirtual 118, 3) := by decide +kernel
theorem dX5_good_26 : decode cX5_good 26 = .ok (.ifCond .eq 7, 3) := by decide +kernel
theorem dX5_good_29 : decode cX5_good 29 = .ok (.iconst 1, 1) := by decide +kernel
theorem dX5_good_30 : decode cX5_good 30 = .ok (.goto 4, 3) := by decide +kernel
theorem dX5_good_33 : decode cX5_good 33 = .ok (.iconst 0, 1) := by decide +kernel
theorem dX5_good_34 : decode cX5_good 34 = .ok (.ireturn, 1) := by decide +kernel
theorem dX5_alike_0 : decode cX5_alike 0 = .ok (.aload_n 0, 1) := by decide +kernel
theorem dX5_alike_1 : decode cX5_alike 1 = .ok (.getfield 35, 3) := by decide +kernel
theorem dX5_alike_4 : decode cX5_alike 4 = .ok (.iload_n 1, 1) := by decide +kernel
theorem dX5_alike_5 : decode cX5_alike 5 = .ok (.invokevirtual 108, 3) := by decide +kernel
theorem dX5_alike_8 : decode cX5_alike 8 = .ok (.ifCond .eq 14, 3) := by decide +kernel
theorem dX5_alike_11 : decode cX5_alike 11 = .ok (.aload_n 0, 1) := by decide +kernel
theorem dX5_alike_12 : decode cX5_alike 12 = .ok (.getfield 35, 3) := by decide +kernel
theorem dX5_alike_15 : decode cX5_alike 15 = .ok (.iload_n 2, 1) := by decide +kernel
theorem dX5_alike_16 : decode cX5_alike 16 = .ok (.invokevirtual 108, 3) := by decide +kernel
theorem dX5_alike_19 : decode cX5_alike 19 = .ok (.ifCond .ne 10, 3) := by decide +kernel
theorem dX5_alike_22 : decode cX5_alike 22 = .ok (.aload_n 0, 1) := by decide +kernel
theorem dX5_alike_23 : decode cX5_alike 23 = .ok (.bipush (-2), 2) := by decide +kernel
theorem dX5_alike_25 : decode cX5_alike 25 = .ok (.invokevirtual 58, 3) := by decide +kernel
theorem dX5_alike_28 : decode cX5_alike 28 = .ok (.ireturn, 1) := by decide +kernel
theorem dX5_alike_29 : decode cX5_alike 29 = .ok (.aload_n 0, 1) := by decide +kernel
theorem dX5_alike_30 : decode cX5_alike 30 = .ok (.getfield 35, 3) := by decide +kernel
theorem dX5_alike_33 : decode cX5_alike 33 = .ok (.iload_n 1, 1) := by decide +kernel
theorem dX5_alike_34 : decode cX5_alike 34 = .ok (.iload_n 2, 1) := by decide +kernel
theorem dX5_alike_35 : decode cX5_alike 35 = .ok (.invokevirtual 121, 3) := by decide +kernel
theorem dX5_alike_38 : decode cX5_alike 38 = .ok (.ireturn, 1) := by decide +kernel
theorem dX5_rank_0 : decode cX5_rank 0 = .ok (.iload_n 1, 1) := by decide +kernel
theorem dX5_rank_1 : decode cX5_rank 1 = .ok (.iconst 2, 1) := by decide +kernel
theorem dX5_rank_2 : decode cX5_rank 2 = .ok (.if_icmp .eq 26, 3) := by decide +kernel
theorem dX5_rank_5 : decode cX5_rank 5 = .ok (.iload_n 1, 1) := by decide +kernel
theorem dX5_rank_6 : decode cX5_rank 6 = .ok (.iconst 3, 1) := by decide +kernel
theorem dX5_rank_7 : decode cX5_rank 7 = .ok (.if_icmp .eq 21, 3) := by decide +kernel
theorem dX5_rank_10 : decode cX5_rank 10 = .ok (.iload_n 1, 1) := by decide +kernel
theorem dX5_rank_11 : decode cX5_rank 11 = .ok (.iconst 5, 1) := by decide +kernel
theorem dX5_rank_12 : decode cX5_rank 12 = .ok (.if_icmp .eq 16, 3) := by decide +kernel
theorem dX5_rank_15 : decode cX5_rank 15 = .ok (.iload_n 1, 1) := by decide +kernel
theorem dX5_rank_16 : decode cX5_rank 16 = .ok (.bipush 7, 2) := by decide +kernel
theorem dX5_rank_18 : decode cX5_rank 18 = .ok (.if_icmp .eq 10, 3) := by decide +kernel
theorem dX5_rank_21 : decode cX5_rank 21 = .ok (.aload_n 0, 1) := by decide +kernel
theorem dX5_rank_22 : decode cX5_rank 22 = .ok (.bipush (-2), 2) := by decide +kernel
theorem dX5_rank_24 : decode cX5_rank 24 = .ok (.invokevirtual 58, 3) := by decide +kernel
theorem dX5_rank_27 : decode cX5_rank 27 = .ok (.ireturn, 1) := by decide +kernel
theorem dX5_rank_28 : decode cX5_rank 28 = .ok (.aload_n 0, 1) := by decide +kernel
theorem dX5_rank_29 : decode cX5_rank 29 = .ok (.getfield 35, 3) := by decide +kernel
theorem dX5_rank_32 : decode cX5_rank 32 = .ok (.iload_n 1, 1) := by decide +kernel
theorem dX5_rank_33 : decode cX5_rank 33 = .ok (.invokevirtual 124, 3) := by decide +kernel
theorem dX5_rank_36 : decode cX5_rank 36 = .ok (.ireturn, 1) := by decide +kernel
theorem dX5_length_0 : decode cX5_length 0 = .ok (.iload_n 1, 1) := by decide +kernel
theorem dX5_length_1 : decode cX5_length 1 = .ok (.invokestatic 81, 3) := by decide +kernel
theorem dX5_length_4 : decode cX5_length 4 = .ok (.ifCond .eq 15, 3) := by decide +kernel
theorem dX5_length_7 : decode cX5_length 7 = .ok (.aload_n 0, 1) := by decide +kernel
theorem dX5_length_8 : decode cX5_length 8 = .ok (.getfield 11, 3) := by decide +kernel
theorem dX5_length_11 : decode cX5_length 11 = .ok (.iload_n 1, 1) := by decide +kernel
theorem dX5_length_12 : decode cX5_length 12 = .ok (.aaload, 1) := by decide +kernel
theorem dX5_length_13 : decode cX5_length 13 = .ok (.getfield 100, 3) := by decide +kernel
theorem dX5_length_16 : decode cX5_length 16 = .ok (.goto 9, 3) := by decide +kernel
theorem dX5_length_19 : decode cX5_length 19 = .ok (.aload_n 0, 1) := by decide +kernel
theorem dX5_length_20 : decode cX5_length 20 = .ok (.bipush (-2), 2) := by decide +kernel
theorem dX5_length_22 : decode cX5_length 22 = .ok (.invokevirtual 58, 3) := by decide +kernel
theorem dX5_length_25 : decode cX5_length 25 = .ok (.ireturn, 1) := by decide +kernel
theorem dX5_letter_0 : decode cX5_letter 0 = .ok (.iload_n 1, 1) := by decide +kernel
theorem dX5_letter_1 : decode cX5_letter 1 = .ok (.invokestatic 81, 3) := by decide +kernel
theorem dX5_letter_4 : decode cX5_letter 4 = .ok (.ifCond .eq 7, 3) := by decide +kernel
theorem dX5_letter_7 : decode cX5_letter 7 = .ok (.iload_n 2, 1) := by decide +kernel
theorem dX5_letter_8 : decode cX5_letter 8 = .ok (.ifCond .ge 10, 3) := by decide +kernel
theorem dX5_letter_11 : decode cX5_letter 11 = .ok (.aload_n 0, 1) := by decide +kernel
theorem dX5_letter_12 : decode cX5_letter 12 = .ok (.bipush (-2), 2) := by decide +kernel
theorem dX5_letter_14 : decode cX5_letter 14 = .ok (.invokevirtual 58, 3) := by decide +kernel
theorem dX5_letter_17 : decode cX5_letter 17 = .ok (.ireturn, 1) := by decide +kernel
theorem dX5_letter_18 : decode cX5_letter 18 = .ok (.aload_n 0, 1) := by decide +kernel
theorem dX5_letter_19 : decode cX5_letter 19 = .ok (.getfield 11, 3) := by decide +kernel
theorem dX5_letter_22 : decode cX5_letter 22 = .ok (.iload_n 1, 1) := by decide +kernel
theorem dX5_letter_23 : decode cX5_letter 23 = .ok (.aaload, 1) := by decide +kernel
theorem dX5_letter_24 : decode cX5_letter 24 = .ok (.iload_n 2, 1) := by decide +kernel
theorem dX5_letter_25 : decode cX5_letter 25 = .ok (.invokevirtual 127, 3) := by decide +kernel
theorem dX5_letter_28 : decode cX5_letter 28 = .ok (.ireturn, 1) := by decide +kernel
theorem dX5_adds_0 : decode cX5_adds 0 = .ok (.iload_n 1, 1) := by decide +kernel
theorem dX5_adds_1 : decode cX5_adds 1 = .ok (.invokestatic 81, 3) := by decide +kernel
theorem dX5_adds_4 : decode cX5_adds 4 = .ok (.ifCond .eq 13, 3) := by decide +kernel
theorem dX5_adds_7 : decode cX5_adds 7 = .ok (.iload_n 2, 1) := by decide +kernel
theorem dX5_adds_8 : decode cX5_adds 8 = .ok (.ifCond .lt 9, 3) := by decide +kernel
theorem dX5_adds_11 : decode cX5_adds 11 = .ok (.iload_n 2, 1) := by decide +kernel
theorem dX5_adds_12 : decode cX5_adds 12 = .ok (.bipush 8, 2) := by decide +kernel
theorem dX5_adds_14 : decode cX5_adds 14 = .ok (.if_icmp .lt 10, 3) := by decide +kernel
theorem dX5_adds_17 : decode cX5_adds 17 = .ok (.aload_n 0, 1) := by decide +kernel
theorem dX5_adds_18 : decode cX5_adds 18 = .ok (.bipush (-2), 2) := by decide +kernel
theorem dX5_adds_20 : decode cX5_adds 20 = .ok (.invokevirtual 58, 3) := by decide +kernel
theorem dX5_adds_23 : decode cX5_adds 23 = .ok (.ireturn, 1) := by decide +kernel
theorem dX5_adds_24 : decode cX5_adds 24 = .ok (.aload_n 0, 1) := by decide +kernel
theorem dX5_adds_25 : decode cX5_adds 25 = .ok (.getfield 48, 3) := by decide +kernel
theorem dX5_adds_28 : decode cX5_adds 28 = .ok (.aload_n 0, 1) := by decide +kernel
theorem dX5_adds_29 : decode cX5_adds 29 = .ok (.getfield 11, 3) := by decide +kernel
theorem dX5_adds_32 : decode cX5_adds 32 = .ok (.iload_n 1, 1) := by decide +kernel
theorem dX5_adds_33 : decode cX5_adds 33 = .ok (.aaload, 1) := by decide +kernel
theorem dX5_adds_34 : decode cX5_adds 34 = .ok (.invokevirtual 87, 3) := by decide +kernel
theorem dX5_adds_37 : decode cX5_adds 37 = .ok (.aload_n 0, 1) := by decide +kernel
theorem dX5_adds_38 : decode cX5_adds 38 = .ok (.getfield 48, 3) := by decide +kernel
theorem dX5_adds_41 : decode cX5_adds 41 = .ok (.iload_n 2, 1) := by decide +kernel
theorem dX5_adds_42 : decode cX5_adds 42 = .ok (.invokevirtual 130, 3) := by decide +kernel
theorem dX5_adds_45 : decode cX5_adds 45 = .ok (.aload_n 0, 1) := by decide +kernel
theorem dX5_adds_46 : decode cX5_adds 46 = .ok (.iload_n 1, 1) := by decide +kernel
theorem dX5_adds_47 : decode cX5_adds 47 = .ok (.invokevirtual 133, 3) := by decide +kernel
theorem dX5_adds_50 : decode cX5_adds 50 = .ok (.ireturn, 1) := by decide +kernel
theorem dX5_times_0 : decode cX5_times 0 = .ok (.iload_n 1, 1) := by decide +kernel
theorem dX5_times_1 : decode cX5_times 1 = .ok (.invokestatic 81, 3) := by decide +kernel
theorem dX5_times_4 : decode cX5_times 4 = .ok (.ifCond .eq 17, 3) := by decide +kernel
theorem dX5_times_7 : decode cX5_times 7 = .ok (.iload_n 2, 1) := by decide +kernel
theorem dX5_times_8 : decode cX5_times 8 = .ok (.invokestatic 81, 3) := by decide +kernel
theorem dX5_times_11 : decode cX5_times 11 = .ok (.ifCond .eq 10, 3) := by decide +kernel
theorem dX5_times_14 : decode cX5_times 14 = .ok (.iload_n 3, 1) := by decide +kernel
theorem dX5_times_15 : decode cX5_times 15 = .ok (.invokestatic 81, 3) := by decide +kernel
theorem dX5_times_18 : decode cX5_times 18 = .ok (.ifCond .ne 10, 3) := by decide +kernel
theorem dX5_times_21 : decode cX5_times 21 = .ok (.aload_n 0, 1) := by decide +kernel
theorem dX5_times_22 : decode cX5_times 22 = .ok (.bipush (-2), 2) := by decide +kernel
theorem dX5_times_24 : decode cX5_times 24 = .ok (.invokevirtual 58, 3) := by decide +kernel
theorem dX5_times_27 : decode cX5_times 27 = .ok (.ireturn, 1) := by decide +kernel
theorem dX5_times_28 : decode cX5_times 28 = .ok (.aload_n 0, 1) := by decide +kernel
theorem dX5_times_29 : decode cX5_times 29 = .ok (.getfield 48, 3) := by decide +kernel
theorem dX5_times_32 : decode cX5_times 32 = .ok (.aload_n 0, 1) := by decide +kernel
theorem dX5_times_33 : decode cX5_times 33 = .ok (.getfield 11, 3) := by decide +kernel
theorem dX5_times_36 : decode cX5_times 36 = .ok (.iload_n 1, 1) := by decide +kernel
theorem dX5_times_37 : decode cX5_times 37 = .ok (.aaload, 1) := by decide +kernel
theorem dX5_times_38 : decode cX5_times 38 = .ok (.invokevirtual 87, 3) := by decide +kernel
theorem dX5_times_41 : decode cX5_times 41 = .ok (.aload_n 0, 1) := by decide +kernel
theorem dX5_times_42 : decode cX5_times 42 = .ok (.getfield 48, 3) := by decide +kernel
theorem dX5_times_45 : decode cX5_times 45 = .ok (.aload_n 0, 1) := by decide +kernel
theorem dX5_times_46 : decode cX5_times 46 = .ok (.getfield 11, 3) := by decide +kernel
theorem dX5_times_49 : decode cX5_times 49 = .ok (.iload_n 2, 1) := by decide +kernel
theorem dX5_times_50 : decode cX5_times 50 = .ok (.aaload, 1) := by decide +kernel
theorem dX5_times_51 : decode cX5_times 51 = .ok (.invokevirtual 136, 3) := by decide +kernel
theorem dX5_times_54 : decode cX5_times 54 = .ok (.aload_n 0, 1) := by decide +kernel
theorem dX5_times_55 : decode cX5_times 55 = .ok (.iload_n 3, 1) := by decide +kernel
theorem dX5_times_56 : decode cX5_times 56 = .ok (.invokevirtual 133, 3) := by decide +kernel
theorem dX5_times_59 : decode cX5_times 59 = .ok (.ireturn, 1) := by decide +kernel
theorem dX5_inverse_0 : decode cX5_inverse 0 = .ok (.iload_n 1, 1) := by decide +kernel
theorem dX5_inverse_1 : decode cX5_inverse 1 = .ok (.invokestatic 81, 3) := by decide +kernel
theorem dX5_inverse_4 : decode cX5_inverse 4 = .ok (.ifCond .eq 10, 3) := by decide +kernel
theorem dX5_inverse_7 : decode cX5_inverse 7 = .ok (.iload_n 2, 1) := by decide +kernel
theorem dX5_inverse_8 : decode cX5_inverse 8 = .ok (.invokestatic 81, 3) := by decide +kernel
theorem dX5_inverse_11 : decode cX5_inverse 11 = .ok (.ifCond .ne 10, 3) := by decide +kernel
theorem dX5_inverse_14 : decode cX5_inverse 14 = .ok (.aload_n 0, 1) := by decide +kernel
theorem dX5_inverse_15 : decode cX5_inverse 15 = .ok (.bipush (-2), 2) := by decide +kernel
theorem dX5_inverse_17 : decode cX5_inverse 17 = .ok (.invokevirtual 58, 3) := by decide +kernel
theorem dX5_inverse_20 : decode cX5_inverse 20 = .ok (.ireturn, 1) := by decide +kernel
theorem dX5_inverse_21 : decode cX5_inverse 21 = .ok (.aload_n 0, 1) := by decide +kernel
theorem dX5_inverse_22 : decode cX5_inverse 22 = .ok (.getfield 48, 3) := by decide +kernel
theorem dX5_inverse_25 : decode cX5_inverse 25 = .ok (.invokevirtual 139, 3) := by decide +kernel
theorem dX5_inverse_28 : decode cX5_inverse 28 = .ok (.aload_n 0, 1) := by decide +kernel
theorem dX5_inverse_29 : decode cX5_inverse 29 = .ok (.getfield 48, 3) := by decide +kernel
theorem dX5_inverse_32 : decode cX5_inverse 32 = .ok (.aload_n 0, 1) := by decide +kernel
theorem dX5_inverse_33 : decode cX5_inverse 33 = .ok (.getfield 11, 3) := by decide +kernel
theorem dX5_inverse_36 : decode cX5_inverse 36 = .ok (.iload_n 1, 1) := by decide +kernel
theorem dX5_inverse_37 : decode cX5_inverse 37 = .ok (.aaload, 1) := by decide +kernel
theorem dX5_inverse_38 : decode cX5_inverse 38 = .ok (.invokevirtual 142, 3) := by decide +kernel
theorem dX5_inverse_41 : decode cX5_inverse 41 = .ok (.aload_n 0, 1) := by decide +kernel
theorem dX5_inverse_42 : decode cX5_inverse 42 = .ok (.iload_n 2, 1) := by decide +kernel
theorem dX5_inverse_43 : decode cX5_inverse 43 = .ok (.invokevirtual 133, 3) := by decide +kernel
theorem dX5_inverse_46 : decode cX5_inverse 46 = .ok (.ireturn, 1) := by decide +kernel
theorem dX5_power_0 : decode cX5_power 0 = .ok (.iload_n 1, 1) := by decide +kernel
theorem dX5_power_1 : decode cX5_power 1 = .ok (.invokestatic 81, 3) := by decide +kernel
theorem dX5_power_4 : decode cX5_power 4 = .ok (.ifCond .eq 22, 3) := by decide +kernel
theorem dX5_power_7 : decode cX5_power 7 = .ok (.iload_n 2, 1) := by decide +kernel
theorem dX5_power_8 : decode cX5_power 8 = .ok (.bipush (-9), 2) := by decide +kernel
theorem dX5_power_10 : decode cX5_power 10 = .ok (.if_icmp .lt 16, 3) := by decide +kernel
theorem dX5_power_13 : decode cX5_power 13 = .ok (.iload_n 2, 1) := by decide +kernel
theorem dX5_power_14 : decode cX5_power 14 = .ok (.bipush 9, 2) := by decide +kernel
theorem dX5_power_16 : decode cX5_power 16 = .ok (.if_icmp .gt 10, 3) := by decide +kernel
theorem dX5_power_19 : decode cX5_power 19 = .ok (.iload_n 3, 1) := by decide +kernel
theorem dX5_power_20 : decode cX5_power 20 = .ok (.invokestatic 81, 3) := by decide +kernel
theorem dX5_power_23 : decode cX5_power 23 = .ok (.ifCond .ne 10, 3) := by decide +kernel
theorem dX5_power_26 : decode cX5_power 26 = .ok (.aload_n 0, 1) := by decide +kernel
theorem dX5_power_27 : decode cX5_power 27 = .ok (.bipush (-2), 2) := by decide +kernel
theorem dX5_power_29 : decode cX5_power 29 = .ok (.invokevirtual 58, 3) := by decide +kernel
theorem dX5_power_32 : decode cX5_power 32 = .ok (.ireturn, 1) := by decide +kernel
theorem dX5_power_33 : decode cX5_power 33 = .ok (.aload_n 0, 1) := by decide +kernel
theorem dX5_power_34 : decode cX5_power 34 = .ok (.iload_n 1, 1) := by decide +kernel
theorem dX5_power_35 : decode cX5_power 35 = .ok (.iload_n 2, 1) := by decide +kernel
theorem dX5_power_36 : decode cX5_power 36 = .ok (.invokevirtual 145, 3) := by decide +kernel
theorem dX5_power_39 : decode cX5_power 39 = .ok (.aload_n 0, 1) := by decide +kernel
theorem dX5_power_40 : decode cX5_power 40 = .ok (.iload_n 3, 1) := by decide +kernel
theorem dX5_power_41 : decode cX5_power 41 = .ok (.invokevirtual 133, 3) := by decide +kernel
theorem dX5_power_44 : decode cX5_power 44 = .ok (.ireturn, 1) := by decide +kernel
theorem dX5_ring_0 : decode cX5_ring 0 = .ok (.iload_n 1, 1) := by decide +kernel
theorem dX5_ring_1 : decode cX5_ring 1 = .ok (.invokestatic 81, 3) := by decide +kernel
theorem dX5_ring_4 : decode cX5_ring 4 = .ok (.ifCond .eq 10, 3) := by decide +kernel
theorem dX5_ring_7 : decode cX5_ring 7 = .ok (.iload_n 2, 1) := by decide +kernel
theorem dX5_ring_8 : decode cX5_ring 8 = .ok (.invokestatic 81, 3) := by decide +kernel
theorem dX5_ring_11 : decode cX5_ring 11 = .ok (.ifCond .ne 10, 3) := by decide +kernel
theorem dX5_ring_14 : decode cX5_ring 14 = .ok (.aload_n 0, 1) := by decide +kernel
theorem dX5_ring_15 : decode cX5_ring 15 = .ok (.bipush (-2), 2) := by decide +kernel
theorem dX5_ring_17 : decode cX5_ring 17 = .ok (.invokevirtual 58, 3) := by decide +kernel
theorem dX5_ring_20 : decode cX5_ring 20 = .ok (.ireturn, 1) := by decide +kernel
theorem dX5_ring_21 : decode cX5_ring 21 = .ok (.aload_n 0, 1) := by decide +kernel
theorem dX5_ring_22 : decode cX5_ring 22 = .ok (.getfield 48, 3) := by decide +kernel
theorem dX5_ring_25 : decode cX5_ring 25 = .ok (.aload_n 0, 1) := by decide +kernel
theorem dX5_ring_26 : decode cX5_ring 26 = .ok (.getfield 11, 3) := by decide +kernel
theorem dX5_ring_29 : decode cX5_ring 29 = .ok (.iload_n 1, 1) := by decide +kernel
theorem dX5_ring_30 : decode cX5_ring 30 = .ok (.aaload, 1) := by decide +kernel
theorem dX5_ring_31 : decode cX5_ring 31 = .ok (.invokevirtual 87, 3) := by decide +kernel
theorem dX5_ring_34 : decode cX5_ring 34 = .ok (.aload_n 0, 1) := by decide +kernel
theorem dX5_ring_35 : decode cX5_ring 35 = .ok (.getfield 48, 3) := by decide +kernel
theorem dX5_ring_38 : decode cX5_ring 38 = .ok (.invokevirtual 149, 3) := by decide +kernel
theorem dX5_ring_41 : decode cX5_ring 41 = .ok (.aload_n 0, 1) := by decide +kernel
theorem dX5_ring_42 : decode cX5_ring 42 = .ok (.iload_n 2, 1) := by decide +kernel
theorem dX5_ring_43 : decode cX5_ring 43 = .ok (.invokevirtual 133, 3) := by decide +kernel
theorem dX5_ring_46 : decode cX5_ring 46 = .ok (.ireturn, 1) := by decide +kernel
theorem dX5_turn_0 : decode cX5_turn 0 = .ok (.iload_n 1, 1) := by decide +kernel
theorem dX5_turn_1 : decode cX5_turn 1 = .ok (.invokestatic 81, 3) := by decide +kernel
theorem dX5_turn_4 : decode cX5_turn 4 = .ok (.ifCond .eq 20, 3) := by decide +kernel
theorem dX5_turn_7 : decode cX5_turn 7 = .ok (.iload_n 2, 1) := by decide +kernel
theorem dX5_turn_8 : decode cX5_turn 8 = .ok (.ifCond .lt 16, 3) := by decide +kernel
theorem dX5_turn_11 : decode cX5_turn 11 = .ok (.iload_n 2, 1) := by decide +kernel
theorem dX5_turn_12 : decode cX5_turn 12 = .ok (.bipush 60, 2) := by decide +kernel
theorem dX5_turn_14 : decode cX5_turn 14 = .ok (.if_icmp .ge 10, 3) := by decide +kernel
theorem dX5_turn_17 : decode cX5_turn 17 = .ok (.iload_n 3, 1) := by decide +kernel
theorem dX5_turn_18 : decode cX5_turn 18 = .ok (.invokestatic 81, 3) := by decide +kernel
theorem dX5_turn_21 : decode cX5_turn 21 = .ok (.ifCond .ne 10, 3) := by decide +kernel
theorem dX5_turn_24 : decode cX5_turn 24 = .ok (.aload_n 0, 1) := by decide +kernel
theorem dX5_turn_25 : decode cX5_turn 25 = .ok (.bipush (-2), 2) := by decide +kernel
theorem dX5_turn_27 : decode cX5_turn 27 = .ok (.invokevirtual 58, 3) := by decide +kernel
theorem dX5_turn_30 : decode cX5_turn 30 = .ok (.ireturn, 1) := by decide +kernel
theorem dX5_turn_31 : decode cX5_turn 31 = .ok (.aload_n 0, 1) := by decide +kernel
theorem dX5_turn_32 : decode cX5_turn 32 = .ok (.getfield 11, 3) := by decide +kernel
theorem dX5_turn_35 : decode cX5_turn 35 = .ok (.iload_n 1, 1) := by decide +kernel
theorem dX5_turn_36 : decode cX5_turn 36 = .ok (.aaload, 1) := by decide +kernel
theorem dX5_turn_37 : decode cX5_turn 37 = .ok (.getfield 100, 3) := by decide +kernel
theorem dX5_turn_40 : decode cX5_turn 40 = .ok (.iload_n 2, 1) := by decide +kernel
theorem dX5_turn_41 : decode cX5_turn 41 = .ok (.if_icmp .gt 10, 3) := by decide +kernel
theorem dX5_turn_44 : decode cX5_turn 44 = .ok (.aload_n 0, 1) := by decide +kernel
theorem dX5_turn_45 : decode cX5_turn 45 = .ok (.bipush (-3), 2) := by decide +kernel
theorem dX5_turn_47 : decode cX5_turn 47 = .ok (.invokevirtual 58, 3) := by decide +kernel
theorem dX5_turn_50 : decode cX5_turn 50 = .ok (.ireturn, 1) := by decide +kernel
theorem dX5_turn_51 : decode cX5_turn 51 = .ok (.aload_n 0, 1) := by decide +kernel
theorem dX5_turn_52 : decode cX5_turn 52 = .ok (.getfield 48, 3) := by decide +kernel
theorem dX5_turn_55 : decode cX5_turn 55 = .ok (.invokevirtual 139, 3) := by decide +kernel
theorem dX5_turn_58 : decode cX5_turn 58 = .ok (.aload_n 0, 1) := by decide +kernel
theorem dX5_turn_59 : decode cX5_turn 59 = .ok (.getfield 48, 3) := by decide +kernel
theorem dX5_turn_62 : decode cX5_turn 62 = .ok (.aload_n 0, 1) := by decide +kernel
theorem dX5_turn_63 : decode cX5_turn 63 = .ok (.getfield 11, 3) := by decide +kernel
theorem dX5_turn_66 : decode cX5_turn 66 = .ok (.iload_n 1, 1) := by decide +kernel
theorem dX5_turn_67 : decode cX5_turn 67 = .ok (.aaload, 1) := by decide +kernel
theorem dX5_turn_68 : decode cX5_turn 68 = .ok (.iload_n 2, 1) := by decide +kernel
theorem dX5_turn_69 : decode cX5_turn 69 = .ok (.invokevirtual 152, 3) := by decide +kernel
theorem dX5_turn_72 : decode cX5_turn 72 = .ok (.aload_n 0, 1) := by decide +kernel
theorem dX5_turn_73 : decode cX5_turn 73 = .ok (.iload_n 3, 1) := by decide +kernel
theorem dX5_turn_74 : decode cX5_turn 74 = .ok (.invokevirtual 133, 3) := by decide +kernel
theorem dX5_turn_77 : decode cX5_turn 77 = .ok (.ireturn, 1) := by decide +kernel
theorem dX5_sum_0 : decode cX5_sum 0 = .ok (.iload_n 1, 1) := by decide +kernel
theorem dX5_sum_1 : decode cX5_sum 1 = .ok (.invokestatic 81, 3) := by decide +kernel
theorem dX5_sum_4 : decode cX5_sum 4 = .ok (.ifCond .eq 12, 3) := by decide +kernel
theorem dX5_sum_7 : decode cX5_sum 7 = .ok (.iload_n 2, 1) := by decide +kernel
theorem dX5_sum_8 : decode cX5_sum 8 = .ok (.ifCond .lt 8, 3) := by decide +kernel
theorem dX5_sum_11 : decode cX5_sum 11 = .ok (.iload_n 2, 1) := by decide +kernel
theorem dX5_sum_12 : decode cX5_sum 12 = .ok (.iconst 4, 1) := by decide +kernel
theorem dX5_sum_13 : decode cX5_sum 13 = .ok (.if_icmp .lt 10, 3) := by decide +kernel
theorem dX5_sum_16 : decode cX5_sum 16 = .ok (.aload_n 0, 1) := by decide +kernel
theorem dX5_sum_17 : decode cX5_sum 17 = .ok (.bipush (-2), 2) := by decide +kernel
theorem dX5_sum_19 : decode cX5_sum 19 = .ok (.invokevirtual 58, 3) := by decide +kernel
theorem dX5_sum_22 : decode cX5_sum 22 = .ok (.ireturn, 1) := by decide +kernel
theorem dX5_sum_23 : decode cX5_sum 23 = .ok (.aload_n 0, 1) := by decide +kernel
theorem dX5_sum_24 : decode cX5_sum 24 = .ok (.getfield 11, 3) := by decide +kernel
theorem dX5_sum_27 : decode cX5_sum 27 = .ok (.iload_n 1, 1) := by decide +kernel
theorem dX5_sum_28 : decode cX5_sum 28 = .ok (.aaload, 1) := by decide +kernel
theorem dX5_sum_29 : decode cX5_sum 29 = .ok (.iload_n 2, 1) := by decide +kernel
theorem dX5_sum_30 : decode cX5_sum 30 = .ok (.invokevirtual 156, 3) := by decide +kernel
theorem dX5_sum_33 : decode cX5_sum 33 = .ok (.ireturn, 1) := by decide +kernel
theorem dX5_cuts_0 : decode cX5_cuts 0 = .ok (.iload_n 1, 1) := by decide +kernel
theorem dX5_cuts_1 : decode cX5_cuts 1 = .ok (.invokestatic 81, 3) := by decide +kernel
theorem dX5_cuts_4 : decode cX5_cuts 4 = .ok (.ifCond .eq 19, 3) := by decide +kernel
theorem dX5_cuts_7 : decode cX5_cuts 7 = .ok (.aload_n 0, 1) := by decide +kernel
theorem dX5_cuts_8 : decode cX5_cuts 8 = .ok (.getfield 44, 3) := by decide +kernel
theorem dX5_cuts_11 : decode cX5_cuts 11 = .ok (.aload_n 0, 1) := by decide +kernel
theorem dX5_cuts_12 : decode cX5_cuts 12 = .ok (.getfield 11, 3) := by decide +kernel
theorem dX5_cuts_15 : decode cX5_cuts 15 = .ok (.iload_n 1, 1) := by decide +kernel
theorem dX5_cuts_16 : decode cX5_cuts 16 = .ok (.aaload, 1) := by decide +kernel
theorem dX5_cuts_17 : decode cX5_cuts 17 = .ok (.invokevirtual 159, 3) := by decide +kernel
theorem dX5_cuts_20 : decode cX5_cuts 20 = .ok (.goto 9, 3) := by decide +kernel
theorem dX5_cuts_23 : decode cX5_cuts 23 = .ok (.aload_n 0, 1) := by decide +kernel
theorem dX5_cuts_24 : decode cX5_cuts 24 = .ok (.bipush (-2), 2) := by decide +kernel
theorem dX5_cuts_26 : decode cX5_cuts 26 = .ok (.invokevirtual 58, 3) := by decide +kernel
theorem dX5_cuts_29 : decode cX5_cuts 29 = .ok (.ireturn, 1) := by decide +kernel
theorem dX5_cut_0 : decode cX5_cut 0 = .ok (.iload_n 1, 1) := by decide +kernel
theorem dX5_cut_1 : decode cX5_cut 1 = .ok (.invokestatic 81, 3) := by decide +kernel
theorem dX5_cut_4 : decode cX5_cut 4 = .ok (.ifCond .ne 10, 3) := by decide +kernel
theorem dX5_cut_7 : decode cX5_cut 7 = .ok (.aload_n 0, 1) := by decide +kernel
theorem dX5_cut_8 : decode cX5_cut 8 = .ok (.bipush (-2), 2) := by decide +kernel
theorem dX5_cut_10 : decode cX5_cut 10 = .ok (.invokevirtual 58, 3) := by decide +kernel
theorem dX5_cut_13 : decode cX5_cut 13 = .ok (.ireturn, 1) := by decide +kernel
theorem dX5_cut_14 : decode cX5_cut 14 = .ok (.aload_n 0, 1) := by decide +kernel
theorem dX5_cut_15 : decode cX5_cut 15 = .ok (.getfield 44, 3) := by decide +kernel
theorem dX5_cut_18 : decode cX5_cut 18 = .ok (.aload_n 0, 1) := by decide +kernel
theorem dX5_cut_19 : decode cX5_cut 19 = .ok (.getfield 11, 3) := by decide +kernel
theorem dX5_cut_22 : decode cX5_cut 22 = .ok (.iload_n 1, 1) := by decide +kernel
theorem dX5_cut_23 : decode cX5_cut 23 = .ok (.aaload, 1) := by decide +kernel
theorem dX5_cut_24 : decode cX5_cut 24 = .ok (.invokevirtual 159, 3) := by decide +kernel
theorem dX5_cut_27 : decode cX5_cut 27 = .ok (.ifCond .ne 10, 3) := by decide +kernel
theorem dX5_cut_30 : decode cX5_cut 30 = .ok (.aload_n 0, 1) := by decide +kernel
theorem dX5_cut_31 : decode cX5_cut 31 = .ok (.bipush (-3), 2) := by decide +kernel
theorem dX5_cut_33 : decode cX5_cut 33 = .ok (.invokevirtual 58, 3) := by decide +kernel
theorem dX5_cut_36 : decode cX5_cut 36 = .ok (.ireturn, 1) := by decide +kernel
theorem dX5_cut_37 : decode cX5_cut 37 = .ok (.aload_n 0, 1) := by decide +kernel
theorem dX5_cut_38 : decode cX5_cut 38 = .ok (.getfield 44, 3) := by decide +kernel
theorem dX5_cut_41 : decode cX5_cut 41 = .ok (.aload_n 0, 1) := by decide +kernel
theorem dX5_cut_42 : decode cX5_cut 42 = .ok (.getfield 11, 3) := by decide +kernel
theorem dX5_cut_45 : decode cX5_cut 45 = .ok (.iload_n 1, 1) := by decide +kernel
theorem dX5_cut_46 : decode cX5_cut 46 = .ok (.aaload, 1) := by decide +kernel
theorem dX5_cut_47 : decode cX5_cut 47 = .ok (.invokevirtual 163, 3) := by decide +kernel
theorem dX5_cut_50 : decode cX5_cut 50 = .ok (.aload_n 0, 1) := by decide +kernel
theorem dX5_cut_51 : decode cX5_cut 51 = .ok (.getfield 11, 3) := by decide +kernel
theorem dX5_cut_54 : decode cX5_cut 54 = .ok (.iload_n 1, 1) := by decide +kernel
theorem dX5_cut_55 : decode cX5_cut 55 = .ok (.aaload, 1) := by decide +kernel
theorem dX5_cut_56 : decode cX5_cut 56 = .ok (.getfield 100, 3) := by decide +kernel
theorem dX5_cut_59 : decode cX5_cut 59 = .ok (.ireturn, 1) := by decide +kernel
theorem dX5_shorten_0 : decode cX5_shorten 0 = .ok (.iload_n 1, 1) := by decide +kernel
theorem dX5_shorten_1 : decode cX5_shorten 1 = .ok (.invokestatic 81, 3) := by decide +kernel
theorem dX5_shorten_4 : decode cX5_shorten 4 = .ok (.ifCond .eq 19, 3) := by decide +kernel
theorem dX5_shorten_7 : decode cX5_shorten 7 = .ok (.aload_n 0, 1) := by decide +kernel
theorem dX5_shorten_8 : decode cX5_shorten 8 = .ok (.getfield 44, 3) := by decide +kernel
theorem dX5_shorten_11 : decode cX5_shorten 11 = .ok (.aload_n 0, 1) := by decide +kernel
theorem dX5_shorten_12 : decode cX5_shorten 12 = .ok (.getfield 11, 3) := by decide +kernel
theorem dX5_shorten_15 : decode cX5_shorten 15 = .ok (.iload_n 1, 1) := by decide +kernel
theorem dX5_shorten_16 : decode cX5_shorten 16 = .ok (.aaload, 1) := by decide +kernel
theorem dX5_shorten_17 : decode cX5_shorten 17 = .ok (.invokevirtual 166, 3) := by decide +kernel
theorem dX5_shorten_20 : decode cX5_shorten 20 = .ok (.goto 9, 3) := by decide +kernel
theorem dX5_shorten_23 : decode cX5_shorten 23 = .ok (.aload_n 0, 1) := by decide +kernel
theorem dX5_shorten_24 : decode cX5_shorten 24 = .ok (.bipush (-2), 2) := by decide +kernel
theorem dX5_shorten_26 : decode cX5_shorten 26 = .ok (.invokevirtual 58, 3) := by decide +kernel
theorem dX5_shorten_29 : decode cX5_shorten 29 = .ok (.ireturn, 1) := by decide +kernel
theorem dX5_trail_0 : decode cX5_trail 0 = .ok (.iload_n 1, 1) := by decide +kernel
theorem dX5_trail_1 : decode cX5_trail 1 = .ok (.invokestatic 81, 3) := by decide +kernel
theorem dX5_trail_4 : decode cX5_trail 4 = .ok (.ifCond .eq 16, 3) := by decide +kernel
theorem dX5_trail_7 : decode cX5_trail 7 = .ok (.iload_n 2, 1) := by decide +kernel
theorem dX5_trail_8 : decode cX5_trail 8 = .ok (.ifCond .lt 12, 3) := by decide +kernel
theorem dX5_trail_11 : decode cX5_trail 11 = .ok (.iload_n 3, 1) := by decide +kernel
theorem dX5_trail_12 : decode cX5_trail 12 = .ok (.ifCond .lt 8, 3) := by decide +kernel
theorem dX5_trail_15 : decode cX5_trail 15 = .ok (.iload_n 3, 1) := by decide +kernel
theorem dX5_trail_16 : decode cX5_trail 16 = .ok (.iconst 3, 1) := by decide +kernel
theorem dX5_trail_17 : decode cX5_trail 17 = .ok (.if_icmp .le 10, 3) := by decide +kernel
theorem dX5_trail_20 : decode cX5_trail 20 = .ok (.aload_n 0, 1) := by decide +kernel
theorem dX5_trail_21 : decode cX5_trail 21 = .ok (.bipush (-2), 2) := by decide +kernel
theorem dX5_trail_23 : decode cX5_trail 23 = .ok (.invokevirtual 58, 3) := by decide +kernel
theorem dX5_trail_26 : decode cX5_trail 26 = .ok (.ireturn, 1) := by decide +kernel
theorem dX5_trail_27 : decode cX5_trail 27 = .ok (.aload_n 0, 1) := by decide +kernel
theorem dX5_trail_28 : decode cX5_trail 28 = .ok (.getfield 48, 3) := by decide +kernel
theorem dX5_trail_31 : decode cX5_trail 31 = .ok (.aload_n 0, 1) := by decide +kernel
theorem dX5_trail_32 : decode cX5_trail 32 = .ok (.getfield 11, 3) := by decide +kernel
theorem dX5_trail_35 : decode cX5_trail 35 = .ok (.iload_n 1, 1) := by decide +kernel
theorem dX5_trail_36 : decode cX5_trail 36 = .ok (.aaload, 1) := by decide +kernel
theorem dX5_trail_37 : decode cX5_trail 37 = .ok (.invokevirtual 87, 3) := by decide +kernel
theorem dX5_trail_40 : decode cX5_trail 40 = .ok (.aload_n 0, 1) := by decide +kernel
theorem dX5_trail_41 : decode cX5_trail 41 = .ok (.getfield 44, 3) := by decide +kernel
theorem dX5_trail_44 : decode cX5_trail 44 = .ok (.aload_n 0, 1) := by decide +kernel
theorem dX5_trail_45 : decode cX5_trail 45 = .ok (.getfield 48, 3) := by decide +kernel
theorem dX5_trail_48 : decode cX5_trail 48 = .ok (.iload_n 2, 1) := by decide +kernel
theorem dX5_trail_49 : decode cX5_trail 49 = .ok (.invokevirtual 169, 3) := by decide +kernel
theorem dX5_trail_52 : decode cX5_trail 52 = .ok (.ifCond .ne 5, 3) := by decide +kernel
theorem dX5_trail_55 : decode cX5_trail 55 = .ok (.iconst (-1), 1) := by decide +kernel
theorem dX5_trail_56 : decode cX5_trail 56 = .ok (.ireturn, 1) := by decide +kernel
theorem dX5_trail_57 : decode cX5_trail 57 = .ok (.iload_n 3, 1) := by decide +kernel
theorem dX5_trail_58 : decode cX5_trail 58 = .ok (.tableswitch 50 0 2 #[26, 34, 42], 26) := by decide +kernel
theorem dX5_trail_84 : decode cX5_trail 84 = .ok (.aload_n 0, 1) := by decide +kernel
theorem dX5_trail_85 : decode cX5_trail 85 = .ok (.getfield 44, 3) := by decide +kernel
theorem dX5_trail_88 : decode cX5_trail 88 = .ok (.getfield 173, 3) := by decide +kernel
theorem dX5_trail_91 : decode cX5_trail 91 = .ok (.ireturn, 1) := by decide +kernel
theorem dX5_trail_92 : decode cX5_trail 92 = .ok (.aload_n 0, 1) := by decide +kernel
theorem dX5_trail_93 : decode cX5_trail 93 = .ok (.getfield 44, 3) := by decide +kernel
theorem dX5_trail_96 : decode cX5_trail 96 = .ok (.getfield 176, 3) := by decide +kernel
theorem dX5_trail_99 : decode cX5_trail 99 = .ok (.ireturn, 1) := by decide +kernel
theorem dX5_trail_100 : decode cX5_trail 100 = .ok (.aload_n 0, 1) := by decide +kernel
theorem dX5_trail_101 : decode cX5_trail 101 = .ok (.getfield 44, 3) := by decide +kernel
theorem dX5_trail_104 : decode cX5_trail 104 = .ok (.getfield 179, 3) := by decide +kernel
theorem dX5_trail_107 : decode cX5_trail 107 = .ok (.ireturn, 1) := by decide +kernel
theorem dX5_trail_108 : decode cX5_trail 108 = .ok (.aload_n 0, 1) := by decide +kernel
theorem dX5_trail_109 : decode cX5_trail 109 = .ok (.getfield 48, 3) := by decide +kernel
theorem dX5_trail_112 : decode cX5_trail 112 = .ok (.getfield 100, 3) := by decide +kernel
theorem dX5_trail_115 : decode cX5_trail 115 = .ok (.ireturn, 1) := by decide +kernel
theorem dX5_nothing_0 : decode cX5_nothing 0 = .ok (.iload_n 1, 1) := by decide +kernel
theorem dX5_nothing_1 : decode cX5_nothing 1 = .ok (.invokestatic 81, 3) := by decide +kernel
theorem dX5_nothing_4 : decode cX5_nothing 4 = .ok (.ifCond .ne 10, 3) := by decide +kernel
theorem dX5_nothing_7 : decode cX5_nothing 7 = .ok (.aload_n 0, 1) := by decide +kernel
theorem dX5_nothing_8 : decode cX5_nothing 8 = .ok (.bipush (-2), 2) := by decide +kernel
theorem dX5_nothing_10 : decode cX5_nothing 10 = .ok (.invokevirtual 58, 3) := by decide +kernel
theorem dX5_nothing_13 : decode cX5_nothing 13 = .ok (.ireturn, 1) := by decide +kernel
theorem dX5_nothing_14 : decode cX5_nothing 14 = .ok (.aload_n 0, 1) := by decide +kernel
theorem dX5_nothing_15 : decode cX5_nothing 15 = .ok (.getfield 35, 3) := by decide +kernel
theorem dX5_nothing_18 : decode cX5_nothing 18 = .ok (.bipush 6, 2) := by decide +kernel
theorem dX5_nothing_20 : decode cX5_nothing 20 = .ok (.invokevirtual 118, 3) := by decide +kernel
theorem dX5_nothing_23 : decode cX5_nothing 23 = .ok (.ifCond .ne 10, 3) := by decide +kernel
theorem dX5_nothing_26 : decode cX5_nothing 26 = .ok (.aload_n 0, 1) := by decide +kernel
theorem dX5_nothing_27 : decode cX5_nothing 27 = .ok (.bipush (-3), 2) := by decide +kernel
theorem dX5_nothing_29 : decode cX5_nothing 29 = .ok (.invokevirtual 58, 3) := by decide +kernel
theorem dX5_nothing_32 : decode cX5_nothing 32 = .ok (.ireturn, 1) := by decide +kernel
theorem dX5_nothing_33 : decode cX5_nothing 33 = .ok (.aload_n 0, 1) := by decide +kernel
theorem dX5_nothing_34 : decode cX5_nothing 34 = .ok (.getfield 48, 3) := by decide +kernel
theorem dX5_nothing_37 : decode cX5_nothing 37 = .ok (.aload_n 0, 1) := by decide +kernel
theorem dX5_nothing_38 : decode cX5_nothing 38 = .ok (.getfield 11, 3) := by decide +kernel
theorem dX5_nothing_41 : decode cX5_nothing 41 = .ok (.iload_n 1, 1) := by decide +kernel
theorem dX5_nothing_42 : decode cX5_nothing 42 = .ok (.aaload, 1) := by decide +kernel
theorem dX5_nothing_43 : decode cX5_nothing 43 = .ok (.invokevirtual 87, 3) := by decide +kernel
theorem dX5_nothing_46 : decode cX5_nothing 46 = .ok (.aload_n 0, 1) := by decide +kernel
theorem dX5_nothing_47 : decode cX5_nothing 47 = .ok (.getfield 44, 3) := by decide +kernel
theorem dX5_nothing_50 : decode cX5_nothing 50 = .ok (.aload_n 0, 1) := by decide +kernel
theorem dX5_nothing_51 : decode cX5_nothing 51 = .ok (.getfield 48, 3) := by decide +kernel
theorem dX5_nothing_54 : decode cX5_nothing 54 = .ok (.invokevirtual 166, 3) := by decide +kernel
theorem dX5_nothing_57 : decode cX5_nothing 57 = .ok (.pop, 1) := by decide +kernel
theorem dX5_nothing_58 : decode cX5_nothing 58 = .ok (.aload_n 0, 1) := by decide +kernel
theorem dX5_nothing_59 : decode cX5_nothing 59 = .ok (.getfield 48, 3) := by decide +kernel
theorem dX5_nothing_62 : decode cX5_nothing 62 = .ok (.getfield 100, 3) := by decide +kernel
theorem dX5_nothing_65 : decode cX5_nothing 65 = .ok (.ifCond .ne 7, 3) := by decide +kernel
theorem dX5_nothing_68 : decode cX5_nothing 68 = .ok (.iconst 1, 1) := by decide +kernel
theorem dX5_nothing_69 : decode cX5_nothing 69 = .ok (.goto 4, 3) := by decide +kernel
theorem dX5_nothing_72 : decode cX5_nothing 72 = .ok (.iconst 0, 1) := by decide +kernel
theorem dX5_nothing_73 : decode cX5_nothing 73 = .ok (.ireturn, 1) := by decide +kernel
theorem dX5_same_0 : decode cX5_same 0 = .ok (.iload_n 1, 1) := by decide +kernel
theorem dX5_same_1 : decode cX5_same 1 = .ok (.invokestatic 81, 3) := by decide +kernel
theorem dX5_same_4 : decode cX5_same 4 = .ok (.ifCond .eq 10, 3) := by decide +kernel
theorem dX5_same_7 : decode cX5_same 7 = .ok (.iload_n 2, 1) := by decide +kernel
theorem dX5_same_8 : decode cX5_same 8 = .ok (.invokestatic 81, 3) := by decide +kernel
theorem dX5_same_11 : decode cX5_same 11 = .ok (.ifCond .ne 10, 3) := by decide +kernel
theorem dX5_same_14 : decode cX5_same 14 = .ok (.aload_n 0, 1) := by decide +kernel
theorem dX5_same_15 : decode cX5_same 15 = .ok (.bipush (-2), 2) := by decide +kernel
theorem dX5_same_17 : decode cX5_same 17 = .ok (.invokevirtual 58, 3) := by decide +kernel
theorem dX5_same_20 : decode cX5_same 20 = .ok (.ireturn, 1) := by decide +kernel
theorem dX5_same_21 : decode cX5_same 21 = .ok (.aload_n 0, 1) := by decide +kernel
theorem dX5_same_22 : decode cX5_same 22 = .ok (.getfield 35, 3) := by decide +kernel
theorem dX5_same_25 : decode cX5_same 25 = .ok (.bipush 6, 2) := by decide +kernel
theorem dX5_same_27 : decode cX5_same 27 = .ok (.invokevirtual 118, 3) := by decide +kernel
theorem dX5_same_30 : decode cX5_same 30 = .ok (.ifCond .ne 10, 3) := by decide +kernel
theorem dX5_same_33 : decode cX5_same 33 = .ok (.aload_n 0, 1) := by decide +kernel
theorem dX5_same_34 : decode cX5_same 34 = .ok (.bipush (-3), 2) := by decide +kernel
theorem dX5_same_36 : decode cX5_same 36 = .ok (.invokevirtual 58, 3) := by decide +kernel
theorem dX5_same_39 : decode cX5_same 39 = .ok (.ireturn, 1) := by decide +kernel
theorem dX5_same_40 : decode cX5_same 40 = .ok (.aload_n 0, 1) := by decide +kernel
theorem dX5_same_41 : decode cX5_same 41 = .ok (.getfield 48, 3) := by decide +kernel
theorem dX5_same_44 : decode cX5_same 44 = .ok (.aload_n 0, 1) := by decide +kernel
theorem dX5_same_45 : decode cX5_same 45 = .ok (.getfield 11, 3) := by decide +kernel
theorem dX5_same_48 : decode cX5_same 48 = .ok (.iload_n 1, 1) := by decide +kernel
theorem dX5_same_49 : decode cX5_same 49 = .ok (.aaload, 1) := by decide +kernel
theorem dX5_same_50 : decode cX5_same 50 = .ok (.invokevirtual 87, 3) := by decide +kernel
theorem dX5_same_53 : decode cX5_same 53 = .ok (.aload_n 0, 1) := by decide +kernel
theorem dX5_same_54 : decode cX5_same 54 = .ok (.getfield 48, 3) := by decide +kernel
theorem dX5_same_57 : decode cX5_same 57 = .ok (.aload_n 0, 1) := by decide +kernel
theorem dX5_same_58 : decode cX5_same 58 = .ok (.getfield 11, 3) := by decide +kernel
theorem dX5_same_61 : decode cX5_same 61 = .ok (.iload_n 2, 1) := by decide +kernel
theorem dX5_same_62 : decode cX5_same 62 = .ok (.aaload, 1) := by decide +kernel
theorem dX5_same_63 : decode cX5_same 63 = .ok (.invokevirtual 142, 3) := by decide +kernel
theorem dX5_same_66 : decode cX5_same 66 = .ok (.aload_n 0, 1) := by decide +kernel
theorem dX5_same_67 : decode cX5_same 67 = .ok (.getfield 48, 3) := by decide +kernel
theorem dX5_same_70 : decode cX5_same 70 = .ok (.getfield 100, 3) := by decide +kernel
theorem dX5_same_73 : decode cX5_same 73 = .ok (.bipush 60, 2) := by decide +kernel
theorem dX5_same_75 : decode cX5_same 75 = .ok (.if_icmp .le 10, 3) := by decide +kernel
theorem dX5_same_78 : decode cX5_same 78 = .ok (.aload_n 0, 1) := by decide +kernel
theorem dX5_same_79 : decode cX5_same 79 = .ok (.bipush (-4), 2) := by decide +kernel
theorem dX5_same_81 : decode cX5_same 81 = .ok (.invokevirtual 58, 3) := by decide +kernel
theorem dX5_same_84 : decode cX5_same 84 = .ok (.ireturn, 1) := by decide +kernel
theorem dX5_same_85 : decode cX5_same 85 = .ok (.aload_n 0, 1) := by decide +kernel
theorem dX5_same_86 : decode cX5_same 86 = .ok (.getfield 44, 3) := by decide +kernel
theorem dX5_same_89 : decode cX5_same 89 = .ok (.aload_n 0, 1) := by decide +kernel
theorem dX5_same_90 : decode cX5_same 90 = .ok (.getfield 48, 3) := by decide +kernel
theorem dX5_same_93 : decode cX5_same 93 = .ok (.invokevirtual 166, 3) := by decide +kernel
theorem dX5_same_96 : decode cX5_same 96 = .ok (.pop, 1) := by decide +kernel
theorem dX5_same_97 : decode cX5_same 97 = .ok (.aload_n 0, 1) := by decide +kernel
theorem dX5_same_98 : decode cX5_same 98 = .ok (.getfield 48, 3) := by decide +kernel
theorem dX5_same_101 : decode cX5_same 101 = .ok (.getfield 100, 3) := by decide +kernel
theorem dX5_same_104 : decode cX5_same 104 = .ok (.ifCond .ne 7, 3) := by decide +kernel
theorem dX5_same_107 : decode cX5_same 107 = .ok (.iconst 1, 1) := by decide +kernel
theorem dX5_same_108 : decode cX5_same 108 = .ok (.goto 4, 3) := by decide +kernel
theorem dX5_same_111 : decode cX5_same 111 = .ok (.iconst 0, 1) := by decide +kernel
theorem dX5_same_112 : decode cX5_same 112 = .ok (.ireturn, 1) := by decide +kernel
theorem dX5_order_0 : decode cX5_order 0 = .ok (.iload_n 1, 1) := by decide +kernel
theorem dX5_order_1 : decode cX5_order 1 = .ok (.invokestatic 81, 3) := by decide +kernel
theorem dX5_order_4 : decode cX5_order 4 = .ok (.ifCond .ne 10, 3) := by decide +kernel
theorem dX5_order_7 : decode cX5_order 7 = .ok (.aload_n 0, 1) := by decide +kernel
theorem dX5_order_8 : decode cX5_order 8 = .ok (.bipush (-2), 2) := by decide +kernel
theorem dX5_order_10 : decode cX5_order 10 = .ok (.invokevirtual 58, 3) := by decide +kernel
theorem dX5_order_13 : decode cX5_order 13 = .ok (.ireturn, 1) := by decide +kernel
theorem dX5_order_14 : decode cX5_order 14 = .ok (.aload_n 0, 1) := by decide +kernel
theorem dX5_order_15 : decode cX5_order 15 = .ok (.getfield 35, 3) := by decide +kernel
theorem dX5_order_18 : decode cX5_order 18 = .ok (.bipush 6, 2) := by decide +kernel
theorem dX5_order_20 : decode cX5_order 20 = .ok (.invokevirtual 118, 3) := by decide +kernel
theorem dX5_order_23 : decode cX5_order 23 = .ok (.ifCond .ne 10, 3) := by decide +kernel
theorem dX5_order_26 : decode cX5_order 26 = .ok (.aload_n 0, 1) := by decide +kernel
theorem dX5_order_27 : decode cX5_order 27 = .ok (.bipush (-3), 2) := by decide +kernel
theorem dX5_order_29 : decode cX5_order 29 = .ok (.invokevirtual 58, 3) := by decide +kernel
theorem dX5_order_32 : decode cX5_order 32 = .ok (.ireturn, 1) := by decide +kernel
theorem dX5_order_33 : decode cX5_order 33 = .ok (.iconst 1, 1) := by decide +kernel
theorem dX5_order_34 : decode cX5_order 34 = .ok (.istore_n 2, 1) := by decide +kernel
theorem dX5_order_35 : decode cX5_order 35 = .ok (.iload_n 2, 1) := by decide +kernel
theorem dX5_order_36 : decode cX5_order 36 = .ok (.bipush 6, 2) := by decide +kernel
theorem dX5_order_38 : decode cX5_order 38 = .ok (.if_icmp .gt 53, 3) := by decide +kernel
theorem dX5_order_41 : decode cX5_order 41 = .ok (.aload_n 0, 1) := by decide +kernel
theorem dX5_order_42 : decode cX5_order 42 = .ok (.iload_n 1, 1) := by decide +kernel
theorem dX5_order_43 : decode cX5_order 43 = .ok (.iload_n 2, 1) := by decide +kernel
theorem dX5_order_44 : decode cX5_order 44 = .ok (.invokevirtual 145, 3) := by decide +kernel
theorem dX5_order_47 : decode cX5_order 47 = .ok (.aload_n 0, 1) := by decide +kernel
theorem dX5_order_48 : decode cX5_order 48 = .ok (.getfield 48, 3) := by decide +kernel
theorem dX5_order_51 : decode cX5_order 51 = .ok (.getfield 100, 3) := by decide +kernel
theorem dX5_order_54 : decode cX5_order 54 = .ok (.bipush 60, 2) := by decide +kernel
theorem dX5_order_56 : decode cX5_order 56 = .ok (.if_icmp .le 5, 3) := by decide +kernel
theorem dX5_order_59 : decode cX5_order 59 = .ok (.iconst (-1), 1) := by decide +kernel
theorem dX5_order_60 : decode cX5_order 60 = .ok (.ireturn, 1) := by decide +kernel
theorem dX5_order_61 : decode cX5_order 61 = .ok (.aload_n 0, 1) := by decide +kernel
theorem dX5_order_62 : decode cX5_order 62 = .ok (.getfield 44, 3) := by decide +kernel
theorem dX5_order_65 : decode cX5_order 65 = .ok (.aload_n 0, 1) := by decide +kernel
theorem dX5_order_66 : decode cX5_order 66 = .ok (.getfield 48, 3) := by decide +kernel
theorem dX5_order_69 : decode cX5_order 69 = .ok (.invokevirtual 166, 3) := by decide +kernel
theorem dX5_order_72 : decode cX5_order 72 = .ok (.pop, 1) := by decide +kernel
theorem dX5_order_73 : decode cX5_order 73 = .ok (.aload_n 0, 1) := by decide +kernel
theorem dX5_order_74 : decode cX5_order 74 = .ok (.getfield 48, 3) := by decide +kernel
theorem dX5_order_77 : decode cX5_order 77 = .ok (.getfield 100, 3) := by decide +kernel
theorem dX5_order_80 : decode cX5_order 80 = .ok (.ifCond .ne 5, 3) := by decide +kernel
theorem dX5_order_83 : decode cX5_order 83 = .ok (.iload_n 2, 1) := by decide +kernel
theorem dX5_order_84 : decode cX5_order 84 = .ok (.ireturn, 1) := by decide +kernel
theorem dX5_order_85 : decode cX5_order 85 = .ok (.iinc 2 1, 3) := by decide +kernel
theorem dX5_order_88 : decode cX5_order 88 = .ok (.goto (-53), 3) := by decide +kernel
theorem dX5_order_91 : decode cX5_order 91 = .ok (.iconst (-1), 1) := by decide +kernel
theorem dX5_order_92 : decode cX5_order 92 = .ok (.ireturn, 1) := by decide +kernel
theorem dX5_turned_0 : decode cX5_turned 0 = .ok (.iload_n 1, 1) := by decide +kernel
theorem dX5_turned_1 : decode cX5_turned 1 = .ok (.invokestatic 81, 3) := by decide +kernel
theorem dX5_turned_4 : decode cX5_turned 4 = .ok (.ifCond .eq 10, 3) := by decide +kernel
theorem dX5_turned_7 : decode cX5_turned 7 = .ok (.iload_n 2, 1) := by decide +kernel
theorem dX5_turned_8 : decode cX5_turned 8 = .ok (.invokestatic 81, 3) := by decide +kernel
theorem dX5_turned_11 : decode cX5_turned 11 = .ok (.ifCond .ne 10, 3) := by decide +kernel
theorem dX5_turned_14 : decode cX5_turned 14 = .ok (.aload_n 0, 1) := by decide +kernel
theorem dX5_turned_15 : decode cX5_turned 15 = .ok (.bipush (-2), 2) := by decide +kernel
theorem dX5_turned_17 : decode cX5_turned 17 = .ok (.invokevirtual 58, 3) := by decide +kernel
theorem dX5_turned_20 : decode cX5_turned 20 = .ok (.ireturn, 1) := by decide +kernel
theorem dX5_turned_21 : decode cX5_turned 21 = .ok (.aload_n 0, 1) := by decide +kernel
theorem dX5_turned_22 : decode cX5_turned 22 = .ok (.getfield 52, 3) := by decide +kernel
theorem dX5_turned_25 : decode cX5_turned 25 = .ok (.aload_n 0, 1) := by decide +kernel
theorem dX5_turned_26 : decode cX5_turned 26 = .ok (.getfield 11, 3) := by decide +kernel
theorem dX5_turned_29 : decode cX5_turned 29 = .ok (.iload_n 1, 1) := by decide +kernel
theorem dX5_turned_30 : decode cX5_turned 30 = .ok (.aaload, 1) := by decide +kernel
theorem dX5_turned_31 : decode cX5_turned 31 = .ok (.invokevirtual 87, 3) := by decide +kernel
theorem dX5_turned_34 : decode cX5_turned 34 = .ok (.aload_n 0, 1) := by decide +kernel
theorem dX5_turned_35 : decode cX5_turned 35 = .ok (.getfield 52, 3) := by decide +kernel
theorem dX5_turned_38 : decode cX5_turned 38 = .ok (.invokevirtual 149, 3) := by decide +kernel
theorem dX5_turned_41 : decode cX5_turned 41 = .ok (.aload_n 0, 1) := by decide +kernel
theorem dX5_turned_42 : decode cX5_turned 42 = .ok (.getfield 55, 3) := by decide +kernel
theorem dX5_turned_45 : decode cX5_turned 45 = .ok (.aload_n 0, 1) := by decide +kernel
theorem dX5_turned_46 : decode cX5_turned 46 = .ok (.getfield 11, 3) := by decide +kernel
theorem dX5_turned_49 : decode cX5_turned 49 = .ok (.iload_n 2, 1) := by decide +kernel
theorem dX5_turned_50 : decode cX5_turned 50 = .ok (.aaload, 1) := by decide +kernel
theorem dX5_turned_51 : decode cX5_turned 51 = .ok (.invokevirtual 87, 3) := by decide +kernel
theorem dX5_turned_54 : decode cX5_turned 54 = .ok (.aload_n 0, 1) := by decide +kernel
theorem dX5_turned_55 : decode cX5_turned 55 = .ok (.getfield 55, 3) := by decide +kernel
theorem dX5_turned_58 : decode cX5_turned 58 = .ok (.invokevirtual 149, 3) := by decide +kernel
theorem dX5_turned_61 : decode cX5_turned 61 = .ok (.aload_n 0, 1) := by decide +kernel
theorem dX5_turned_62 : decode cX5_turned 62 = .ok (.getfield 35, 3) := by decide +kernel
theorem dX5_turned_65 : decode cX5_turned 65 = .ok (.bipush 6, 2) := by decide +kernel
theorem dX5_turned_67 : decode cX5_turned 67 = .ok (.invokevirtual 118, 3) := by decide +kernel
theorem dX5_turned_70 : decode cX5_turned 70 = .ok (.ifCond .eq 27, 3) := by decide +kernel
theorem dX5_turned_73 : decode cX5_turned 73 = .ok (.aload_n 0, 1) := by decide +kernel
theorem dX5_turned_74 : decode cX5_turned 74 = .ok (.getfield 52, 3) := by decide +kernel
theorem dX5_turned_77 : decode cX5_turned 77 = .ok (.getfield 100, 3) := by decide +kernel
theorem dX5_turned_80 : decode cX5_turned 80 = .ok (.bipush 8, 2) := by decide +kernel
theorem dX5_turned_82 : decode cX5_turned 82 = .ok (.if_icmp .gt 15, 3) := by decide +kernel
theorem dX5_turned_85 : decode cX5_turned 85 = .ok (.aload_n 0, 1) := by decide +kernel
theorem dX5_turned_86 : decode cX5_turned 86 = .ok (.getfield 55, 3) := by decide +kernel
theorem dX5_turned_89 : decode cX5_turned 89 = .ok (.getfield 100, 3) := by decide +kernel
theorem dX5_turned_92 : decode cX5_turned 92 = .ok (.bipush 8, 2) := by decide +kernel
theorem dX5_turned_94 : decode cX5_turned 94 = .ok (.if_icmp .le 10, 3) := by decide +kernel
theorem dX5_turned_97 : decode cX5_turned 97 = .ok (.aload_n 0, 1) := by decide +kernel
theorem dX5_turned_98 : decode cX5_turned 98 = .ok (.bipush (-3), 2) := by decide +kernel
theorem dX5_turned_100 : decode cX5_turned 100 = .ok (.invokevirtual 58, 3) := by decide +kernel
theorem dX5_turned_103 : decode cX5_turned 103 = .ok (.ireturn, 1) := by decide +kernel
theorem dX5_turned_104 : decode cX5_turned 104 = .ok (.iconst 1, 1) := by decide +kernel
theorem dX5_turned_105 : decode cX5_turned 105 = .ok (.aload_n 0, 1) := by decide +kernel
theorem dX5_turned_106 : decode cX5_turned 106 = .ok (.getfield 52, 3) := by decide +kernel
theorem dX5_turned_109 : decode cX5_turned 109 = .ok (.getfield 100, 3) := by decide +kernel
theorem dX5_turned_112 : decode cX5_turned 112 = .ok (.invokestatic 182, 3) := by decide +kernel
theorem dX5_turned_115 : decode cX5_turned 115 = .ok (.istore_n 3, 1) := by decide +kernel
theorem dX5_turned_116 : decode cX5_turned 116 = .ok (.iconst 0, 1) := by decide +kernel
theorem dX5_turned_117 : decode cX5_turned 117 = .ok (.istore 4, 2) := by decide +kernel
theorem dX5_turned_119 : decode cX5_turned 119 = .ok (.iload 4, 2) := by decide +kernel
theorem dX5_turned_121 : decode cX5_turned 121 = .ok (.iload_n 3, 1) := by decide +kernel
theorem dX5_turned_122 : decode cX5_turned 122 = .ok (.if_icmp .ge 44, 3) := by decide +kernel
theorem dX5_turned_125 : decode cX5_turned 125 = .ok (.iconst 0, 1) := by decide +kernel
theorem dX5_turned_126 : decode cX5_turned 126 = .ok (.istore 5, 2) := by decide +kernel
theorem dX5_turned_128 : decode cX5_turned 128 = .ok (.iload 5, 2) := by decide +kernel
theorem dX5_turned_130 : decode cX5_turned 130 = .ok (.iconst 2, 1) := by decide +kernel
theorem dX5_turned_131 : decode cX5_turned 131 = .ok (.if_icmp .gt 29, 3) := by decide +kernel
theorem dX5_turned_134 : decode cX5_turned 134 = .ok (.aload_n 0, 1) := by decide +kernel
theorem dX5_turned_135 : decode cX5_turned 135 = .ok (.iload 4, 2) := by decide +kernel
theorem dX5_turned_137 : decode cX5_turned 137 = .ok (.iload 5, 2) := by decide +kernel
theorem dX5_turned_139 : decode cX5_turned 139 = .ok (.invokevirtual 187, 3) := by decide +kernel
theorem dX5_turned_142 : decode cX5_turned 142 = .ok (.ifCond .eq 12, 3) := by decide +kernel
theorem dX5_turned_145 : decode cX5_turned 145 = .ok (.bipush 100, 2) := by decide +kernel
theorem dX5_turned_147 : decode cX5_turned 147 = .ok (.iload 4, 2) := by decide +kernel
theorem dX5_turned_149 : decode cX5_turned 149 = .ok (.imul, 1) := by decide +kernel
theorem dX5_turned_150 : decode cX5_turned 150 = .ok (.iload 5, 2) := by decide +kernel
theorem dX5_turned_152 : decode cX5_turned 152 = .ok (.iadd, 1) := by decide +kernel
theorem dX5_turned_153 : decode cX5_turned 153 = .ok (.ireturn, 1) := by decide +kernel
theorem dX5_turned_154 : decode cX5_turned 154 = .ok (.iinc 5 1, 3) := by decide +kernel
theorem dX5_turned_157 : decode cX5_turned 157 = .ok (.goto (-29), 3) := by decide +kernel
theorem dX5_turned_160 : decode cX5_turned 160 = .ok (.iinc 4 1, 3) := by decide +kernel
theorem dX5_turned_163 : decode cX5_turned 163 = .ok (.goto (-44), 3) := by decide +kernel
theorem dX5_turned_166 : decode cX5_turned 166 = .ok (.iconst (-1), 1) := by decide +kernel
theorem dX5_turned_167 : decode cX5_turned 167 = .ok (.ireturn, 1) := by decide +kernel
theorem dX5_nothings_0 : decode cX5_nothings 0 = .ok (.iload_n 1, 1) := by decide +kernel
theorem dX5_nothings_1 : decode cX5_nothings 1 = .ok (.iconst 1, 1) := by decide +kernel
theorem dX5_nothings_2 : decode cX5_nothings 2 = .ok (.if_icmp .lt 8, 3) := by decide +kernel
theorem dX5_nothings_5 : decode cX5_nothings 5 = .ok (.iload_n 1, 1) := by decide +kernel
theorem dX5_nothings_6 : decode cX5_nothings 6 = .ok (.iconst 4, 1) := by decide +kernel
theorem dX5_nothings_7 : decode cX5_nothings 7 = .ok (.if_icmp .le 10, 3) := by decide +kernel
theorem dX5_nothings_10 : decode cX5_nothings 10 = .ok (.aload_n 0, 1) := by decide +kernel
theorem dX5_nothings_11 : decode cX5_nothings 11 = .ok (.bipush (-2), 2) := by decide +kernel
theorem dX5_nothings_13 : decode cX5_nothings 13 = .ok (.invokevirtual 58, 3) := by decide +kernel
theorem dX5_nothings_16 : decode cX5_nothings 16 = .ok (.ireturn, 1) := by decide +kernel
theorem dX5_nothings_17 : decode cX5_nothings 17 = .ok (.aload_n 0, 1) := by decide +kernel
theorem dX5_nothings_18 : decode cX5_nothings 18 = .ok (.getfield 35, 3) := by decide +kernel
theorem dX5_nothings_21 : decode cX5_nothings 21 = .ok (.bipush 6, 2) := by decide +kernel
theorem dX5_nothings_23 : decode cX5_nothings 23 = .ok (.invokevirtual 118, 3) := by decide +kernel
theorem dX5_nothings_26 : decode cX5_nothings 26 = .ok (.ifCond .ne 10, 3) := by decide +kernel
theorem dX5_nothings_29 : decode cX5_nothings 29 = .ok (.aload_n 0, 1) := by decide +kernel
theorem dX5_nothings_30 : decode cX5_nothings 30 = .ok (.bipush (-3), 2) := by decide +kernel
theorem dX5_nothings_32 : decode cX5_nothings 32 = .ok (.invokevirtual 58, 3) := by decide +kernel
theorem dX5_nothings_35 : decode cX5_nothings 35 = .ok (.ireturn, 1) := by decide +kernel
theorem dX5_nothings_36 : decode cX5_nothings 36 = .ok (.iconst 0, 1) := by decide +kernel
theorem dX5_nothings_37 : decode cX5_nothings 37 = .ok (.istore_n 2, 1) := by decide +kernel
theorem dX5_nothings_38 : decode cX5_nothings 38 = .ok (.iconst 1, 1) := by decide +kernel
theorem dX5_nothings_39 : decode cX5_nothings 39 = .ok (.iconst 3, 1) := by decide +kernel
theorem dX5_nothings_40 : decode cX5_nothings 40 = .ok (.iload_n 1, 1) := by decide +kernel
theorem dX5_nothings_41 : decode cX5_nothings 41 = .ok (.imul, 1) := by decide +kernel
theorem dX5_nothings_42 : decode cX5_nothings 42 = .ok (.ishl, 1) := by decide +kernel
theorem dX5_nothings_43 : decode cX5_nothings 43 = .ok (.istore_n 3, 1) := by decide +kernel
theorem dX5_nothings_44 : decode cX5_nothings 44 = .ok (.iconst 0, 1) := by decide +kernel
theorem dX5_nothings_45 : decode cX5_nothings 45 = .ok (.istore 4, 2) := by decide +kernel
theorem dX5_nothings_47 : decode cX5_nothings 47 = .ok (.iload 4, 2) := by decide +kernel
theorem dX5_nothings_49 : decode cX5_nothings 49 = .ok (.iload_n 3, 1) := by decide +kernel
theorem dX5_nothings_50 : decode cX5_nothings 50 = .ok (.if_icmp .ge 96, 3) := by decide +kernel
theorem dX5_nothings_53 : decode cX5_nothings 53 = .ok (.aload_n 0, 1) := by decide +kernel
theorem dX5_nothings_54 : decode cX5_nothings 54 = .ok (.getfield 48, 3) := by decide +kernel
theorem dX5_nothings_57 : decode cX5_nothings 57 = .ok (.invokevirtual 139, 3) := by decide +kernel
theorem dX5_nothings_60 : decode cX5_nothings 60 = .ok (.iconst 0, 1) := by decide +kernel
theorem dX5_nothings_61 : decode cX5_nothings 61 = .ok (.istore 5, 2) := by decide +kernel
theorem dX5_nothings_63 : decode cX5_nothings 63 = .ok (.iload 5, 2) := by decide +kernel
theorem dX5_nothings_65 : decode cX5_nothings 65 = .ok (.iload_n 1, 1) := by decide +kernel
theorem dX5_nothings_66 : decode cX5_nothings 66 = .ok (.if_icmp .ge 26, 3) := by decide +kernel
theorem dX5_nothings_69 : decode cX5_nothings 69 = .ok (.aload_n 0, 1) := by decide +kernel
theorem dX5_nothings_70 : decode cX5_nothings 70 = .ok (.getfield 48, 3) := by decide +kernel
theorem dX5_nothings_73 : decode cX5_nothings 73 = .ok (.iload 4, 2) := by decide +kernel
theorem dX5_nothings_75 : decode cX5_nothings 75 = .ok (.iconst 3, 1) := by decide +kernel
theorem dX5_nothings_76 : decode cX5_nothings 76 = .ok (.iload 5, 2) := by decide +kernel
theorem dX5_nothings_78 : decode cX5_nothings 78 = .ok (.imul, 1) := by decide +kernel
theorem dX5_nothings_79 : decode cX5_nothings 79 = .ok (.ishr, 1) := by decide +kernel
theorem dX5_nothings_80 : decode cX5_nothings 80 = .ok (.bipush 7, 2) := by decide +kernel
theorem dX5_nothings_82 : decode cX5_nothings 82 = .ok (.iand, 1) := by decide +kernel
theorem dX5_nothings_83 : decode cX5_nothings 83 = .ok (.invokevirtual 130, 3) := by decide +kernel
theorem dX5_nothings_86 : decode cX5_nothings 86 = .ok (.iinc 5 1, 3) := by decide +kernel
theorem dX5_nothings_89 : decode cX5_nothings 89 = .ok (.goto (-26), 3) := by decide +kernel
theorem dX5_nothings_92 : decode cX5_nothings 92 = .ok (.aload_n 0, 1) := by decide +kernel
theorem dX5_nothings_93 : decode cX5_nothings 93 = .ok (.getfield 48, 3) := by decide +kernel
theorem dX5_nothings_96 : decode cX5_nothings 96 = .ok (.getfield 100, 3) := by decide +kernel
theorem dX5_nothings_99 : decode cX5_nothings 99 = .ok (.iload_n 1, 1) := by decide +kernel
theorem dX5_nothings_100 : decode cX5_nothings 100 = .ok (.if_icmp .ne 7, 3) := by decide +kernel
theorem dX5_nothings_103 : decode cX5_nothings 103 = .ok (.iconst 1, 1) := by decide +kernel
theorem dX5_nothings_104 : decode cX5_nothings 104 = .ok (.goto 4, 3) := by decide +kernel
theorem dX5_nothings_107 : decode cX5_nothings 107 = .ok (.iconst 0, 1) := by decide +kernel
theorem dX5_nothings_108 : decode cX5_nothings 108 = .ok (.istore 5, 2) := by decide +kernel
theorem dX5_nothings_110 : decode cX5_nothings 110 = .ok (.aload_n 0, 1) := by decide +kernel
theorem dX5_nothings_111 : decode cX5_nothings 111 = .ok (.getfield 44, 3) := by decide +kernel
theorem dX5_nothings_114 : decode cX5_nothings 114 = .ok (.aload_n 0, 1) := by decide +kernel
theorem dX5_nothings_115 : decode cX5_nothings 115 = .ok (.getfield 48, 3) := by decide +kernel
theorem dX5_nothings_118 : decode cX5_nothings 118 = .ok (.invokevirtual 166, 3) := by decide +kernel
theorem dX5_nothings_121 : decode cX5_nothings 121 = .ok (.pop, 1) := by decide +kernel
theorem dX5_nothings_122 : decode cX5_nothings 122 = .ok (.iload 5, 2) := by decide +kernel
theorem dX5_nothings_124 : decode cX5_nothings 124 = .ok (.ifCond .eq 16, 3) := by decide +kernel
theorem dX5_nothings_127 : decode cX5_nothings 127 = .ok (.aload_n 0, 1) := by decide +kernel
theorem dX5_nothings_128 : decode cX5_nothings 128 = .ok (.getfield 48, 3) := by decide +kernel
theorem dX5_nothings_131 : decode cX5_nothings 131 = .ok (.getfield 100, 3) := by decide +kernel
theorem dX5_nothings_134 : decode cX5_nothings 134 = .ok (.ifCond .ne 6, 3) := by decide +kernel
theorem dX5_nothings_137 : decode cX5_nothings 137 = .ok (.iinc 2 1, 3) := by decide +kernel
theorem dX5_nothings_140 : decode cX5_nothings 140 = .ok (.iinc 4 1, 3) := by decide +kernel
theorem dX5_nothings_143 : decode cX5_nothings 143 = .ok (.goto (-96), 3) := by decide +kernel
theorem dX5_nothings_146 : decode cX5_nothings 146 = .ok (.iload_n 2, 1) := by decide +kernel
theorem dX5_nothings_147 : decode cX5_nothings 147 = .ok (.ireturn, 1) := by decide +kernel
theorem dX5_draw_0 : decode cX5_draw 0 = .ok (.iload_n 1, 1) := by decide +kernel
theorem dX5_draw_1 : decode cX5_draw 1 = .ok (.ifCond .lt 26, 3) := by decide +kernel
theorem dX5_draw_4 : decode cX5_draw 4 = .ok (.iload_n 1, 1) := by decide +kernel
theorem dX5_draw_5 : decode cX5_draw 5 = .ok (.ldc 191, 2) := by decide +kernel
theorem dX5_draw_7 : decode cX5_draw 7 = .ok (.if_icmp .gt 20, 3) := by decide +kernel
theorem dX5_draw_10 : decode cX5_draw 10 = .ok (.iload_n 2, 1) := by decide +kernel
theorem dX5_draw_11 : decode cX5_draw 11 = .ok (.ifCond .lt 16, 3) := by decide +kernel
theorem dX5_draw_14 : decode cX5_draw 14 = .ok (.iload_n 2, 1) := by decide +kernel
theorem dX5_draw_15 : decode cX5_draw 15 = .ok (.bipush 60, 2) := by decide +kernel
theorem dX5_draw_17 : decode cX5_draw 17 = .ok (.if_icmp .gt 10, 3) := by decide +kernel
theorem dX5_draw_20 : decode cX5_draw 20 = .ok (.iload_n 3, 1) := by decide +kernel
theorem dX5_draw_21 : decode cX5_draw 21 = .ok (.invokestatic 81, 3) := by decide +kernel
theorem dX5_draw_24 : decode cX5_draw 24 = .ok (.ifCond .ne 10, 3) := by decide +kernel
theorem dX5_draw_27 : decode cX5_draw 27 = .ok (.aload_n 0, 1) := by decide +kernel
theorem dX5_draw_28 : decode cX5_draw 28 = .ok (.bipush (-2), 2) := by decide +kernel
theorem dX5_draw_30 : decode cX5_draw 30 = .ok (.invokevirtual 58, 3) := by decide +kernel
theorem dX5_draw_33 : decode cX5_draw 33 = .ok (.ireturn, 1) := by decide +kernel
theorem dX5_draw_34 : decode cX5_draw 34 = .ok (.aload_n 0, 1) := by decide +kernel
theorem dX5_draw_35 : decode cX5_draw 35 = .ok (.getfield 48, 3) := by decide +kernel
theorem dX5_draw_38 : decode cX5_draw 38 = .ok (.invokevirtual 139, 3) := by decide +kernel
theorem dX5_draw_41 : decode cX5_draw 41 = .ok (.iload_n 1, 1) := by decide +kernel
theorem dX5_draw_42 : decode cX5_draw 42 = .ok (.i2l, 1) := by decide +kernel
theorem dX5_draw_43 : decode cX5_draw 43 = .ok (.lstore 4, 2) := by decide +kernel
theorem dX5_draw_45 : decode cX5_draw 45 = .ok (.iconst 0, 1) := by decide +kernel
theorem dX5_draw_46 : decode cX5_draw 46 = .ok (.istore 6, 2) := by decide +kernel
theorem dX5_draw_48 : decode cX5_draw 48 = .ok (.iload 6, 2) := by decide +kernel
theorem dX5_draw_50 : decode cX5_draw 50 = .ok (.iload_n 2, 1) := by decide +kernel
theorem dX5_draw_51 : decode cX5_draw 51 = .ok (.if_icmp .ge 34, 3) := by decide +kernel
theorem dX5_draw_54 : decode cX5_draw 54 = .ok (.lload 4, 2) := by decide +kernel
theorem dX5_draw_56 : decode cX5_draw 56 = .ok (.invokestatic 192, 3) := by decide +kernel
theorem dX5_draw_59 : decode cX5_draw 59 = .ok (.lstore 4, 2) := by decide +kernel
theorem dX5_draw_61 : decode cX5_draw 61 = .ok (.aload_n 0, 1) := by decide +kernel
theorem dX5_draw_62 : decode cX5_draw 62 = .ok (.getfield 48, 3) := by decide +kernel
theorem dX5_draw_65 : decode cX5_draw 65 = .ok (.lload 4, 2) := by decide +kernel
theorem dX5_draw_67 : decode cX5_draw 67 = .ok (.ldc2_w 196, 3) := by decide +kernel
theorem dX5_draw_70 : decode cX5_draw 70 = .ok (.ldiv, 1) := by decide +kernel
theorem dX5_draw_71 : decode cX5_draw 71 = .ok (.ldc2_w 198, 3) := by decide +kernel
theorem dX5_draw_74 : decode cX5_draw 74 = .ok (.lrem, 1) := by decide +kernel
theorem dX5_draw_75 : decode cX5_draw 75 = .ok (.l2i, 1) := by decide +kernel
theorem dX5_draw_76 : decode cX5_draw 76 = .ok (.invokevirtual 130, 3) := by decide +kernel
theorem dX5_draw_79 : decode cX5_draw 79 = .ok (.iinc 6 1, 3) := by decide +kernel
theorem dX5_draw_82 : decode cX5_draw 82 = .ok (.goto (-34), 3) := by decide +kernel
theorem dX5_draw_85 : decode cX5_draw 85 = .ok (.aload_n 0, 1) := by decide +kernel
theorem dX5_draw_86 : decode cX5_draw 86 = .ok (.iload_n 3, 1) := by decide +kernel
theorem dX5_draw_87 : decode cX5_draw 87 = .ok (.invokevirtual 133, 3) := by decide +kernel
theorem dX5_draw_90 : decode cX5_draw 90 = .ok (.ireturn, 1) := by decide +kernel
theorem dX5_loops_0 : decode cX5_loops 0 = .ok (.iload_n 1, 1) := by decide +kernel
theorem dX5_loops_1 : decode cX5_loops 1 = .ok (.ifCond .lt 26, 3) := by decide +kernel
theorem dX5_loops_4 : decode cX5_loops 4 = .ok (.iload_n 1, 1) := by decide +kernel
theorem dX5_loops_5 : decode cX5_loops 5 = .ok (.ldc 191, 2) := by decide +kernel
theorem dX5_loops_7 : decode cX5_loops 7 = .ok (.if_icmp .gt 20, 3) := by decide +kernel
theorem dX5_loops_10 : decode cX5_loops 10 = .ok (.iload_n 2, 1) := by decide +kernel
theorem dX5_loops_11 : decode cX5_loops 11 = .ok (.ifCond .lt 16, 3) := by decide +kernel
theorem dX5_loops_14 : decode cX5_loops 14 = .ok (.iload_n 2, 1) := by decide +kernel
theorem dX5_loops_15 : decode cX5_loops 15 = .ok (.bipush 6, 2) := by decide +kernel
theorem dX5_loops_17 : decode cX5_loops 17 = .ok (.if_icmp .gt 10, 3) := by decide +kernel
theorem dX5_loops_20 : decode cX5_loops 20 = .ok (.iload_n 3, 1) := by decide +kernel
theorem dX5_loops_21 : decode cX5_loops 21 = .ok (.invokestatic 81, 3) := by decide +kernel
theorem dX5_loops_24 : decode cX5_loops 24 = .ok (.ifCond .ne 10, 3) := by decide +kernel
theorem dX5_loops_27 : decode cX5_loops 27 = .ok (.aload_n 0, 1) := by decide +kernel
theorem dX5_loops_28 : decode cX5_loops 28 = .ok (.bipush (-2), 2) := by decide +kernel
theorem dX5_loops_30 : decode cX5_loops 30 = .ok (.invokevirtual 58, 3) := by decide +kernel
theorem dX5_loops_33 : decode cX5_loops 33 = .ok (.ireturn, 1) := by decide +kernel
theorem dX5_loops_34 : decode cX5_loops 34 = .ok (.aload_n 0, 1) := by decide +kernel
theorem dX5_loops_35 : decode cX5_loops 35 = .ok (.getfield 35, 3) := by decide +kernel
theorem dX5_loops_38 : decode cX5_loops 38 = .ok (.getfield 200, 3) := by decide +kernel
theorem dX5_loops_41 : decode cX5_loops 41 = .ok (.ifCond .ne 10, 3) := by decide +kernel
theorem dX5_loops_44 : decode cX5_loops 44 = .ok (.aload_n 0, 1) := by decide +kernel
theorem dX5_loops_45 : decode cX5_loops 45 = .ok (.bipush (-3), 2) := by decide +kernel
theorem dX5_loops_47 : decode cX5_loops 47 = .ok (.invokevirtual 58, 3) := by decide +kernel
theorem dX5_loops_50 : decode cX5_loops 50 = .ok (.ireturn, 1) := by decide +kernel
theorem dX5_loops_51 : decode cX5_loops 51 = .ok (.aload_n 0, 1) := by decide +kernel
theorem dX5_loops_52 : decode cX5_loops 52 = .ok (.getfield 48, 3) := by decide +kernel
theorem dX5_loops_55 : decode cX5_loops 55 = .ok (.invokevirtual 139, 3) := by decide +kernel
theorem dX5_loops_58 : decode cX5_loops 58 = .ok (.iload_n 1, 1) := by decide +kernel
theorem dX5_loops_59 : decode cX5_loops 59 = .ok (.i2l, 1) := by decide +kernel
theorem dX5_loops_60 : decode cX5_loops 60 = .ok (.lstore 4, 2) := by decide +kernel
theorem dX5_loops_62 : decode cX5_loops 62 = .ok (.iconst 0, 1) := by decide +kernel
theorem dX5_loops_63 : decode cX5_loops 63 = .ok (.istore 6, 2) := by decide +kernel
theorem dX5_loops_65 : decode cX5_loops 65 = .ok (.iload 6, 2) := by decide +kernel
theorem dX5_loops_67 : decode cX5_loops 67 = .ok (.iload_n 2, 1) := by decide +kernel
theorem dX5_loops_68 : decode cX5_loops 68 = .ok (.if_icmp .ge 59, 3) := by decide +kernel
theorem dX5_loops_71 : decode cX5_loops 71 = .ok (.aload_n 0, 1) := by decide +kernel
theorem dX5_loops_72 : decode cX5_loops 72 = .ok (.getfield 48, 3) := by decide +kernel
theorem dX5_loops_75 : decode cX5_loops 75 = .ok (.getfield 100, 3) := by decide +kernel
theorem dX5_loops_78 : decode cX5_loops 78 = .ok (.bipush 60, 2) := by decide +kernel
theorem dX5_loops_80 : decode cX5_loops 80 = .ok (.if_icmp .gt 47, 3) := by decide +kernel
theorem dX5_loops_83 : decode cX5_loops 83 = .ok (.lload 4, 2) := by decide +kernel
theorem dX5_loops_85 : decode cX5_loops 85 = .ok (.invokestatic 192, 3) := by decide +kernel
theorem dX5_loops_88 : decode cX5_loops 88 = .ok (.lstore 4, 2) := by decide +kernel
theorem dX5_loops_90 : decode cX5_loops 90 = .ok (.aload_n 0, 1) := by decide +kernel
theorem dX5_loops_91 : decode cX5_loops 91 = .ok (.lload 4, 2) := by decide +kernel
theorem dX5_loops_93 : decode cX5_loops 93 = .ok (.ldc2_w 196, 3) := by decide +kernel
theorem dX5_loops_96 : decode cX5_loops 96 = .ok (.ldiv, 1) := by decide +kernel
theorem dX5_loops_97 : decode cX5_loops 97 = .ok (.aload_n 0, 1) := by decide +kernel
theorem dX5_loops_98 : decode cX5_loops 98 = .ok (.getfield 35, 3) := by decide +kernel
theorem dX5_loops_101 : decode cX5_loops 101 = .ok (.getfield 200, 3) := by decide +kernel
theorem dX5_loops_104 : decode cX5_loops 104 = .ok (.i2l, 1) := by decide +kernel
theorem dX5_loops_105 : decode cX5_loops 105 = .ok (.lrem, 1) := by decide +kernel
theorem dX5_loops_106 : decode cX5_loops 106 = .ok (.l2i, 1) := by decide +kernel
theorem dX5_loops_107 : decode cX5_loops 107 = .ok (.lload 4, 2) := by decide +kernel
theorem dX5_loops_109 : decode cX5_loops 109 = .ok (.ldc2_w 201, 3) := by decide +kernel
theorem dX5_loops_112 : decode cX5_loops 112 = .ok (.ldiv, 1) := by decide +kernel
theorem dX5_loops_113 : decode cX5_loops 113 = .ok (.ldc2_w 198, 3) := by decide +kernel
theorem dX5_loops_116 : decode cX5_loops 116 = .ok (.lrem, 1) := by decide +kernel
theorem dX5_loops_117 : decode cX5_loops 117 = .ok (.l2i, 1) := by decide +kernel
theorem dX5_loops_118 : decode cX5_loops 118 = .ok (.invokevirtual 203, 3) := by decide +kernel
theorem dX5_loops_121 : decode cX5_loops 121 = .ok (.iinc 6 1, 3) := by decide +kernel
theorem dX5_loops_124 : decode cX5_loops 124 = .ok (.goto (-59), 3) := by decide +kernel
theorem dX5_loops_127 : decode cX5_loops 127 = .ok (.aload_n 0, 1) := by decide +kernel
theorem dX5_loops_128 : decode cX5_loops 128 = .ok (.iload_n 3, 1) := by decide +kernel
theorem dX5_loops_129 : decode cX5_loops 129 = .ok (.invokevirtual 133, 3) := by decide +kernel
theorem dX5_loops_132 : decode cX5_loops 132 = .ok (.ireturn, 1) := by decide +kernel
theorem dX5_told_0 : decode cX5_told 0 = .ok (.iload_n 1, 1) := by decide +kernel
theorem dX5_told_1 : decode cX5_told 1 = .ok (.ifCond .lt 9, 3) := by decide +kernel
theorem dX5_told_4 : decode cX5_told 4 = .ok (.iload_n 1, 1) := by decide +kernel
theorem dX5_told_5 : decode cX5_told 5 = .ok (.bipush 8, 2) := by decide +kernel
theorem dX5_told_7 : decode cX5_told 7 = .ok (.if_icmp .lt 12, 3) := by decide +kernel
theorem dX5_told_10 : decode cX5_told 10 = .ok (.aload_n 0, 1) := by decide +kernel
theorem dX5_told_11 : decode cX5_told 11 = .ok (.bipush (-2), 2) := by decide +kernel
theorem dX5_told_13 : decode cX5_told 13 = .ok (.invokevirtual 58, 3) := by decide +kernel
theorem dX5_told_16 : decode cX5_told 16 = .ok (.goto 8, 3) := by decide +kernel
theorem dX5_told_19 : decode cX5_told 19 = .ok (.aload_n 0, 1) := by decide +kernel
theorem dX5_told_20 : decode cX5_told 20 = .ok (.iload_n 1, 1) := by decide +kernel
theorem dX5_told_21 : decode cX5_told 21 = .ok (.invokevirtual 206, 3) := by decide +kernel
theorem dX5_told_24 : decode cX5_told 24 = .ok (.ireturn, 1) := by decide +kernel
theorem dX5_digest_0 : decode cX5_digest 0 = .ok (.ldc2_w 209, 3) := by decide +kernel
theorem dX5_digest_3 : decode cX5_digest 3 = .ok (.lstore_n 1, 1) := by decide +kernel
theorem dX5_digest_4 : decode cX5_digest 4 = .ok (.iconst 0, 1) := by decide +kernel
theorem dX5_digest_5 : decode cX5_digest 5 = .ok (.istore_n 3, 1) := by decide +kernel
theorem dX5_digest_6 : decode cX5_digest 6 = .ok (.iload_n 3, 1) := by decide +kernel
theorem dX5_digest_7 : decode cX5_digest 7 = .ok (.bipush 8, 2) := by decide +kernel
theorem dX5_digest_9 : decode cX5_digest 9 = .ok (.if_icmp .ge 22, 3) := by decide +kernel
theorem dX5_digest_12 : decode cX5_digest 12 = .ok (.ldc2_w 211, 3) := by decide +kernel
theorem dX5_digest_15 : decode cX5_digest 15 = .ok (.lload_n 1, 1) := by decide +kernel
theorem dX5_digest_16 : decode cX5_digest 16 = .ok (.lmul, 1) := by decide +kernel
theorem dX5_digest_17 : decode cX5_digest 17 = .ok (.aload_n 0, 1) := by decide +kernel
theorem dX5_digest_18 : decode cX5_digest 18 = .ok (.iload_n 3, 1) := by decide +kernel
theorem dX5_digest_19 : decode cX5_digest 19 = .ok (.invokevirtual 206, 3) := by decide +kernel
theorem dX5_digest_22 : decode cX5_digest 22 = .ok (.i2l, 1) := by decide +kernel
theorem dX5_digest_23 : decode cX5_digest 23 = .ok (.ladd, 1) := by decide +kernel
theorem dX5_digest_24 : decode cX5_digest 24 = .ok (.lstore_n 1, 1) := by decide +kernel
theorem dX5_digest_25 : decode cX5_digest 25 = .ok (.iinc 3 1, 3) := by decide +kernel
theorem dX5_digest_28 : decode cX5_digest 28 = .ok (.goto (-22), 3) := by decide +kernel
theorem dX5_digest_31 : decode cX5_digest 31 = .ok (.iconst 0, 1) := by decide +kernel
theorem dX5_digest_32 : decode cX5_digest 32 = .ok (.istore_n 3, 1) := by decide +kernel
theorem dX5_digest_33 : decode cX5_digest 33 = .ok (.iload_n 3, 1) := by decide +kernel
theorem dX5_digest_34 : decode cX5_digest 34 = .ok (.aload_n 0, 1) := by decide +kernel
theorem dX5_digest_35 : decode cX5_digest 35 = .ok (.getfield 35, 3) := by decide +kernel
theorem dX5_digest_38 : decode cX5_digest 38 = .ok (.getfield 94, 3) := by decide +kernel
theorem dX5_digest_41 : decode cX5_digest 41 = .ok (.if_icmp .ge 23, 3) := by decide +kernel
theorem dX5_digest_44 : decode cX5_digest 44 = .ok (.aload_n 0, 1) := by decide +kernel
theorem dX5_digest_45 : decode cX5_digest 45 = .ok (.getfield 35, 3) := by decide +kernel
theorem dX5_digest_48 : decode cX5_digest 48 = .ok (.getfield 97, 3) := by decide +kernel
theorem dX5_digest_51 : decode cX5_digest 51 = .ok (.iload_n 3, 1) := by decide +kernel
theorem dX5_digest_52 : decode cX5_digest 52 = .ok (.aaload, 1) := by decide +kernel
theorem dX5_digest_53 : decode cX5_digest 53 = .ok (.lload_n 1, 1) := by decide +kernel
theorem dX5_digest_54 : decode cX5_digest 54 = .ok (.invokestatic 213, 3) := by decide +kernel
theorem dX5_digest_57 : decode cX5_digest 57 = .ok (.lstore_n 1, 1) := by decide +kernel
theorem dX5_digest_58 : decode cX5_digest 58 = .ok (.iinc 3 1, 3) := by decide +kernel
theorem dX5_digest_61 : decode cX5_digest 61 = .ok (.goto (-28), 3) := by decide +kernel
theorem dX5_digest_64 : decode cX5_digest 64 = .ok (.iconst 0, 1) := by decide +kernel
theorem dX5_digest_65 : decode cX5_digest 65 = .ok (.istore_n 3, 1) := by decide +kernel
theorem dX5_digest_66 : decode cX5_digest 66 = .ok (.iload_n 3, 1) := by decide +kernel
theorem dX5_digest_67 : decode cX5_digest 67 = .ok (.bipush 6, 2) := by decide +kernel
theorem dX5_digest_69 : decode cX5_digest 69 = .ok (.if_icmp .ge 20, 3) := by decide +kernel
theorem dX5_digest_72 : decode cX5_digest 72 = .ok (.aload_n 0, 1) := by decide +kernel
theorem dX5_digest_73 : decode cX5_digest 73 = .ok (.getfield 11, 3) := by decide +kernel
theorem dX5_digest_76 : decode cX5_digest 76 = .ok (.iload_n 3, 1) := by decide +kernel
theorem dX5_digest_77 : decode cX5_digest 77 = .ok (.aaload, 1) := by decide +kernel
theorem dX5_digest_78 : decode cX5_digest 78 = .ok (.lload_n 1, 1) := by decide +kernel
theorem dX5_digest_79 : decode cX5_digest 79 = .ok (.invokestatic 213, 3) := by decide +kernel
theorem dX5_digest_82 : decode cX5_digest 82 = .ok (.lstore_n 1, 1) := by decide +kernel
theorem dX5_digest_83 : decode cX5_digest 83 = .ok (.iinc 3 1, 3) := by decide +kernel
theorem dX5_digest_86 : decode cX5_digest 86 = .ok (.goto (-20), 3) := by decide +kernel
theorem dX5_digest_89 : decode cX5_digest 89 = .ok (.lload_n 1, 1) := by decide +kernel
theorem dX5_digest_90 : decode cX5_digest 90 = .ok (.lreturn, 1) := by decide +kernel
theorem dX5_isWord_0 : decode cX5_isWord 0 = .ok (.iload_n 0, 1) := by decide +kernel
theorem dX5_isWord_1 : decode cX5_isWord 1 = .ok (.ifCond .lt 13, 3) := by decide +kernel
theorem dX5_isWord_4 : decode cX5_isWord 4 = .ok (.iload_n 0, 1) := by decide +kernel
theorem dX5_isWord_5 : decode cX5_isWord 5 = .ok (.bipush 6, 2) := by decide +kernel
theorem dX5_isWord_7 : decode cX5_isWord 7 = .ok (.if_icmp .ge 7, 3) := by decide +kernel
theorem dX5_isWord_10 : decode cX5_isWord 10 = .ok (.iconst 1, 1) := by decide +kernel
theorem dX5_isWord_11 : decode cX5_isWord 11 = .ok (.goto 4, 3) := by decide +kernel
theorem dX5_isWord_14 : decode cX5_isWord 14 = .ok (.iconst 0, 1) := by decide +kernel
theorem dX5_isWord_15 : decode cX5_isWord 15 = .ok (.ireturn, 1) := by decide +kernel
theorem dX5_refuse_0 : decode cX5_refuse 0 = .ok (.iload_n 1, 1) := by decide +kernel
theorem dX5_refuse_1 : decode cX5_refuse 1 = .ok (.lookupswitch 53 #[(-3, 40), (-2, 27)], 27) := by decide +kernel
theorem dX5_refuse_28 : decode cX5_refuse 28 = .ok (.aload_n 0, 1) := by decide +kernel
theorem dX5_refuse_29 : decode cX5_refuse 29 = .ok (.dup, 1) := by decide +kernel
theorem dX5_refuse_30 : decode cX5_refuse 30 = .ok (.getfield 217, 3) := by decide +kernel
theorem dX5_refuse_33 : decode cX5_refuse 33 = .ok (.iconst 1, 1) := by decide +kernel
theorem dX5_refuse_34 : decode cX5_refuse 34 = .ok (.iadd, 1) := by decide +kernel
theorem dX5_refuse_35 : decode cX5_refuse 35 = .ok (.putfield 217, 3) := by decide +kernel
theorem dX5_refuse_38 : decode cX5_refuse 38 = .ok (.goto 26, 3) := by decide +kernel
theorem dX5_refuse_41 : decode cX5_refuse 41 = .ok (.aload_n 0, 1) := by decide +kernel
theorem dX5_refuse_42 : decode cX5_refuse 42 = .ok (.dup, 1) := by decide +kernel
theorem dX5_refuse_43 : decode cX5_refuse 43 = .ok (.getfield 220, 3) := by decide +kernel
theorem dX5_refuse_46 : decode cX5_refuse 46 = .ok (.iconst 1, 1) := by decide +kernel
theorem dX5_refuse_47 : decode cX5_refuse 47 = .ok (.iadd, 1) := by decide +kernel
theorem dX5_refuse_48 : decode cX5_refuse 48 = .ok (.putfield 220, 3) := by decide +kernel
theorem dX5_refuse_51 : decode cX5_refuse 51 = .ok (.goto 13, 3) := by decide +kernel
theorem dX5_refuse_54 : decode cX5_refuse 54 = .ok (.aload_n 0, 1) := by decide +kernel
theorem dX5_refuse_55 : decode cX5_refuse 55 = .ok (.dup, 1) := by decide +kernel
theorem dX5_refuse_56 : decode cX5_refuse 56 = .ok (.getfield 223, 3) := by decide +kernel
theorem dX5_refuse_59 : decode cX5_refuse 59 = .ok (.iconst 1, 1) := by decide +kernel
theorem dX5_refuse_60 : decode cX5_refuse 60 = .ok (.iadd, 1) := by decide +kernel
theorem dX5_refuse_61 : decode cX5_refuse 61 = .ok (.putfield 223, 3) := by decide +kernel
theorem dX5_refuse_64 : decode cX5_refuse 64 = .ok (.iload_n 1, 1) := by decide +kernel
theorem dX5_refuse_65 : decode cX5_refuse 65 = .ok (.ireturn, 1) := by decide +kernel
theorem dX5_keep_0 : decode cX5_keep 0 = .ok (.aload_n 0, 1) := by decide +kernel
theorem dX5_keep_1 : decode cX5_keep 1 = .ok (.getfield 48, 3) := by decide +kernel
theorem dX5_keep_4 : decode cX5_keep 4 = .ok (.getfield 100, 3) := by decide +kernel
theorem dX5_keep_7 : decode cX5_keep 7 = .ok (.bipush 60, 2) := by decide +kernel
theorem dX5_keep_9 : decode cX5_keep 9 = .ok (.if_icmp .le 10, 3) := by decide +kernel
theorem dX5_keep_12 : decode cX5_keep 12 = .ok (.aload_n 0, 1) := by decide +kernel
theorem dX5_keep_13 : decode cX5_keep 13 = .ok (.bipush (-4), 2) := by decide +kernel
theorem dX5_keep_15 : decode cX5_keep 15 = .ok (.invokevirtual 58, 3) := by decide +kernel
theorem dX5_keep_18 : decode cX5_keep 18 = .ok (.ireturn, 1) := by decide +kernel
theorem dX5_keep_19 : decode cX5_keep 19 = .ok (.iload_n 1, 1) := by decide +kernel
theorem dX5_keep_20 : decode cX5_keep 20 = .ok (.invokestatic 81, 3) := by decide +kernel
theorem dX5_keep_23 : decode cX5_keep 23 = .ok (.ifCond .eq 16, 3) := by decide +kernel
theorem dX5_keep_26 : decode cX5_keep 26 = .ok (.aload_n 0, 1) := by decide +kernel
theorem dX5_keep_27 : decode cX5_keep 27 = .ok (.getfield 11, 3) := by decide +kernel
theorem dX5_keep_30 : decode cX5_keep 30 = .ok (.iload_n 1, 1) := by decide +kernel
theorem dX5_keep_31 : decode cX5_keep 31 = .ok (.aaload, 1) := by decide +kernel
theorem dX5_keep_32 : decode cX5_keep 32 = .ok (.aload_n 0, 1) := by decide +kernel
theorem dX5_keep_33 : decode cX5_keep 33 = .ok (.getfield 48, 3) := by decide +kernel
theorem dX5_keep_36 : decode cX5_keep 36 = .ok (.invokevirtual 87, 3) := by decide +kernel
theorem dX5_keep_39 : decode cX5_keep 39 = .ok (.aload_n 0, 1) := by decide +kernel
theorem dX5_keep_40 : decode cX5_keep 40 = .ok (.getfield 48, 3) := by decide +kernel
theorem dX5_keep_43 : decode cX5_keep 43 = .ok (.getfield 100, 3) := by decide +kernel
theorem dX5_keep_46 : decode cX5_keep 46 = .ok (.ireturn, 1) := by decide +kernel
theorem dX5_readText_0 : decode cX5_readText 0 = .ok (.aload_n 0, 1) := by decide +kernel
theorem dX5_readText_1 : decode cX5_readText 1 = .ok (.getfield 21, 3) := by decide +kernel
theorem dX5_readText_4 : decode cX5_readText 4 = .ok (.invokevirtual 226, 3) := by decide +kernel
theorem dX5_readText_7 : decode cX5_readText 7 = .ok (.istore_n 3, 1) := by decide +kernel
theorem dX5_readText_8 : decode cX5_readText 8 = .ok (.iload_n 3, 1) := by decide +kernel
theorem dX5_readText_9 : decode cX5_readText 9 = .ok (.iconst (-1), 1) := by decide +kernel
theorem dX5_readText_10 : decode cX5_readText 10 = .ok (.if_icmp .eq 7, 3) := by decide +kernel
theorem dX5_readText_13 : decode cX5_readText 13 = .ok (.iload_n 3, 1) := by decide +kernel
theorem dX5_readText_14 : decode cX5_readText 14 = .ok (.goto 16, 3) := by decide +kernel
theorem dX5_readText_17 : decode cX5_readText 17 = .ok (.aload_n 0, 1) := by decide +kernel
theorem dX5_readText_18 : decode cX5_readText 18 = .ok (.getfield 28, 3) := by decide +kernel
theorem dX5_readText_21 : decode cX5_readText 21 = .ok (.aload_n 0, 1) := by decide +kernel
theorem dX5_readText_22 : decode cX5_readText 22 = .ok (.getfield 21, 3) := by decide +kernel
theorem dX5_readText_25 : decode cX5_readText 25 = .ok (.iload_n 1, 1) := by decide +kernel
theorem dX5_readText_26 : decode cX5_readText 26 = .ok (.iload_n 2, 1) := by decide +kernel
theorem dX5_readText_27 : decode cX5_readText 27 = .ok (.invokevirtual 230, 3) := by decide +kernel
theorem dX5_readText_30 : decode cX5_readText 30 = .ok (.ireturn, 1) := by decide +kernel
theorem dX5_makePower_0 : decode cX5_makePower 0 = .ok (.aload_n 0, 1) := by decide +kernel
theorem dX5_makePower_1 : decode cX5_makePower 1 = .ok (.getfield 48, 3) := by decide +kernel
theorem dX5_makePower_4 : decode cX5_makePower 4 = .ok (.invokevirtual 139, 3) := by decide +kernel
theorem dX5_makePower_7 : decode cX5_makePower 7 = .ok (.iload_n 2, 1) := by decide +kernel
theorem dX5_makePower_8 : decode cX5_makePower 8 = .ok (.invokestatic 234, 3) := by decide +kernel
theorem dX5_makePower_11 : decode cX5_makePower 11 = .ok (.bipush 9, 2) := by decide +kernel
theorem dX5_makePower_13 : decode cX5_makePower 13 = .ok (.invokestatic 237, 3) := by decide +kernel
theorem dX5_makePower_16 : decode cX5_makePower 16 = .ok (.istore_n 3, 1) := by decide +kernel
theorem dX5_makePower_17 : decode cX5_makePower 17 = .ok (.iconst 0, 1) := by decide +kernel
theorem dX5_makePower_18 : decode cX5_makePower 18 = .ok (.istore 4, 2) := by decide +kernel
theorem dX5_makePower_20 : decode cX5_makePower 20 = .ok (.iload 4, 2) := by decide +kernel
theorem dX5_makePower_22 : decode cX5_makePower 22 = .ok (.iload_n 3, 1) := by decide +kernel
theorem dX5_makePower_23 : decode cX5_makePower 23 = .ok (.if_icmp .ge 49, 3) := by decide +kernel
theorem dX5_makePower_26 : decode cX5_makePower 26 = .ok (.iload_n 1, 1) := by decide +kernel
theorem dX5_makePower_27 : decode cX5_makePower 27 = .ok (.invokestatic 81, 3) := by decide +kernel
theorem dX5_makePower_30 : decode cX5_makePower 30 = .ok (.ifCond .eq 42, 3) := by decide +kernel
theorem dX5_makePower_33 : decode cX5_makePower 33 = .ok (.iload_n 2, 1) := by decide +kernel
theorem dX5_makePower_34 : decode cX5_makePower 34 = .ok (.ifCond .le 19, 3) := by decide +kernel
theorem dX5_makePower_37 : decode cX5_makePower 37 = .ok (.aload_n 0, 1) := by decide +kernel
theorem dX5_makePower_38 : decode cX5_makePower 38 = .ok (.getfield 48, 3) := by decide +kernel
theorem dX5_makePower_41 : decode cX5_makePower 41 = .ok (.aload_n 0, 1) := by decide +kernel
theorem dX5_makePower_42 : decode cX5_makePower 42 = .ok (.getfield 11, 3) := by decide +kernel
theorem dX5_makePower_45 : decode cX5_makePower 45 = .ok (.iload_n 1, 1) := by decide +kernel
theorem dX5_makePower_46 : decode cX5_makePower 46 = .ok (.aaload, 1) := by decide +kernel
theorem dX5_makePower_47 : decode cX5_makePower 47 = .ok (.invokevirtual 136, 3) := by decide +kernel
theorem dX5_makePower_50 : decode cX5_makePower 50 = .ok (.goto 16, 3) := by decide +kernel
theorem dX5_makePower_53 : decode cX5_makePower 53 = .ok (.aload_n 0, 1) := by decide +kernel
theorem dX5_makePower_54 : decode cX5_makePower 54 = .ok (.getfield 48, 3) := by decide +kernel
theorem dX5_makePower_57 : decode cX5_makePower 57 = .ok (.aload_n 0, 1) := by decide +kernel
theorem dX5_makePower_58 : decode cX5_makePower 58 = .ok (.getfield 11, 3) := by decide +kernel
theorem dX5_makePower_61 : decode cX5_makePower 61 = .ok (.iload_n 1, 1) := by decide +kernel
theorem dX5_makePower_62 : decode cX5_makePower 62 = .ok (.aaload, 1) := by decide +kernel
theorem dX5_makePower_63 : decode cX5_makePower 63 = .ok (.invokevirtual 142, 3) := by decide +kernel
theorem dX5_makePower_66 : decode cX5_makePower 66 = .ok (.iinc 4 1, 3) := by decide +kernel
theorem dX5_makePower_69 : decode cX5_makePower 69 = .ok (.goto (-49), 3) := by decide +kernel
theorem dX5_makePower_72 : decode cX5_makePower 72 = .ok (.return_, 1) := by decide +kernel
theorem dX5_someBeginningTurns_0 : decode cX5_someBeginningTurns 0 = .ok (.iload_n 2, 1) := by decide +kernel
theorem dX5_someBeginningTurns_1 : decode cX5_someBeginningTurns 1 = .ok (.ifCond .ne 11, 3) := by decide +kernel
theorem dX5_someBeginningTurns_4 : decode cX5_someBeginningTurns 4 = .ok (.aload_n 0, 1) := by decide +kernel
theorem dX5_someBeginningTurns_5 : decode cX5_someBeginningTurns 5 = .ok (.iload_n 1, 1) := by decide +kernel
theorem dX5_someBeginningTurns_6 : decode cX5_someBeginningTurns 6 = .ok (.iconst (-1), 1) := by decide +kernel
theorem dX5_someBeginningTurns_7 : decode cX5_someBeginningTurns 7 = .ok (.iconst 0, 1) := by decide +kernel
theorem dX5_someBeginningTurns_8 : decode cX5_someBeginningTurns 8 = .ok (.invokevirtual 240, 3) := by decide +kernel
theorem dX5_someBeginningTurns_11 : decode cX5_someBeginningTurns 11 = .ok (.ireturn, 1) := by decide +kernel
theorem dX5_someBeginningTurns_12 : decode cX5_someBeginningTurns 12 = .ok (.iconst 0, 1) := by decide +kernel
theorem dX5_someBeginningTurns_13 : decode cX5_someBeginningTurns 13 = .ok (.istore_n 3, 1) := by decide +kernel
theorem dX5_someBeginningTurns_14 : decode cX5_someBeginningTurns 14 = .ok (.iload_n 3, 1) := by decide +kernel
theorem dX5_someBeginningTurns_15 : decode cX5_someBeginningTurns 15 = .ok (.aload_n 0, 1) := by decide +kernel
theorem dX5_someBeginningTurns_16 : decode cX5_someBeginningTurns 16 = .ok (.getfield 35, 3) := by decide +kernel
theorem dX5_someBeginningTurns_19 : decode cX5_someBeginningTurns 19 = .ok (.getfield 200, 3) := by decide +kernel
theorem dX5_someBeginningTurns_22 : decode cX5_someBeginningTurns 22 = .ok (.if_icmp .ge 33, 3) := by decide +kernel
theorem dX5_someBeginningTurns_25 : decode cX5_someBeginningTurns 25 = .ok (.aload_n 0, 1) := by decide +kernel
theorem dX5_someBeginningTurns_26 : decode cX5_someBeginningTurns 26 = .ok (.getfield 35, 3) := by decide +kernel
theorem dX5_someBeginningTurns_29 : decode cX5_someBeginningTurns 29 = .ok (.iload_n 3, 1) := by decide +kernel
theorem dX5_someBeginningTurns_30 : decode cX5_someBeginningTurns 30 = .ok (.iload_n 2, 1) := by decide +kernel
theorem dX5_someBeginningTurns_31 : decode cX5_someBeginningTurns 31 = .ok (.invokevirtual 244, 3) := by decide +kernel
theorem dX5_someBeginningTurns_34 : decode cX5_someBeginningTurns 34 = .ok (.ifCond .eq 15, 3) := by decide +kernel
theorem dX5_someBeginningTurns_37 : decode cX5_someBeginningTurns 37 = .ok (.aload_n 0, 1) := by decide +kernel
theorem dX5_someBeginningTurns_38 : decode cX5_someBeginningTurns 38 = .ok (.iload_n 1, 1) := by decide +kernel
theorem dX5_someBeginningTurns_39 : decode cX5_someBeginningTurns 39 = .ok (.iload_n 3, 1) := by decide +kernel
theorem dX5_someBeginningTurns_40 : decode cX5_someBeginningTurns 40 = .ok (.iload_n 2, 1) := by decide +kernel
theorem dX5_someBeginningTurns_41 : decode cX5_someBeginningTurns 41 = .ok (.invokevirtual 240, 3) := by decide +kernel
theorem dX5_someBeginningTurns_44 : decode cX5_someBeginningTurns 44 = .ok (.ifCond .eq 5, 3) := by decide +kernel
theorem dX5_someBeginningTurns_47 : decode cX5_someBeginningTurns 47 = .ok (.iconst 1, 1) := by decide +kernel
theorem dX5_someBeginningTurns_48 : decode cX5_someBeginningTurns 48 = .ok (.ireturn, 1) := by decide +kernel
theorem dX5_someBeginningTurns_49 : decode cX5_someBeginningTurns 49 = .ok (.iinc 3 1, 3) := by decide +kernel
theorem dX5_someBeginningTurns_52 : decode cX5_someBeginningTurns 52 = .ok (.goto (-38), 3) := by decide +kernel
theorem dX5_someBeginningTurns_55 : decode cX5_someBeginningTurns 55 = .ok (.iconst 0, 1) := by decide +kernel
theorem dX5_someBeginningTurns_56 : decode cX5_someBeginningTurns 56 = .ok (.ireturn, 1) := by decide +kernel
theorem dX5_beginningTurns_0 : decode cX5_beginningTurns 0 = .ok (.aload_n 0, 1) := by decide +kernel
theorem dX5_beginningTurns_1 : decode cX5_beginningTurns 1 = .ok (.getfield 48, 3) := by decide +kernel
theorem dX5_beginningTurns_4 : decode cX5_beginningTurns 4 = .ok (.invokevirtual 139, 3) := by decide +kernel
theorem dX5_beginningTurns_7 : decode cX5_beginningTurns 7 = .ok (.aload_n 0, 1) := by decide +kernel
theorem dX5_beginningTurns_8 : decode cX5_beginningTurns 8 = .ok (.getfield 48, 3) := by decide +kernel
theorem dX5_beginningTurns_11 : decode cX5_beginningTurns 11 = .ok (.aload_n 0, 1) := by decide +kernel
theorem dX5_beginningTurns_12 : decode cX5_beginningTurns 12 = .ok (.getfield 52, 3) := by decide +kernel
theorem dX5_beginningTurns_15 : decode cX5_beginningTurns 15 = .ok (.iload_n 1, 1) := by decide +kernel
theorem dX5_beginningTurns_16 : decode cX5_beginningTurns 16 = .ok (.invokevirtual 152, 3) := by decide +kernel
theorem dX5_beginningTurns_19 : decode cX5_beginningTurns 19 = .ok (.iconst 0, 1) := by decide +kernel
theorem dX5_beginningTurns_20 : decode cX5_beginningTurns 20 = .ok (.istore 4, 2) := by decide +kernel
theorem dX5_beginningTurns_22 : decode cX5_beginningTurns 22 = .ok (.iload 4, 2) := by decide +kernel
theorem dX5_beginningTurns_24 : decode cX5_beginningTurns 24 = .ok (.iload_n 3, 1) := by decide +kernel
theorem dX5_beginningTurns_25 : decode cX5_beginningTurns 25 = .ok (.if_icmp .ge 26, 3) := by decide +kernel
theorem dX5_beginningTurns_28 : decode cX5_beginningTurns 28 = .ok (.aload_n 0, 1) := by decide +kernel
theorem dX5_beginningTurns_29 : decode cX5_beginningTurns 29 = .ok (.getfield 48, 3) := by decide +kernel
theorem dX5_beginningTurns_32 : decode cX5_beginningTurns 32 = .ok (.aload_n 0, 1) := by decide +kernel
theorem dX5_beginningTurns_33 : decode cX5_beginningTurns 33 = .ok (.getfield 35, 3) := by decide +kernel
theorem dX5_beginningTurns_36 : decode cX5_beginningTurns 36 = .ok (.iload_n 2, 1) := by decide +kernel
theorem dX5_beginningTurns_37 : decode cX5_beginningTurns 37 = .ok (.iload 4, 2) := by decide +kernel
theorem dX5_beginningTurns_39 : decode cX5_beginningTurns 39 = .ok (.invokevirtual 114, 3) := by decide +kernel
theorem dX5_beginningTurns_42 : decode cX5_beginningTurns 42 = .ok (.invokevirtual 130, 3) := by decide +kernel
theorem dX5_beginningTurns_45 : decode cX5_beginningTurns 45 = .ok (.iinc 4 1, 3) := by decide +kernel
theorem dX5_beginningTurns_48 : decode cX5_beginningTurns 48 = .ok (.goto (-26), 3) := by decide +kernel
theorem dX5_beginningTurns_51 : decode cX5_beginningTurns 51 = .ok (.aload_n 0, 1) := by decide +kernel
theorem dX5_beginningTurns_52 : decode cX5_beginningTurns 52 = .ok (.getfield 48, 3) := by decide +kernel
theorem dX5_beginningTurns_55 : decode cX5_beginningTurns 55 = .ok (.aload_n 0, 1) := by decide +kernel
theorem dX5_beginningTurns_56 : decode cX5_beginningTurns 56 = .ok (.getfield 55, 3) := by decide +kernel
theorem dX5_beginningTurns_59 : decode cX5_beginningTurns 59 = .ok (.invokevirtual 142, 3) := by decide +kernel
theorem dX5_beginningTurns_62 : decode cX5_beginningTurns 62 = .ok (.iload_n 3, 1) := by decide +kernel
theorem dX5_beginningTurns_63 : decode cX5_beginningTurns 63 = .ok (.iconst 1, 1) := by decide +kernel
theorem dX5_beginningTurns_64 : decode cX5_beginningTurns 64 = .ok (.isub, 1) := by decide +kernel
theorem dX5_beginningTurns_65 : decode cX5_beginningTurns 65 = .ok (.istore 4, 2) := by decide +kernel
theorem dX5_beginningTurns_67 : decode cX5_beginningTurns 67 = .ok (.iload 4, 2) := by decide +kernel
theorem dX5_beginningTurns_69 : decode cX5_beginningTurns 69 = .ok (.ifCond .lt 29, 3) := by decide +kernel
theorem dX5_beginningTurns_72 : decode cX5_beginningTurns 72 = .ok (.aload_n 0, 1) := by decide +kernel
theorem dX5_beginningTurns_73 : decode cX5_beginningTurns 73 = .ok (.getfield 48, 3) := by decide +kernel
theorem dX5_beginningTurns_76 : decode cX5_beginningTurns 76 = .ok (.aload_n 0, 1) := by decide +kernel
theorem dX5_beginningTurns_77 : decode cX5_beginningTurns 77 = .ok (.getfield 35, 3) := by decide +kernel
theorem dX5_beginningTurns_80 : decode cX5_beginningTurns 80 = .ok (.iload_n 2, 1) := by decide +kernel
theorem dX5_beginningTurns_81 : decode cX5_beginningTurns 81 = .ok (.iload 4, 2) := by decide +kernel
theorem dX5_beginningTurns_83 : decode cX5_beginningTurns 83 = .ok (.invokevirtual 114, 3) := by decide +kernel
theorem dX5_beginningTurns_86 : decode cX5_beginningTurns 86 = .ok (.invokestatic 247, 3) := by decide +kernel
theorem dX5_beginningTurns_89 : decode cX5_beginningTurns 89 = .ok (.invokevirtual 130, 3) := by decide +kernel
theorem dX5_beginningTurns_92 : decode cX5_beginningTurns 92 = .ok (.iinc 4 (-1), 3) := by decide +kernel
theorem dX5_beginningTurns_95 : decode cX5_beginningTurns 95 = .ok (.goto (-28), 3) := by decide +kernel
theorem dX5_beginningTurns_98 : decode cX5_beginningTurns 98 = .ok (.aload_n 0, 1) := by decide +kernel
theorem dX5_beginningTurns_99 : decode cX5_beginningTurns 99 = .ok (.getfield 44, 3) := by decide +kernel
theorem dX5_beginningTurns_102 : decode cX5_beginningTurns 102 = .ok (.aload_n 0, 1) := by decide +kernel
theorem dX5_beginningTurns_103 : decode cX5_beginningTurns 103 = .ok (.getfield 48, 3) := by decide +kernel
theorem dX5_beginningTurns_106 : decode cX5_beginningTurns 106 = .ok (.invokevirtual 166, 3) := by decide +kernel
theorem dX5_beginningTurns_109 : decode cX5_beginningTurns 109 = .ok (.pop, 1) := by decide +kernel
theorem dX5_beginningTurns_110 : decode cX5_beginningTurns 110 = .ok (.aload_n 0, 1) := by decide +kernel
theorem dX5_beginningTurns_111 : decode cX5_beginningTurns 111 = .ok (.getfield 48, 3) := by decide +kernel
theorem dX5_beginningTurns_114 : decode cX5_beginningTurns 114 = .ok (.getfield 100, 3) := by decide +kernel
theorem dX5_beginningTurns_117 : decode cX5_beginningTurns 117 = .ok (.ifCond .ne 7, 3) := by decide +kernel
theorem dX5_beginningTurns_120 : decode cX5_beginningTurns 120 = .ok (.iconst 1, 1) := by decide +kernel
theorem dX5_beginningTurns_121 : decode cX5_beginningTurns 121 = .ok (.goto 4, 3) := by decide +kernel
theorem dX5_beginningTurns_124 : decode cX5_beginningTurns 124 = .ok (.iconst 0, 1) := by decide +kernel
theorem dX5_beginningTurns_125 : decode cX5_beginningTurns 125 = .ok (.ireturn, 1) := by decide +kernel
theorem dX5_putLoop_0 : decode cX5_putLoop 0 = .ok (.aload_n 0, 1) := by decide +kernel
theorem dX5_putLoop_1 : decode cX5_putLoop 1 = .ok (.getfield 48, 3) := by decide +kernel
theorem dX5_putLoop_4 : decode cX5_putLoop 4 = .ok (.iload_n 2, 1) := by decide +kernel
theorem dX5_putLoop_5 : decode cX5_putLoop 5 = .ok (.invokevirtual 130, 3) := by decide +kernel
theorem dX5_putLoop_8 : decode cX5_putLoop 8 = .ok (.iconst 0, 1) := by decide +kernel
theorem dX5_putLoop_9 : decode cX5_putLoop 9 = .ok (.istore_n 3, 1) := by decide +kernel
theorem dX5_putLoop_10 : decode cX5_putLoop 10 = .ok (.iload_n 3, 1) := by decide +kernel
theorem dX5_putLoop_11 : decode cX5_putLoop 11 = .ok (.aload_n 0, 1) := by decide +kernel
theorem dX5_putLoop_12 : decode cX5_putLoop 12 = .ok (.getfield 35, 3) := by decide +kernel
theorem dX5_putLoop_15 : decode cX5_putLoop 15 = .ok (.iload_n 1, 1) := by decide +kernel
theorem dX5_putLoop_16 : decode cX5_putLoop 16 = .ok (.invokevirtual 111, 3) := by decide +kernel
theorem dX5_putLoop_19 : decode cX5_putLoop 19 = .ok (.if_icmp .ge 25, 3) := by decide +kernel
theorem dX5_putLoop_22 : decode cX5_putLoop 22 = .ok (.aload_n 0, 1) := by decide +kernel
theorem dX5_putLoop_23 : decode cX5_putLoop 23 = .ok (.getfield 48, 3) := by decide +kernel
theorem dX5_putLoop_26 : decode cX5_putLoop 26 = .ok (.aload_n 0, 1) := by decide +kernel
theorem dX5_putLoop_27 : decode cX5_putLoop 27 = .ok (.getfield 35, 3) := by decide +kernel
theorem dX5_putLoop_30 : decode cX5_putLoop 30 = .ok (.iload_n 1, 1) := by decide +kernel
theorem dX5_putLoop_31 : decode cX5_putLoop 31 = .ok (.iload_n 3, 1) := by decide +kernel
theorem dX5_putLoop_32 : decode cX5_putLoop 32 = .ok (.invokevirtual 114, 3) := by decide +kernel
theorem dX5_putLoop_35 : decode cX5_putLoop 35 = .ok (.invokevirtual 130, 3) := by decide +kernel
theorem dX5_putLoop_38 : decode cX5_putLoop 38 = .ok (.iinc 3 1, 3) := by decide +kernel
theorem dX5_putLoop_41 : decode cX5_putLoop 41 = .ok (.goto (-31), 3) := by decide +kernel
theorem dX5_putLoop_44 : decode cX5_putLoop 44 = .ok (.aload_n 0, 1) := by decide +kernel
theorem dX5_putLoop_45 : decode cX5_putLoop 45 = .ok (.getfield 48, 3) := by decide +kernel
theorem dX5_putLoop_48 : decode cX5_putLoop 48 = .ok (.iload_n 2, 1) := by decide +kernel
theorem dX5_putLoop_49 : decode cX5_putLoop 49 = .ok (.invokestatic 247, 3) := by decide +kernel
theorem dX5_putLoop_52 : decode cX5_putLoop 52 = .ok (.invokevirtual 130, 3) := by decide +kernel
theorem dX5_putLoop_55 : decode cX5_putLoop 55 = .ok (.return_, 1) := by decide +kernel
theorem dX5_tell_0 : decode cX5_tell 0 = .ok (.iload_n 1, 1) := by decide +kernel
theorem dX5_tell_1 : decode cX5_tell 1 = .ok (.tableswitch 90 0 6 #[43, 48, 53, 58, 66, 74, 82], 43) := by decide +kernel
theorem dX5_tell_44 : decode cX5_tell 44 = .ok (.aload_n 0, 1) := by decide +kernel
theorem dX5_tell_45 : decode cX5_tell 45 = .ok (.getfield 217, 3) := by decide +kernel
theorem dX5_tell_48 : decode cX5_tell 48 = .ok (.ireturn, 1) := by decide +kernel
theorem dX5_tell_49 : decode cX5_tell 49 = .ok (.aload_n 0, 1) := by decide +kernel
theorem dX5_tell_50 : decode cX5_tell 50 = .ok (.getfield 220, 3) := by decide +kernel
theorem dX5_tell_53 : decode cX5_tell 53 = .ok (.ireturn, 1) := by decide +kernel
theorem dX5_tell_54 : decode cX5_tell 54 = .ok (.aload_n 0, 1) := by decide +kernel
theorem dX5_tell_55 : decode cX5_tell 55 = .ok (.getfield 223, 3) := by decide +kernel
theorem dX5_tell_58 : decode cX5_tell 58 = .ok (.ireturn, 1) := by decide +kernel
theorem dX5_tell_59 : decode cX5_tell 59 = .ok (.aload_n 0, 1) := by decide +kernel
theorem dX5_tell_60 : decode cX5_tell 60 = .ok (.getfield 21, 3) := by decide +kernel
theorem dX5_tell_63 : decode cX5_tell 63 = .ok (.getfield 66, 3) := by decide +kernel
theorem dX5_tell_66 : decode cX5_tell 66 = .ok (.ireturn, 1) := by decide +kernel
theorem dX5_tell_67 : decode cX5_tell 67 = .ok (.aload_n 0, 1) := by decide +kernel
theorem dX5_tell_68 : decode cX5_tell 68 = .ok (.getfield 35, 3) := by decide +kernel
theorem dX5_tell_71 : decode cX5_tell 71 = .ok (.getfield 94, 3) := by decide +kernel
theorem dX5_tell_74 : decode cX5_tell 74 = .ok (.ireturn, 1) := by decide +kernel
theorem dX5_tell_75 : decode cX5_tell 75 = .ok (.aload_n 0, 1) := by decide +kernel
theorem dX5_tell_76 : decode cX5_tell 76 = .ok (.getfield 35, 3) := by decide +kernel
theorem dX5_tell_79 : decode cX5_tell 79 = .ok (.getfield 200, 3) := by decide +kernel
theorem dX5_tell_82 : decode cX5_tell 82 = .ok (.ireturn, 1) := by decide +kernel
theorem dX5_tell_83 : decode cX5_tell 83 = .ok (.aload_n 0, 1) := by decide +kernel
theorem dX5_tell_84 : decode cX5_tell 84 = .ok (.getfield 44, 3) := by decide +kernel
theorem dX5_tell_87 : decode cX5_tell 87 = .ok (.getfield 91, 3) := by decide +kernel
theorem dX5_tell_90 : decode cX5_tell 90 = .ok (.ireturn, 1) := by decide +kernel
theorem dX5_tell_91 : decode cX5_tell 91 = .ok (.aload_n 0, 1) := by decide +kernel
theorem dX5_tell_92 : decode cX5_tell 92 = .ok (.invokevirtual 250, 3) := by decide +kernel
theorem dX5_tell_95 : decode cX5_tell 95 = .ok (.ireturn, 1) := by decide +kernel
theorem dX5_lettersOfAll_0 : decode cX5_lettersOfAll 0 = .ok (.iconst 0, 1) := by decide +kernel
theorem dX5_lettersOfAll_1 : decode cX5_lettersOfAll 1 = .ok (.istore_n 1, 1) := by decide +kernel
theorem dX5_lettersOfAll_2 : decode cX5_lettersOfAll 2 = .ok (.iconst 0, 1) := by decide +kernel
theorem dX5_lettersOfAll_3 : decode cX5_lettersOfAll 3 = .ok (.istore_n 2, 1) := by decide +kernel
theorem dX5_lettersOfAll_4 : decode cX5_lettersOfAll 4 = .ok (.iload_n 2, 1) := by decide +kernel
theorem dX5_lettersOfAll_5 : decode cX5_lettersOfAll 5 = .ok (.bipush 6, 2) := by decide +kernel
theorem dX5_lettersOfAll_7 : decode cX5_lettersOfAll 7 = .ok (.if_icmp .ge 21, 3) := by decide +kernel
theorem dX5_lettersOfAll_10 : decode cX5_lettersOfAll 10 = .ok (.iload_n 1, 1) := by decide +kernel
theorem dX5_lettersOfAll_11 : decode cX5_lettersOfAll 11 = .ok (.aload_n 0, 1) := by decide +kernel
theorem dX5_lettersOfAll_12 : decode cX5_lettersOfAll 12 = .ok (.getfield 11, 3) := by decide +kernel
theorem dX5_lettersOfAll_15 : decode cX5_lettersOfAll 15 = .ok (.iload_n 2, 1) := by decide +kernel
theorem dX5_lettersOfAll_16 : decode cX5_lettersOfAll 16 = .ok (.aaload, 1) := by decide +kernel
theorem dX5_lettersOfAll_17 : decode cX5_lettersOfAll 17 = .ok (.getfield 100, 3) := by decide +kernel
theorem dX5_lettersOfAll_20 : decode cX5_lettersOfAll 20 = .ok (.iadd, 1) := by decide +kernel
theorem dX5_lettersOfAll_21 : decode cX5_lettersOfAll 21 = .ok (.istore_n 1, 1) := by decide +kernel
theorem dX5_lettersOfAll_22 : decode cX5_lettersOfAll 22 = .ok (.iinc 2 1, 3) := by decide +kernel
theorem dX5_lettersOfAll_25 : decode cX5_lettersOfAll 25 = .ok (.goto (-21), 3) := by decide +kernel
theorem dX5_lettersOfAll_28 : decode cX5_lettersOfAll 28 = .ok (.iload_n 1, 1) := by decide +kernel
theorem dX5_lettersOfAll_29 : decode cX5_lettersOfAll 29 = .ok (.ireturn, 1) := by decide +kernel
theorem dX5_digestOf_0 : decode cX5_digestOf 0 = .ok (.ldc2_w 211, 3) := by decide +kernel
theorem dX5_digestOf_3 : decode cX5_digestOf 3 = .ok (.lload_n 1, 1) := by decide +kernel
theorem dX5_digestOf_4 : decode cX5_digestOf 4 = .ok (.lmul, 1) := by decide +kernel
theorem dX5_digestOf_5 : decode cX5_digestOf 5 = .ok (.aload_n 0, 1) := by decide +kernel
theorem dX5_digestOf_6 : decode cX5_digestOf 6 = .ok (.getfield 100, 3) := by decide +kernel
theorem dX5_digestOf_9 : decode cX5_digestOf 9 = .ok (.i2l, 1) := by decide +kernel
theorem dX5_digestOf_10 : decode cX5_digestOf 10 = .ok (.ladd, 1) := by decide +kernel
theorem dX5_digestOf_11 : decode cX5_digestOf 11 = .ok (.lstore_n 3, 1) := by decide +kernel
theorem dX5_digestOf_12 : decode cX5_digestOf 12 = .ok (.iconst 0, 1) := by decide +kernel
theorem dX5_digestOf_13 : decode cX5_digestOf 13 = .ok (.istore 5, 2) := by decide +kernel
theorem dX5_digestOf_15 : decode cX5_digestOf 15 = .ok (.iload 5, 2) := by decide +kernel
theorem dX5_digestOf_17 : decode cX5_digestOf 17 = .ok (.aload_n 0, 1) := by decide +kernel
theorem dX5_digestOf_18 : decode cX5_digestOf 18 = .ok (.getfield 100, 3) := by decide +kernel
theorem dX5_digestOf_21 : decode cX5_digestOf 21 = .ok (.if_icmp .ge 23, 3) := by decide +kernel
theorem dX5_digestOf_24 : decode cX5_digestOf 24 = .ok (.ldc2_w 211, 3) := by decide +kernel
theorem dX5_digestOf_27 : decode cX5_digestOf 27 = .ok (.lload_n 3, 1) := by decide +kernel
theorem dX5_digestOf_28 : decode cX5_digestOf 28 = .ok (.lmul, 1) := by decide +kernel
theorem dX5_digestOf_29 : decode cX5_digestOf 29 = .ok (.aload_n 0, 1) := by decide +kernel
theorem dX5_digestOf_30 : decode cX5_digestOf 30 = .ok (.iload 5, 2) := by decide +kernel
theorem dX5_digestOf_32 : decode cX5_digestOf 32 = .ok (.invokevirtual 127, 3) := by decide +kernel
theorem dX5_digestOf_35 : decode cX5_digestOf 35 = .ok (.i2l, 1) := by decide +kernel
theorem dX5_digestOf_36 : decode cX5_digestOf 36 = .ok (.ladd, 1) := by decide +kernel
theorem dX5_digestOf_37 : decode cX5_digestOf 37 = .ok (.lstore_n 3, 1) := by decide +kernel
theorem dX5_digestOf_38 : decode cX5_digestOf 38 = .ok (.iinc 5 1, 3) := by decide +kernel
theorem dX5_digestOf_41 : decode cX5_digestOf 41 = .ok (.goto (-26), 3) := by decide +kernel
theorem dX5_digestOf_44 : decode cX5_digestOf 44 = .ok (.lload_n 3, 1) := by decide +kernel
theorem dX5_digestOf_45 : decode cX5_digestOf 45 = .ok (.lreturn, 1) := by decide +kernel
theorem dX5_nextDraw_0 : decode cX5_nextDraw 0 = .ok (.lload_n 0, 1) := by decide +kernel
theorem dX5_nextDraw_1 : decode cX5_nextDraw 1 = .ok (.ldc2_w 253, 3) := by decide +kernel
theorem dX5_nextDraw_4 : decode cX5_nextDraw 4 = .ok (.lmul, 1) := by decide +kernel
theorem dX5_nextDraw_5 : decode cX5_nextDraw 5 = .ok (.ldc2_w 255, 3) := by decide +kernel
theorem dX5_nextDraw_8 : decode cX5_nextDraw 8 = .ok (.ladd, 1) := by decide +kernel
theorem dX5_nextDraw_9 : decode cX5_nextDraw 9 = .ok (.ldc2_w 257, 3) := by decide +kernel
theorem dX5_nextDraw_12 : decode cX5_nextDraw 12 = .ok (.lrem, 1) := by decide +kernel
theorem dX5_nextDraw_13 : decode cX5_nextDraw 13 = .ok (.lreturn, 1) := by decide +kernel
theorem dX5_opposite_0 : decode cX5_opposite 0 = .ok (.iload_n 0, 1) := by decide +kernel
theorem dX5_opposite_1 : decode cX5_opposite 1 = .ok (.iconst 4, 1) := by decide +kernel
theorem dX5_opposite_2 : decode cX5_opposite 2 = .ok (.if_icmp .ge 9, 3) := by decide +kernel
theorem dX5_opposite_5 : decode cX5_opposite 5 = .ok (.iload_n 0, 1) := by decide +kernel
theorem dX5_opposite_6 : decode cX5_opposite 6 = .ok (.iconst 4, 1) := by decide +kernel
theorem dX5_opposite_7 : decode cX5_opposite 7 = .ok (.iadd, 1) := by decide +kernel
theorem dX5_opposite_8 : decode cX5_opposite 8 = .ok (.goto 6, 3) := by decide +kernel
theorem dX5_opposite_11 : decode cX5_opposite 11 = .ok (.iload_n 0, 1) := by decide +kernel
theorem dX5_opposite_12 : decode cX5_opposite 12 = .ok (.iconst 4, 1) := by decide +kernel
theorem dX5_opposite_13 : decode cX5_opposite 13 = .ok (.isub, 1) := by decide +kernel
theorem dX5_opposite_14 : decode cX5_opposite 14 = .ok (.ireturn, 1) := by decide +kernel
theorem dJ9_floorMod_7cf53_0 : decode cJ9_floorMod_7cf53 0 = .ok (.iload_n 0, 1) := by decide +kernel
theorem dJ9_floorMod_7cf53_1 : decode cJ9_floorMod_7cf53 1 = .ok (.iload_n 1, 1) := by decide +kernel
theorem dJ9_floorMod_7cf53_2 : decode cJ9_floorMod_7cf53 2 = .ok (.irem, 1) := by decide +kernel
theorem dJ9_floorMod_7cf53_3 : decode cJ9_floorMod_7cf53 3 = .ok (.istore_n 2, 1) := by decide +kernel
theorem dJ9_floorMod_7cf53_4 : decode cJ9_floorMod_7cf53 4 = .ok (.iload_n 0, 1) := by decide +kernel
theorem dJ9_floorMod_7cf53_5 : decode cJ9_floorMod_7cf53 5 = .ok (.iload_n 1, 1) := by decide +kernel
theorem dJ9_floorMod_7cf53_6 : decode cJ9_floorMod_7cf53 6 = .ok (.ixor, 1) := by decide +kernel
theorem dJ9_floorMod_7cf53_7 : decode cJ9_floorMod_7cf53 7 = .ok (.ifCond .ge 11, 3) := by decide +kernel
theorem dJ9_floorMod_7cf53_10 : decode cJ9_floorMod_7cf53 10 = .ok (.iload_n 2, 1) := by decide +kernel
theorem dJ9_floorMod_7cf53_11 : decode cJ9_floorMod_7cf53 11 = .ok (.ifCond .eq 7, 3) := by decide +kernel
theorem dJ9_floorMod_7cf53_14 : decode cJ9_floorMod_7cf53 14 = .ok (.iload_n 2, 1) := by decide +kernel
theorem dJ9_floorMod_7cf53_15 : decode cJ9_floorMod_7cf53 15 = .ok (.iload_n 1, 1) := by decide +kernel
theorem dJ9_floorMod_7cf53_16 : decode cJ9_floorMod_7cf53 16 = .ok (.iadd, 1) := by decide +kernel
theorem dJ9_floorMod_7cf53_17 : decode cJ9_floorMod_7cf53 17 = .ok (.ireturn, 1) := by decide +kernel
theorem dJ9_floorMod_7cf53_18 : decode cJ9_floorMod_7cf53 18 = .ok (.iload_n 2, 1) := by decide +kernel
theorem dJ9_floorMod_7cf53_19 : decode cJ9_floorMod_7cf53 19 = .ok (.ireturn, 1) := by decide +kernel
theorem dJ9_abs_0f7a4_0 : decode cJ9_abs_0f7a4 0 = .ok (.iload_n 0, 1) := by decide +kernel
theorem dJ9_abs_0f7a4_1 : decode cJ9_abs_0f7a4 1 = .ok (.ifCond .ge 8, 3) := by decide +kernel
theorem dJ9_abs_0f7a4_4 : decode cJ9_abs_0f7a4 4 = .ok (.iload_n 0, 1) := by decide +kernel
theorem dJ9_abs_0f7a4_5 : decode cJ9_abs_0f7a4 5 = .ok (.ineg, 1) := by decide +kernel
theorem dJ9_abs_0f7a4_6 : decode cJ9_abs_0f7a4 6 = .ok (.goto 4, 3) := by decide +kernel
theorem dJ9_abs_0f7a4_9 : decode cJ9_abs_0f7a4 9 = .ok (.iload_n 0, 1) := by decide +kernel
theorem dJ9_abs_0f7a4_10 : decode cJ9_abs_0f7a4 10 = .ok (.ireturn, 1) := by decide +kernel
theorem dJ9_max_7cf53_0 : decode cJ9_max_7cf53 0 = .ok (.iload_n 0, 1) := by decide +kernel
theorem dJ9_max_7cf53_1 : decode cJ9_max_7cf53 1 = .ok (.iload_n 1, 1) := by decide +kernel
theorem dJ9_max_7cf53_2 : decode cJ9_max_7cf53 2 = .ok (.if_icmp .lt 7, 3) := by decide +kernel
theorem dJ9_max_7cf53_5 : decode cJ9_max_7cf53 5 = .ok (.iload_n 0, 1) := by decide +kernel
theorem dJ9_max_7cf53_6 : decode cJ9_max_7cf53 6 = .ok (.goto 4, 3) := by decide +kernel
theorem dJ9_max_7cf53_9 : decode cJ9_max_7cf53 9 = .ok (.iload_n 1, 1) := by decide +kernel
theorem dJ9_max_7cf53_10 : decode cJ9_max_7cf53 10 = .ok (.ireturn, 1) := by decide +kernel
theorem dJ9_min_7cf53_0 : decode cJ9_min_7cf53 0 = .ok (.iload_n 0, 1) := by decide +kernel
theorem dJ9_min_7cf53_1 : decode cJ9_min_7cf53 1 = .ok (.iload_n 1, 1) := by decide +kernel
theorem dJ9_min_7cf53_2 : decode cJ9_min_7cf53 2 = .ok (.if_icmp .gt 7, 3) := by decide +kernel
theorem dJ9_min_7cf53_5 : decode cJ9_min_7cf53 5 = .ok (.iload_n 0, 1) := by decide +kernel
theorem dJ9_min_7cf53_6 : decode cJ9_min_7cf53 6 = .ok (.goto 4, 3) := by decide +kernel
theorem dJ9_min_7cf53_9 : decode cJ9_min_7cf53 9 = .ok (.iload_n 1, 1) := by decide +kernel
theorem dJ9_min_7cf53_10 : decode cJ9_min_7cf53 10 = .ok (.ireturn, 1) := by decide +kernel
