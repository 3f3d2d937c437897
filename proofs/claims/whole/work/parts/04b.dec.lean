theorem dX0_init_0 : decode cX0_init 0 = .ok (.aload_n 0, 1) := by decide +kernel
theorem dX0_init_1 : decode cX0_init 1 = .ok (.invokespecial 3, 3) := by decide +kernel
theorem dX0_init_4 : decode cX0_init 4 = .ok (.aload_n 0, 1) := by decide +kernel
theorem dX0_init_5 : decode cX0_init 5 = .ok (.iconst 3, 1) := by decide +kernel
theorem dX0_init_6 : decode cX0_init 6 = .ok (.newarray .int, 2) := by decide +kernel
theorem dX0_init_8 : decode cX0_init 8 = .ok (.putfield 9, 3) := by decide +kernel
theorem dX0_init_11 : decode cX0_init 11 = .ok (.aload_n 0, 1) := by decide +kernel
theorem dX0_init_12 : decode cX0_init 12 = .ok (.iconst 3, 1) := by decide +kernel
theorem dX0_init_13 : decode cX0_init 13 = .ok (.newarray .int, 2) := by decide +kernel
theorem dX0_init_15 : decode cX0_init 15 = .ok (.putfield 15, 3) := by decide +kernel
theorem dX0_init_18 : decode cX0_init 18 = .ok (.aload_n 0, 1) := by decide +kernel
theorem dX0_init_19 : decode cX0_init 19 = .ok (.new 18, 3) := by decide +kernel
theorem dX0_init_22 : decode cX0_init 22 = .ok (.dup, 1) := by decide +kernel
theorem dX0_init_23 : decode cX0_init 23 = .ok (.bipush 14, 2) := by decide +kernel
theorem dX0_init_25 : decode cX0_init 25 = .ok (.invokespecial 20, 3) := by decide +kernel
theorem dX0_init_28 : decode cX0_init 28 = .ok (.putfield 23, 3) := by decide +kernel
theorem dX0_init_31 : decode cX0_init 31 = .ok (.aload_n 0, 1) := by decide +kernel
theorem dX0_init_32 : decode cX0_init 32 = .ok (.bipush 14, 2) := by decide +kernel
theorem dX0_init_34 : decode cX0_init 34 = .ok (.putfield 27, 3) := by decide +kernel
theorem dX0_init_37 : decode cX0_init 37 = .ok (.aload_n 0, 1) := by decide +kernel
theorem dX0_init_38 : decode cX0_init 38 = .ok (.bipush 84, 2) := by decide +kernel
theorem dX0_init_40 : decode cX0_init 40 = .ok (.newarray .int, 2) := by decide +kernel
theorem dX0_init_42 : decode cX0_init 42 = .ok (.putfield 31, 3) := by decide +kernel
theorem dX0_init_45 : decode cX0_init 45 = .ok (.aload_n 0, 1) := by decide +kernel
theorem dX0_init_46 : decode cX0_init 46 = .ok (.bipush 84, 2) := by decide +kernel
theorem dX0_init_48 : decode cX0_init 48 = .ok (.newarray .int, 2) := by decide +kernel
theorem dX0_init_50 : decode cX0_init 50 = .ok (.putfield 34, 3) := by decide +kernel
theorem dX0_init_53 : decode cX0_init 53 = .ok (.aload_n 0, 1) := by decide +kernel
theorem dX0_init_54 : decode cX0_init 54 = .ok (.bipush 8, 2) := by decide +kernel
theorem dX0_init_56 : decode cX0_init 56 = .ok (.bipush 84, 2) := by decide +kernel
theorem dX0_init_58 : decode cX0_init 58 = .ok (.multianewarray 37 2, 4) := by decide +kernel
theorem dX0_init_62 : decode cX0_init 62 = .ok (.putfield 39, 3) := by decide +kernel
theorem dX0_init_65 : decode cX0_init 65 = .ok (.aload_n 0, 1) := by decide +kernel
theorem dX0_init_66 : decode cX0_init 66 = .ok (.bipush 8, 2) := by decide +kernel
theorem dX0_init_68 : decode cX0_init 68 = .ok (.newarray .int, 2) := by decide +kernel
theorem dX0_init_70 : decode cX0_init 70 = .ok (.putfield 42, 3) := by decide +kernel
theorem dX0_init_73 : decode cX0_init 73 = .ok (.aload_n 0, 1) := by decide +kernel
theorem dX0_init_74 : decode cX0_init 74 = .ok (.iconst 3, 1) := by decide +kernel
theorem dX0_init_75 : decode cX0_init 75 = .ok (.iconst 4, 1) := by decide +kernel
theorem dX0_init_76 : decode cX0_init 76 = .ok (.multianewarray 37 2, 4) := by decide +kernel
theorem dX0_init_80 : decode cX0_init 80 = .ok (.putfield 45, 3) := by decide +kernel
theorem dX0_init_83 : decode cX0_init 83 = .ok (.aload_n 0, 1) := by decide +kernel
theorem dX0_init_84 : decode cX0_init 84 = .ok (.iconst 3, 1) := by decide +kernel
theorem dX0_init_85 : decode cX0_init 85 = .ok (.anewarray 18, 3) := by decide +kernel
theorem dX0_init_88 : decode cX0_init 88 = .ok (.putfield 48, 3) := by decide +kernel
theorem dX0_init_91 : decode cX0_init 91 = .ok (.iconst 0, 1) := by decide +kernel
theorem dX0_init_92 : decode cX0_init 92 = .ok (.istore_n 1, 1) := by decide +kernel
theorem dX0_init_93 : decode cX0_init 93 = .ok (.iload_n 1, 1) := by decide +kernel
theorem dX0_init_94 : decode cX0_init 94 = .ok (.iconst 3, 1) := by decide +kernel
theorem dX0_init_95 : decode cX0_init 95 = .ok (.if_icmp .ge 24, 3) := by decide +kernel
theorem dX0_init_98 : decode cX0_init 98 = .ok (.aload_n 0, 1) := by decide +kernel
theorem dX0_init_99 : decode cX0_init 99 = .ok (.getfield 48, 3) := by decide +kernel
theorem dX0_init_102 : decode cX0_init 102 = .ok (.iload_n 1, 1) := by decide +kernel
theorem dX0_init_103 : decode cX0_init 103 = .ok (.new 18, 3) := by decide +kernel
theorem dX0_init_106 : decode cX0_init 106 = .ok (.dup, 1) := by decide +kernel
theorem dX0_init_107 : decode cX0_init 107 = .ok (.bipush 14, 2) := by decide +kernel
theorem dX0_init_109 : decode cX0_init 109 = .ok (.invokespecial 20, 3) := by decide +kernel
theorem dX0_init_112 : decode cX0_init 112 = .ok (.aastore, 1) := by decide +kernel
theorem dX0_init_113 : decode cX0_init 113 = .ok (.iinc 1 1, 3) := by decide +kernel
theorem dX0_init_116 : decode cX0_init 116 = .ok (.goto (-23), 3) := by decide +kernel
theorem dX0_init_119 : decode cX0_init 119 = .ok (.aload_n 0, 1) := by decide +kernel
theorem dX0_init_120 : decode cX0_init 120 = .ok (.bipush 84, 2) := by decide +kernel
theorem dX0_init_122 : decode cX0_init 122 = .ok (.anewarray 18, 3) := by decide +kernel
theorem dX0_init_125 : decode cX0_init 125 = .ok (.putfield 52, 3) := by decide +kernel
theorem dX0_init_128 : decode cX0_init 128 = .ok (.iconst 0, 1) := by decide +kernel
theorem dX0_init_129 : decode cX0_init 129 = .ok (.istore_n 1, 1) := by decide +kernel
theorem dX0_init_130 : decode cX0_init 130 = .ok (.iload_n 1, 1) := by decide +kernel
theorem dX0_init_131 : decode cX0_init 131 = .ok (.bipush 84, 2) := by decide +kernel
theorem dX0_init_133 : decode cX0_init 133 = .ok (.if_icmp .ge 24, 3) := by decide +kernel
theorem dX0_init_136 : decode cX0_init 136 = .ok (.aload_n 0, 1) := by decide +kernel
theorem dX0_init_137 : decode cX0_init 137 = .ok (.getfield 52, 3) := by decide +kernel
theorem dX0_init_140 : decode cX0_init 140 = .ok (.iload_n 1, 1) := by decide +kernel
theorem dX0_init_141 : decode cX0_init 141 = .ok (.new 18, 3) := by decide +kernel
theorem dX0_init_144 : decode cX0_init 144 = .ok (.dup, 1) := by decide +kernel
theorem dX0_init_145 : decode cX0_init 145 = .ok (.bipush 14, 2) := by decide +kernel
theorem dX0_init_147 : decode cX0_init 147 = .ok (.invokespecial 20, 3) := by decide +kernel
theorem dX0_init_150 : decode cX0_init 150 = .ok (.aastore, 1) := by decide +kernel
theorem dX0_init_151 : decode cX0_init 151 = .ok (.iinc 1 1, 3) := by decide +kernel
theorem dX0_init_154 : decode cX0_init 154 = .ok (.goto (-24), 3) := by decide +kernel
theorem dX0_init_157 : decode cX0_init 157 = .ok (.return_, 1) := by decide +kernel
theorem dX0_become_0 : decode cX0_become 0 = .ok (.aload_n 0, 1) := by decide +kernel
theorem dX0_become_1 : decode cX0_become 1 = .ok (.aload_n 1, 1) := by decide +kernel
theorem dX0_become_2 : decode cX0_become 2 = .ok (.getfield 55, 3) := by decide +kernel
theorem dX0_become_5 : decode cX0_become 5 = .ok (.iconst 3, 1) := by decide +kernel
theorem dX0_become_6 : decode cX0_become 6 = .ok (.invokestatic 60, 3) := by decide +kernel
theorem dX0_become_9 : decode cX0_become 9 = .ok (.putfield 66, 3) := by decide +kernel
theorem dX0_become_12 : decode cX0_become 12 = .ok (.aload_n 0, 1) := by decide +kernel
theorem dX0_become_13 : decode cX0_become 13 = .ok (.iconst 0, 1) := by decide +kernel
theorem dX0_become_14 : decode cX0_become 14 = .ok (.putfield 69, 3) := by decide +kernel
theorem dX0_become_17 : decode cX0_become 17 = .ok (.aload_n 0, 1) := by decide +kernel
theorem dX0_become_18 : decode cX0_become 18 = .ok (.bipush 14, 2) := by decide +kernel
theorem dX0_become_20 : decode cX0_become 20 = .ok (.putfield 27, 3) := by decide +kernel
theorem dX0_become_23 : decode cX0_become 23 = .ok (.iconst 0, 1) := by decide +kernel
theorem dX0_become_24 : decode cX0_become 24 = .ok (.istore_n 2, 1) := by decide +kernel
theorem dX0_become_25 : decode cX0_become 25 = .ok (.iload_n 2, 1) := by decide +kernel
theorem dX0_become_26 : decode cX0_become 26 = .ok (.bipush 8, 2) := by decide +kernel
theorem dX0_become_28 : decode cX0_become 28 = .ok (.if_icmp .ge 16, 3) := by decide +kernel
theorem dX0_become_31 : decode cX0_become 31 = .ok (.aload_n 0, 1) := by decide +kernel
theorem dX0_become_32 : decode cX0_become 32 = .ok (.getfield 42, 3) := by decide +kernel
theorem dX0_become_35 : decode cX0_become 35 = .ok (.iload_n 2, 1) := by decide +kernel
theorem dX0_become_36 : decode cX0_become 36 = .ok (.iconst 0, 1) := by decide +kernel
theorem dX0_become_37 : decode cX0_become 37 = .ok (.iastore, 1) := by decide +kernel
theorem dX0_become_38 : decode cX0_become 38 = .ok (.iinc 2 1, 3) := by decide +kernel
theorem dX0_become_41 : decode cX0_become 41 = .ok (.goto (-16), 3) := by decide +kernel
theorem dX0_become_44 : decode cX0_become 44 = .ok (.iconst 0, 1) := by decide +kernel
theorem dX0_become_45 : decode cX0_become 45 = .ok (.istore_n 2, 1) := by decide +kernel
theorem dX0_become_46 : decode cX0_become 46 = .ok (.iload_n 2, 1) := by decide +kernel
theorem dX0_become_47 : decode cX0_become 47 = .ok (.aload_n 0, 1) := by decide +kernel
theorem dX0_become_48 : decode cX0_become 48 = .ok (.getfield 66, 3) := by decide +kernel
theorem dX0_become_51 : decode cX0_become 51 = .ok (.if_icmp .ge 78, 3) := by decide +kernel
theorem dX0_become_54 : decode cX0_become 54 = .ok (.aload_n 0, 1) := by decide +kernel
theorem dX0_become_55 : decode cX0_become 55 = .ok (.getfield 9, 3) := by decide +kernel
theorem dX0_become_58 : decode cX0_become 58 = .ok (.iload_n 2, 1) := by decide +kernel
theorem dX0_become_59 : decode cX0_become 59 = .ok (.iconst 0, 1) := by decide +kernel
theorem dX0_become_60 : decode cX0_become 60 = .ok (.iastore, 1) := by decide +kernel
theorem dX0_become_61 : decode cX0_become 61 = .ok (.aload_n 0, 1) := by decide +kernel
theorem dX0_become_62 : decode cX0_become 62 = .ok (.getfield 15, 3) := by decide +kernel
theorem dX0_become_65 : decode cX0_become 65 = .ok (.iload_n 2, 1) := by decide +kernel
theorem dX0_become_66 : decode cX0_become 66 = .ok (.iconst 0, 1) := by decide +kernel
theorem dX0_become_67 : decode cX0_become 67 = .ok (.iastore, 1) := by decide +kernel
theorem dX0_become_68 : decode cX0_become 68 = .ok (.aload_n 0, 1) := by decide +kernel
theorem dX0_become_69 : decode cX0_become 69 = .ok (.getfield 48, 3) := by decide +kernel
theorem dX0_become_72 : decode cX0_become 72 = .ok (.iload_n 2, 1) := by decide +kernel
theorem dX0_become_73 : decode cX0_become 73 = .ok (.aaload, 1) := by decide +kernel
theorem dX0_become_74 : decode cX0_become 74 = .ok (.aload_n 1, 1) := by decide +kernel
theorem dX0_become_75 : decode cX0_become 75 = .ok (.getfield 70, 3) := by decide +kernel
theorem dX0_become_78 : decode cX0_become 78 = .ok (.iload_n 2, 1) := by decide +kernel
theorem dX0_become_79 : decode cX0_become 79 = .ok (.aaload, 1) := by decide +kernel
theorem dX0_become_80 : decode cX0_become 80 = .ok (.invokevirtual 73, 3) := by decide +kernel
theorem dX0_become_83 : decode cX0_become 83 = .ok (.aload_n 0, 1) := by decide +kernel
theorem dX0_become_84 : decode cX0_become 84 = .ok (.iload_n 2, 1) := by decide +kernel
theorem dX0_become_85 : decode cX0_become 85 = .ok (.aload_n 0, 1) := by decide +kernel
theorem dX0_become_86 : decode cX0_become 86 = .ok (.getfield 48, 3) := by decide +kernel
theorem dX0_become_89 : decode cX0_become 89 = .ok (.iload_n 2, 1) := by decide +kernel
theorem dX0_become_90 : decode cX0_become 90 = .ok (.aaload, 1) := by decide +kernel
theorem dX0_become_91 : decode cX0_become 91 = .ok (.invokevirtual 77, 3) := by decide +kernel
theorem dX0_become_94 : decode cX0_become 94 = .ok (.aload_n 0, 1) := by decide +kernel
theorem dX0_become_95 : decode cX0_become 95 = .ok (.getfield 23, 3) := by decide +kernel
theorem dX0_become_98 : decode cX0_become 98 = .ok (.invokevirtual 81, 3) := by decide +kernel
theorem dX0_become_101 : decode cX0_become 101 = .ok (.aload_n 0, 1) := by decide +kernel
theorem dX0_become_102 : decode cX0_become 102 = .ok (.getfield 23, 3) := by decide +kernel
theorem dX0_become_105 : decode cX0_become 105 = .ok (.aload_n 0, 1) := by decide +kernel
theorem dX0_become_106 : decode cX0_become 106 = .ok (.getfield 48, 3) := by decide +kernel
theorem dX0_become_109 : decode cX0_become 109 = .ok (.iload_n 2, 1) := by decide +kernel
theorem dX0_become_110 : decode cX0_become 110 = .ok (.aaload, 1) := by decide +kernel
theorem dX0_become_111 : decode cX0_become 111 = .ok (.invokevirtual 84, 3) := by decide +kernel
theorem dX0_become_114 : decode cX0_become 114 = .ok (.aload_n 0, 1) := by decide +kernel
theorem dX0_become_115 : decode cX0_become 115 = .ok (.iload_n 2, 1) := by decide +kernel
theorem dX0_become_116 : decode cX0_become 116 = .ok (.aload_n 0, 1) := by decide +kernel
theorem dX0_become_117 : decode cX0_become 117 = .ok (.getfield 23, 3) := by decide +kernel
theorem dX0_become_120 : decode cX0_become 120 = .ok (.invokevirtual 77, 3) := by decide +kernel
theorem dX0_become_123 : decode cX0_become 123 = .ok (.iinc 2 1, 3) := by decide +kernel
theorem dX0_become_126 : decode cX0_become 126 = .ok (.goto (-80), 3) := by decide +kernel
theorem dX0_become_129 : decode cX0_become 129 = .ok (.aload_n 0, 1) := by decide +kernel
theorem dX0_become_130 : decode cX0_become 130 = .ok (.invokevirtual 87, 3) := by decide +kernel
theorem dX0_become_133 : decode cX0_become 133 = .ok (.return_, 1) := by decide +kernel
theorem dX0_addTurns_0 : decode cX0_addTurns 0 = .ok (.iconst 0, 1) := by decide +kernel
theorem dX0_addTurns_1 : decode cX0_addTurns 1 = .ok (.istore_n 3, 1) := by decide +kernel
theorem dX0_addTurns_2 : decode cX0_addTurns 2 = .ok (.iload_n 3, 1) := by decide +kernel
theorem dX0_addTurns_3 : decode cX0_addTurns 3 = .ok (.aload_n 2, 1) := by decide +kernel
theorem dX0_addTurns_4 : decode cX0_addTurns 4 = .ok (.getfield 90, 3) := by decide +kernel
theorem dX0_addTurns_7 : decode cX0_addTurns 7 = .ok (.if_icmp .ge 129, 3) := by decide +kernel
theorem dX0_addTurns_10 : decode cX0_addTurns 10 = .ok (.aload_n 0, 1) := by decide +kernel
theorem dX0_addTurns_11 : decode cX0_addTurns 11 = .ok (.getfield 69, 3) := by decide +kernel
theorem dX0_addTurns_14 : decode cX0_addTurns 14 = .ok (.bipush 84, 2) := by decide +kernel
theorem dX0_addTurns_16 : decode cX0_addTurns 16 = .ok (.if_icmp .ge 120, 3) := by decide +kernel
theorem dX0_addTurns_19 : decode cX0_addTurns 19 = .ok (.aload_n 0, 1) := by decide +kernel
theorem dX0_addTurns_20 : decode cX0_addTurns 20 = .ok (.getfield 52, 3) := by decide +kernel
theorem dX0_addTurns_23 : decode cX0_addTurns 23 = .ok (.aload_n 0, 1) := by decide +kernel
theorem dX0_addTurns_24 : decode cX0_addTurns 24 = .ok (.getfield 69, 3) := by decide +kernel
theorem dX0_addTurns_27 : decode cX0_addTurns 27 = .ok (.aaload, 1) := by decide +kernel
theorem dX0_addTurns_28 : decode cX0_addTurns 28 = .ok (.astore 4, 2) := by decide +kernel
theorem dX0_addTurns_30 : decode cX0_addTurns 30 = .ok (.aload 4, 2) := by decide +kernel
theorem dX0_addTurns_32 : decode cX0_addTurns 32 = .ok (.invokevirtual 81, 3) := by decide +kernel
theorem dX0_addTurns_35 : decode cX0_addTurns 35 = .ok (.aload 4, 2) := by decide +kernel
theorem dX0_addTurns_37 : decode cX0_addTurns 37 = .ok (.aload_n 2, 1) := by decide +kernel
theorem dX0_addTurns_38 : decode cX0_addTurns 38 = .ok (.iload_n 3, 1) := by decide +kernel
theorem dX0_addTurns_39 : decode cX0_addTurns 39 = .ok (.invokevirtual 91, 3) := by decide +kernel
theorem dX0_addTurns_42 : decode cX0_addTurns 42 = .ok (.aload_n 0, 1) := by decide +kernel
theorem dX0_addTurns_43 : decode cX0_addTurns 43 = .ok (.aload 4, 2) := by decide +kernel
theorem dX0_addTurns_45 : decode cX0_addTurns 45 = .ok (.invokevirtual 95, 3) := by decide +kernel
theorem dX0_addTurns_48 : decode cX0_addTurns 48 = .ok (.istore 5, 2) := by decide +kernel
theorem dX0_addTurns_50 : decode cX0_addTurns 50 = .ok (.iload 5, 2) := by decide +kernel
theorem dX0_addTurns_52 : decode cX0_addTurns 52 = .ok (.iconst (-1), 1) := by decide +kernel
theorem dX0_addTurns_53 : decode cX0_addTurns 53 = .ok (.if_icmp .eq 19, 3) := by decide +kernel
theorem dX0_addTurns_56 : decode cX0_addTurns 56 = .ok (.aload_n 0, 1) := by decide +kernel
theorem dX0_addTurns_57 : decode cX0_addTurns 57 = .ok (.getfield 31, 3) := by decide +kernel
theorem dX0_addTurns_60 : decode cX0_addTurns 60 = .ok (.iload 5, 2) := by decide +kernel
theorem dX0_addTurns_62 : decode cX0_addTurns 62 = .ok (.dup2, 1) := by decide +kernel
theorem dX0_addTurns_63 : decode cX0_addTurns 63 = .ok (.iaload, 1) := by decide +kernel
theorem dX0_addTurns_64 : decode cX0_addTurns 64 = .ok (.iconst 1, 1) := by decide +kernel
theorem dX0_addTurns_65 : decode cX0_addTurns 65 = .ok (.iload_n 1, 1) := by decide +kernel
theorem dX0_addTurns_66 : decode cX0_addTurns 66 = .ok (.ishl, 1) := by decide +kernel
theorem dX0_addTurns_67 : decode cX0_addTurns 67 = .ok (.ior, 1) := by decide +kernel
theorem dX0_addTurns_68 : decode cX0_addTurns 68 = .ok (.iastore, 1) := by decide +kernel
theorem dX0_addTurns_69 : decode cX0_addTurns 69 = .ok (.goto 61, 3) := by decide +kernel
theorem dX0_addTurns_72 : decode cX0_addTurns 72 = .ok (.aload_n 0, 1) := by decide +kernel
theorem dX0_addTurns_73 : decode cX0_addTurns 73 = .ok (.getfield 31, 3) := by decide +kernel
theorem dX0_addTurns_76 : decode cX0_addTurns 76 = .ok (.aload_n 0, 1) := by decide +kernel
theorem dX0_addTurns_77 : decode cX0_addTurns 77 = .ok (.getfield 69, 3) := by decide +kernel
theorem dX0_addTurns_80 : decode cX0_addTurns 80 = .ok (.iconst 1, 1) := by decide +kernel
theorem dX0_addTurns_81 : decode cX0_addTurns 81 = .ok (.iload_n 1, 1) := by decide +kernel
theorem dX0_addTurns_82 : decode cX0_addTurns 82 = .ok (.ishl, 1) := by decide +kernel
theorem dX0_addTurns_83 : decode cX0_addTurns 83 = .ok (.iastore, 1) := by decide +kernel
theorem dX0_addTurns_84 : decode cX0_addTurns 84 = .ok (.aload_n 0, 1) := by decide +kernel
theorem dX0_addTurns_85 : decode cX0_addTurns 85 = .ok (.getfield 15, 3) := by decide +kernel
theorem dX0_addTurns_88 : decode cX0_addTurns 88 = .ok (.iload_n 1, 1) := by decide +kernel
theorem dX0_addTurns_89 : decode cX0_addTurns 89 = .ok (.dup2, 1) := by decide +kernel
theorem dX0_addTurns_90 : decode cX0_addTurns 90 = .ok (.iaload, 1) := by decide +kernel
theorem dX0_addTurns_91 : decode cX0_addTurns 91 = .ok (.iconst 1, 1) := by decide +kernel
theorem dX0_addTurns_92 : decode cX0_addTurns 92 = .ok (.iadd, 1) := by decide +kernel
theorem dX0_addTurns_93 : decode cX0_addTurns 93 = .ok (.iastore, 1) := by decide +kernel
theorem dX0_addTurns_94 : decode cX0_addTurns 94 = .ok (.aload_n 0, 1) := by decide +kernel
theorem dX0_addTurns_95 : decode cX0_addTurns 95 = .ok (.aload 4, 2) := by decide +kernel
theorem dX0_addTurns_97 : decode cX0_addTurns 97 = .ok (.iconst 0, 1) := by decide +kernel
theorem dX0_addTurns_98 : decode cX0_addTurns 98 = .ok (.invokevirtual 99, 3) := by decide +kernel
theorem dX0_addTurns_101 : decode cX0_addTurns 101 = .ok (.invokevirtual 103, 3) := by decide +kernel
theorem dX0_addTurns_104 : decode cX0_addTurns 104 = .ok (.aload_n 0, 1) := by decide +kernel
theorem dX0_addTurns_105 : decode cX0_addTurns 105 = .ok (.aload_n 0, 1) := by decide +kernel
theorem dX0_addTurns_106 : decode cX0_addTurns 106 = .ok (.getfield 27, 3) := by decide +kernel
theorem dX0_addTurns_109 : decode cX0_addTurns 109 = .ok (.aload 4, 2) := by decide +kernel
theorem dX0_addTurns_111 : decode cX0_addTurns 111 = .ok (.getfield 90, 3) := by decide +kernel
theorem dX0_addTurns_114 : decode cX0_addTurns 114 = .ok (.invokestatic 60, 3) := by decide +kernel
theorem dX0_addTurns_117 : decode cX0_addTurns 117 = .ok (.putfield 27, 3) := by decide +kernel
theorem dX0_addTurns_120 : decode cX0_addTurns 120 = .ok (.aload_n 0, 1) := by decide +kernel
theorem dX0_addTurns_121 : decode cX0_addTurns 121 = .ok (.dup, 1) := by decide +kernel
theorem dX0_addTurns_122 : decode cX0_addTurns 122 = .ok (.getfield 69, 3) := by decide +kernel
theorem dX0_addTurns_125 : decode cX0_addTurns 125 = .ok (.iconst 1, 1) := by decide +kernel
theorem dX0_addTurns_126 : decode cX0_addTurns 126 = .ok (.iadd, 1) := by decide +kernel
theorem dX0_addTurns_127 : decode cX0_addTurns 127 = .ok (.putfield 69, 3) := by decide +kernel
theorem dX0_addTurns_130 : decode cX0_addTurns 130 = .ok (.iinc 3 1, 3) := by decide +kernel
theorem dX0_addTurns_133 : decode cX0_addTurns 133 = .ok (.goto (-131), 3) := by decide +kernel
theorem dX0_addTurns_136 : decode cX0_addTurns 136 = .ok (.return_, 1) := by decide +kernel
theorem dX0_earlierLike_0 : decode cX0_earlierLike 0 = .ok (.iconst 0, 1) := by decide +kernel
theorem dX0_earlierLike_1 : decode cX0_earlierLike 1 = .ok (.istore_n 2, 1) := by decide +kernel
theorem dX0_earlierLike_2 : decode cX0_earlierLike 2 = .ok (.iload_n 2, 1) := by decide +kernel
theorem dX0_earlierLike_3 : decode cX0_earlierLike 3 = .ok (.aload_n 0, 1) := by decide +kernel
theorem dX0_earlierLike_4 : decode cX0_earlierLike 4 = .ok (.getfield 69, 3) := by decide +kernel
theorem dX0_earlierLike_7 : decode cX0_earlierLike 7 = .ok (.if_icmp .ge 47, 3) := by decide +kernel
theorem dX0_earlierLike_10 : decode cX0_earlierLike 10 = .ok (.iload_n 2, 1) := by decide +kernel
theorem dX0_earlierLike_11 : decode cX0_earlierLike 11 = .ok (.bipush 84, 2) := by decide +kernel
theorem dX0_earlierLike_13 : decode cX0_earlierLike 13 = .ok (.if_icmp .ge 41, 3) := by decide +kernel
theorem dX0_earlierLike_16 : decode cX0_earlierLike 16 = .ok (.aload_n 0, 1) := by decide +kernel
theorem dX0_earlierLike_17 : decode cX0_earlierLike 17 = .ok (.getfield 52, 3) := by decide +kernel
theorem dX0_earlierLike_20 : decode cX0_earlierLike 20 = .ok (.iload_n 2, 1) := by decide +kernel
theorem dX0_earlierLike_21 : decode cX0_earlierLike 21 = .ok (.aaload, 1) := by decide +kernel
theorem dX0_earlierLike_22 : decode cX0_earlierLike 22 = .ok (.getfield 90, 3) := by decide +kernel
theorem dX0_earlierLike_25 : decode cX0_earlierLike 25 = .ok (.aload_n 1, 1) := by decide +kernel
theorem dX0_earlierLike_26 : decode cX0_earlierLike 26 = .ok (.getfield 90, 3) := by decide +kernel
theorem dX0_earlierLike_29 : decode cX0_earlierLike 29 = .ok (.if_icmp .ne 19, 3) := by decide +kernel
theorem dX0_earlierLike_32 : decode cX0_earlierLike 32 = .ok (.aload_n 0, 1) := by decide +kernel
theorem dX0_earlierLike_33 : decode cX0_earlierLike 33 = .ok (.aload_n 1, 1) := by decide +kernel
theorem dX0_earlierLike_34 : decode cX0_earlierLike 34 = .ok (.iconst 0, 1) := by decide +kernel
theorem dX0_earlierLike_35 : decode cX0_earlierLike 35 = .ok (.iload_n 2, 1) := by decide +kernel
theorem dX0_earlierLike_36 : decode cX0_earlierLike 36 = .ok (.invokevirtual 106, 3) := by decide +kernel
theorem dX0_earlierLike_39 : decode cX0_earlierLike 39 = .ok (.aload_n 1, 1) := by decide +kernel
theorem dX0_earlierLike_40 : decode cX0_earlierLike 40 = .ok (.getfield 90, 3) := by decide +kernel
theorem dX0_earlierLike_43 : decode cX0_earlierLike 43 = .ok (.if_icmp .ne 5, 3) := by decide +kernel
theorem dX0_earlierLike_46 : decode cX0_earlierLike 46 = .ok (.iload_n 2, 1) := by decide +kernel
theorem dX0_earlierLike_47 : decode cX0_earlierLike 47 = .ok (.ireturn, 1) := by decide +kernel
theorem dX0_earlierLike_48 : decode cX0_earlierLike 48 = .ok (.iinc 2 1, 3) := by decide +kernel
theorem dX0_earlierLike_51 : decode cX0_earlierLike 51 = .ok (.goto (-49), 3) := by decide +kernel
theorem dX0_earlierLike_54 : decode cX0_earlierLike 54 = .ok (.iconst (-1), 1) := by decide +kernel
theorem dX0_earlierLike_55 : decode cX0_earlierLike 55 = .ok (.ireturn, 1) := by decide +kernel
theorem dX0_listByFirstLetter_0 : decode cX0_listByFirstLetter 0 = .ok (.iload_n 1, 1) := by decide +kernel
theorem dX0_listByFirstLetter_1 : decode cX0_listByFirstLetter 1 = .ok (.ifCond .lt 47, 3) := by decide +kernel
theorem dX0_listByFirstLetter_4 : decode cX0_listByFirstLetter 4 = .ok (.iload_n 1, 1) := by decide +kernel
theorem dX0_listByFirstLetter_5 : decode cX0_listByFirstLetter 5 = .ok (.bipush 8, 2) := by decide +kernel
theorem dX0_listByFirstLetter_7 : decode cX0_listByFirstLetter 7 = .ok (.if_icmp .ge 41, 3) := by decide +kernel
theorem dX0_listByFirstLetter_10 : decode cX0_listByFirstLetter 10 = .ok (.aload_n 0, 1) := by decide +kernel
theorem dX0_listByFirstLetter_11 : decode cX0_listByFirstLetter 11 = .ok (.getfield 42, 3) := by decide +kernel
theorem dX0_listByFirstLetter_14 : decode cX0_listByFirstLetter 14 = .ok (.iload_n 1, 1) := by decide +kernel
theorem dX0_listByFirstLetter_15 : decode cX0_listByFirstLetter 15 = .ok (.iaload, 1) := by decide +kernel
theorem dX0_listByFirstLetter_16 : decode cX0_listByFirstLetter 16 = .ok (.bipush 84, 2) := by decide +kernel
theorem dX0_listByFirstLetter_18 : decode cX0_listByFirstLetter 18 = .ok (.if_icmp .ge 30, 3) := by decide +kernel
theorem dX0_listByFirstLetter_21 : decode cX0_listByFirstLetter 21 = .ok (.aload_n 0, 1) := by decide +kernel
theorem dX0_listByFirstLetter_22 : decode cX0_listByFirstLetter 22 = .ok (.getfield 39, 3) := by decide +kernel
theorem dX0_listByFirstLetter_25 : decode cX0_listByFirstLetter 25 = .ok (.iload_n 1, 1) := by decide +kernel
theorem dX0_listByFirstLetter_26 : decode cX0_listByFirstLetter 26 = .ok (.aaload, 1) := by decide +kernel
theorem dX0_listByFirstLetter_27 : decode cX0_listByFirstLetter 27 = .ok (.aload_n 0, 1) := by decide +kernel
theorem dX0_listByFirstLetter_28 : decode cX0_listByFirstLetter 28 = .ok (.getfield 42, 3) := by decide +kernel
theorem dX0_listByFirstLetter_31 : decode cX0_listByFirstLetter 31 = .ok (.iload_n 1, 1) := by decide +kernel
theorem dX0_listByFirstLetter_32 : decode cX0_listByFirstLetter 32 = .ok (.iaload, 1) := by decide +kernel
theorem dX0_listByFirstLetter_33 : decode cX0_listByFirstLetter 33 = .ok (.aload_n 0, 1) := by decide +kernel
theorem dX0_listByFirstLetter_34 : decode cX0_listByFirstLetter 34 = .ok (.getfield 69, 3) := by decide +kernel
theorem dX0_listByFirstLetter_37 : decode cX0_listByFirstLetter 37 = .ok (.iastore, 1) := by decide +kernel
theorem dX0_listByFirstLetter_38 : decode cX0_listByFirstLetter 38 = .ok (.aload_n 0, 1) := by decide +kernel
theorem dX0_listByFirstLetter_39 : decode cX0_listByFirstLetter 39 = .ok (.getfield 42, 3) := by decide +kernel
theorem dX0_listByFirstLetter_42 : decode cX0_listByFirstLetter 42 = .ok (.iload_n 1, 1) := by decide +kernel
theorem dX0_listByFirstLetter_43 : decode cX0_listByFirstLetter 43 = .ok (.dup2, 1) := by decide +kernel
theorem dX0_listByFirstLetter_44 : decode cX0_listByFirstLetter 44 = .ok (.iaload, 1) := by decide +kernel
theorem dX0_listByFirstLetter_45 : decode cX0_listByFirstLetter 45 = .ok (.iconst 1, 1) := by decide +kernel
theorem dX0_listByFirstLetter_46 : decode cX0_listByFirstLetter 46 = .ok (.iadd, 1) := by decide +kernel
theorem dX0_listByFirstLetter_47 : decode cX0_listByFirstLetter 47 = .ok (.iastore, 1) := by decide +kernel
theorem dX0_listByFirstLetter_48 : decode cX0_listByFirstLetter 48 = .ok (.return_, 1) := by decide +kernel
theorem dX0_measure_0 : decode cX0_measure 0 = .ok (.iconst 0, 1) := by decide +kernel
theorem dX0_measure_1 : decode cX0_measure 1 = .ok (.istore_n 1, 1) := by decide +kernel
theorem dX0_measure_2 : decode cX0_measure 2 = .ok (.iload_n 1, 1) := by decide +kernel
theorem dX0_measure_3 : decode cX0_measure 3 = .ok (.aload_n 0, 1) := by decide +kernel
theorem dX0_measure_4 : decode cX0_measure 4 = .ok (.getfield 69, 3) := by decide +kernel
theorem dX0_measure_7 : decode cX0_measure 7 = .ok (.if_icmp .ge 70, 3) := by decide +kernel
theorem dX0_measure_10 : decode cX0_measure 10 = .ok (.aload_n 0, 1) := by decide +kernel
theorem dX0_measure_11 : decode cX0_measure 11 = .ok (.getfield 34, 3) := by decide +kernel
theorem dX0_measure_14 : decode cX0_measure 14 = .ok (.iload_n 1, 1) := by decide +kernel
theorem dX0_measure_15 : decode cX0_measure 15 = .ok (.iconst 0, 1) := by decide +kernel
theorem dX0_measure_16 : decode cX0_measure 16 = .ok (.iastore, 1) := by decide +kernel
theorem dX0_measure_17 : decode cX0_measure 17 = .ok (.iconst 0, 1) := by decide +kernel
theorem dX0_measure_18 : decode cX0_measure 18 = .ok (.istore_n 2, 1) := by decide +kernel
theorem dX0_measure_19 : decode cX0_measure 19 = .ok (.iload_n 2, 1) := by decide +kernel
theorem dX0_measure_20 : decode cX0_measure 20 = .ok (.iload_n 1, 1) := by decide +kernel
theorem dX0_measure_21 : decode cX0_measure 21 = .ok (.if_icmp .ge 50, 3) := by decide +kernel
theorem dX0_measure_24 : decode cX0_measure 24 = .ok (.aload_n 0, 1) := by decide +kernel
theorem dX0_measure_25 : decode cX0_measure 25 = .ok (.iload_n 2, 1) := by decide +kernel
theorem dX0_measure_26 : decode cX0_measure 26 = .ok (.iload_n 1, 1) := by decide +kernel
theorem dX0_measure_27 : decode cX0_measure 27 = .ok (.invokevirtual 110, 3) := by decide +kernel
theorem dX0_measure_30 : decode cX0_measure 30 = .ok (.istore_n 3, 1) := by decide +kernel
theorem dX0_measure_31 : decode cX0_measure 31 = .ok (.aload_n 0, 1) := by decide +kernel
theorem dX0_measure_32 : decode cX0_measure 32 = .ok (.getfield 34, 3) := by decide +kernel
theorem dX0_measure_35 : decode cX0_measure 35 = .ok (.iload_n 1, 1) := by decide +kernel
theorem dX0_measure_36 : decode cX0_measure 36 = .ok (.aload_n 0, 1) := by decide +kernel
theorem dX0_measure_37 : decode cX0_measure 37 = .ok (.getfield 34, 3) := by decide +kernel
theorem dX0_measure_40 : decode cX0_measure 40 = .ok (.iload_n 1, 1) := by decide +kernel
theorem dX0_measure_41 : decode cX0_measure 41 = .ok (.iaload, 1) := by decide +kernel
theorem dX0_measure_42 : decode cX0_measure 42 = .ok (.iload_n 3, 1) := by decide +kernel
theorem dX0_measure_43 : decode cX0_measure 43 = .ok (.invokestatic 113, 3) := by decide +kernel
theorem dX0_measure_46 : decode cX0_measure 46 = .ok (.iastore, 1) := by decide +kernel
theorem dX0_measure_47 : decode cX0_measure 47 = .ok (.aload_n 0, 1) := by decide +kernel
theorem dX0_measure_48 : decode cX0_measure 48 = .ok (.aload_n 0, 1) := by decide +kernel
theorem dX0_measure_49 : decode cX0_measure 49 = .ok (.getfield 31, 3) := by decide +kernel
theorem dX0_measure_52 : decode cX0_measure 52 = .ok (.iload_n 2, 1) := by decide +kernel
theorem dX0_measure_53 : decode cX0_measure 53 = .ok (.iaload, 1) := by decide +kernel
theorem dX0_measure_54 : decode cX0_measure 54 = .ok (.aload_n 0, 1) := by decide +kernel
theorem dX0_measure_55 : decode cX0_measure 55 = .ok (.getfield 31, 3) := by decide +kernel
theorem dX0_measure_58 : decode cX0_measure 58 = .ok (.iload_n 1, 1) := by decide +kernel
theorem dX0_measure_59 : decode cX0_measure 59 = .ok (.iaload, 1) := by decide +kernel
theorem dX0_measure_60 : decode cX0_measure 60 = .ok (.ior, 1) := by decide +kernel
theorem dX0_measure_61 : decode cX0_measure 61 = .ok (.iload_n 3, 1) := by decide +kernel
theorem dX0_measure_62 : decode cX0_measure 62 = .ok (.invokevirtual 116, 3) := by decide +kernel
theorem dX0_measure_65 : decode cX0_measure 65 = .ok (.iinc 2 1, 3) := by decide +kernel
theorem dX0_measure_68 : decode cX0_measure 68 = .ok (.goto (-49), 3) := by decide +kernel
theorem dX0_measure_71 : decode cX0_measure 71 = .ok (.iinc 1 1, 3) := by decide +kernel
theorem dX0_measure_74 : decode cX0_measure 74 = .ok (.goto (-72), 3) := by decide +kernel
theorem dX0_measure_77 : decode cX0_measure 77 = .ok (.return_, 1) := by decide +kernel
theorem dX0_notePiece_0 : decode cX0_notePiece 0 = .ok (.iconst 0, 1) := by decide +kernel
theorem dX0_notePiece_1 : decode cX0_notePiece 1 = .ok (.istore_n 3, 1) := by decide +kernel
theorem dX0_notePiece_2 : decode cX0_notePiece 2 = .ok (.iload_n 3, 1) := by decide +kernel
theorem dX0_notePiece_3 : decode cX0_notePiece 3 = .ok (.aload_n 0, 1) := by decide +kernel
theorem dX0_notePiece_4 : decode cX0_notePiece 4 = .ok (.getfield 66, 3) := by decide +kernel
theorem dX0_notePiece_7 : decode cX0_notePiece 7 = .ok (.if_icmp .ge 34, 3) := by decide +kernel
theorem dX0_notePiece_10 : decode cX0_notePiece 10 = .ok (.iload_n 1, 1) := by decide +kernel
theorem dX0_notePiece_11 : decode cX0_notePiece 11 = .ok (.iload_n 3, 1) := by decide +kernel
theorem dX0_notePiece_12 : decode cX0_notePiece 12 = .ok (.ishr, 1) := by decide +kernel
theorem dX0_notePiece_13 : decode cX0_notePiece 13 = .ok (.iconst 1, 1) := by decide +kernel
theorem dX0_notePiece_14 : decode cX0_notePiece 14 = .ok (.iand, 1) := by decide +kernel
theorem dX0_notePiece_15 : decode cX0_notePiece 15 = .ok (.iconst 1, 1) := by decide +kernel
theorem dX0_notePiece_16 : decode cX0_notePiece 16 = .ok (.if_icmp .ne 19, 3) := by decide +kernel
theorem dX0_notePiece_19 : decode cX0_notePiece 19 = .ok (.aload_n 0, 1) := by decide +kernel
theorem dX0_notePiece_20 : decode cX0_notePiece 20 = .ok (.getfield 9, 3) := by decide +kernel
theorem dX0_notePiece_23 : decode cX0_notePiece 23 = .ok (.iload_n 3, 1) := by decide +kernel
theorem dX0_notePiece_24 : decode cX0_notePiece 24 = .ok (.aload_n 0, 1) := by decide +kernel
theorem dX0_notePiece_25 : decode cX0_notePiece 25 = .ok (.getfield 9, 3) := by decide +kernel
theorem dX0_notePiece_28 : decode cX0_notePiece 28 = .ok (.iload_n 3, 1) := by decide +kernel
theorem dX0_notePiece_29 : decode cX0_notePiece 29 = .ok (.iaload, 1) := by decide +kernel
theorem dX0_notePiece_30 : decode cX0_notePiece 30 = .ok (.iload_n 2, 1) := by decide +kernel
theorem dX0_notePiece_31 : decode cX0_notePiece 31 = .ok (.invokestatic 113, 3) := by decide +kernel
theorem dX0_notePiece_34 : decode cX0_notePiece 34 = .ok (.iastore, 1) := by decide +kernel
theorem dX0_notePiece_35 : decode cX0_notePiece 35 = .ok (.iinc 3 1, 3) := by decide +kernel
theorem dX0_notePiece_38 : decode cX0_notePiece 38 = .ok (.goto (-36), 3) := by decide +kernel
theorem dX0_notePiece_41 : decode cX0_notePiece 41 = .ok (.return_, 1) := by decide +kernel
theorem dX0_has_0 : decode cX0_has 0 = .ok (.iload_n 1, 1) := by decide +kernel
theorem dX0_has_1 : decode cX0_has 1 = .ok (.ifCond .lt 15, 3) := by decide +kernel
theorem dX0_has_4 : decode cX0_has 4 = .ok (.iload_n 1, 1) := by decide +kernel
theorem dX0_has_5 : decode cX0_has 5 = .ok (.aload_n 0, 1) := by decide +kernel
theorem dX0_has_6 : decode cX0_has 6 = .ok (.getfield 69, 3) := by decide +kernel
theorem dX0_has_9 : decode cX0_has 9 = .ok (.if_icmp .ge 7, 3) := by decide +kernel
theorem dX0_has_12 : decode cX0_has 12 = .ok (.iconst 1, 1) := by decide +kernel
theorem dX0_has_13 : decode cX0_has 13 = .ok (.goto 4, 3) := by decide +kernel
theorem dX0_has_16 : decode cX0_has 16 = .ok (.iconst 0, 1) := by decide +kernel
theorem dX0_has_17 : decode cX0_has 17 = .ok (.ireturn, 1) := by decide +kernel
theorem dX0_sizeOf_0 : decode cX0_sizeOf 0 = .ok (.aload_n 0, 1) := by decide +kernel
theorem dX0_sizeOf_1 : decode cX0_sizeOf 1 = .ok (.iload_n 1, 1) := by decide +kernel
theorem dX0_sizeOf_2 : decode cX0_sizeOf 2 = .ok (.invokevirtual 120, 3) := by decide +kernel
theorem dX0_sizeOf_5 : decode cX0_sizeOf 5 = .ok (.ifCond .eq 15, 3) := by decide +kernel
theorem dX0_sizeOf_8 : decode cX0_sizeOf 8 = .ok (.aload_n 0, 1) := by decide +kernel
theorem dX0_sizeOf_9 : decode cX0_sizeOf 9 = .ok (.getfield 52, 3) := by decide +kernel
theorem dX0_sizeOf_12 : decode cX0_sizeOf 12 = .ok (.iload_n 1, 1) := by decide +kernel
theorem dX0_sizeOf_13 : decode cX0_sizeOf 13 = .ok (.aaload, 1) := by decide +kernel
theorem dX0_sizeOf_14 : decode cX0_sizeOf 14 = .ok (.getfield 90, 3) := by decide +kernel
theorem dX0_sizeOf_17 : decode cX0_sizeOf 17 = .ok (.goto 4, 3) := by decide +kernel
theorem dX0_sizeOf_20 : decode cX0_sizeOf 20 = .ok (.iconst 0, 1) := by decide +kernel
theorem dX0_sizeOf_21 : decode cX0_sizeOf 21 = .ok (.ireturn, 1) := by decide +kernel
theorem dX0_letterOf_0 : decode cX0_letterOf 0 = .ok (.aload_n 0, 1) := by decide +kernel
theorem dX0_letterOf_1 : decode cX0_letterOf 1 = .ok (.iload_n 1, 1) := by decide +kernel
theorem dX0_letterOf_2 : decode cX0_letterOf 2 = .ok (.invokevirtual 120, 3) := by decide +kernel
theorem dX0_letterOf_5 : decode cX0_letterOf 5 = .ok (.ifCond .eq 16, 3) := by decide +kernel
theorem dX0_letterOf_8 : decode cX0_letterOf 8 = .ok (.aload_n 0, 1) := by decide +kernel
theorem dX0_letterOf_9 : decode cX0_letterOf 9 = .ok (.getfield 52, 3) := by decide +kernel
theorem dX0_letterOf_12 : decode cX0_letterOf 12 = .ok (.iload_n 1, 1) := by decide +kernel
theorem dX0_letterOf_13 : decode cX0_letterOf 13 = .ok (.aaload, 1) := by decide +kernel
theorem dX0_letterOf_14 : decode cX0_letterOf 14 = .ok (.iload_n 2, 1) := by decide +kernel
theorem dX0_letterOf_15 : decode cX0_letterOf 15 = .ok (.invokevirtual 99, 3) := by decide +kernel
theorem dX0_letterOf_18 : decode cX0_letterOf 18 = .ok (.goto 4, 3) := by decide +kernel
theorem dX0_letterOf_21 : decode cX0_letterOf 21 = .ok (.iconst (-1), 1) := by decide +kernel
theorem dX0_letterOf_22 : decode cX0_letterOf 22 = .ok (.ireturn, 1) := by decide +kernel
theorem dX0_sharedStart_0 : decode cX0_sharedStart 0 = .ok (.aload_n 0, 1) := by decide +kernel
theorem dX0_sharedStart_1 : decode cX0_sharedStart 1 = .ok (.iload_n 1, 1) := by decide +kernel
theorem dX0_sharedStart_2 : decode cX0_sharedStart 2 = .ok (.invokevirtual 120, 3) := by decide +kernel
theorem dX0_sharedStart_5 : decode cX0_sharedStart 5 = .ok (.ifCond .eq 30, 3) := by decide +kernel
theorem dX0_sharedStart_8 : decode cX0_sharedStart 8 = .ok (.aload_n 0, 1) := by decide +kernel
theorem dX0_sharedStart_9 : decode cX0_sharedStart 9 = .ok (.iload_n 2, 1) := by decide +kernel
theorem dX0_sharedStart_10 : decode cX0_sharedStart 10 = .ok (.invokevirtual 120, 3) := by decide +kernel
theorem dX0_sharedStart_13 : decode cX0_sharedStart 13 = .ok (.ifCond .eq 22, 3) := by decide +kernel
theorem dX0_sharedStart_16 : decode cX0_sharedStart 16 = .ok (.aload_n 0, 1) := by decide +kernel
theorem dX0_sharedStart_17 : decode cX0_sharedStart 17 = .ok (.getfield 52, 3) := by decide +kernel
theorem dX0_sharedStart_20 : decode cX0_sharedStart 20 = .ok (.iload_n 1, 1) := by decide +kernel
theorem dX0_sharedStart_21 : decode cX0_sharedStart 21 = .ok (.aaload, 1) := by decide +kernel
theorem dX0_sharedStart_22 : decode cX0_sharedStart 22 = .ok (.iconst 0, 1) := by decide +kernel
theorem dX0_sharedStart_23 : decode cX0_sharedStart 23 = .ok (.aload_n 0, 1) := by decide +kernel
theorem dX0_sharedStart_24 : decode cX0_sharedStart 24 = .ok (.getfield 52, 3) := by decide +kernel
theorem dX0_sharedStart_27 : decode cX0_sharedStart 27 = .ok (.iload_n 2, 1) := by decide +kernel
theorem dX0_sharedStart_28 : decode cX0_sharedStart 28 = .ok (.aaload, 1) := by decide +kernel
theorem dX0_sharedStart_29 : decode cX0_sharedStart 29 = .ok (.invokevirtual 124, 3) := by decide +kernel
theorem dX0_sharedStart_32 : decode cX0_sharedStart 32 = .ok (.goto 4, 3) := by decide +kernel
theorem dX0_sharedStart_35 : decode cX0_sharedStart 35 = .ok (.iconst 0, 1) := by decide +kernel
theorem dX0_sharedStart_36 : decode cX0_sharedStart 36 = .ok (.ireturn, 1) := by decide +kernel
theorem dX0_matchAt_0 : decode cX0_matchAt 0 = .ok (.aload_n 0, 1) := by decide +kernel
theorem dX0_matchAt_1 : decode cX0_matchAt 1 = .ok (.iload_n 3, 1) := by decide +kernel
theorem dX0_matchAt_2 : decode cX0_matchAt 2 = .ok (.invokevirtual 120, 3) := by decide +kernel
theorem dX0_matchAt_5 : decode cX0_matchAt 5 = .ok (.ifCond .eq 17, 3) := by decide +kernel
theorem dX0_matchAt_8 : decode cX0_matchAt 8 = .ok (.aload_n 1, 1) := by decide +kernel
theorem dX0_matchAt_9 : decode cX0_matchAt 9 = .ok (.iload_n 2, 1) := by decide +kernel
theorem dX0_matchAt_10 : decode cX0_matchAt 10 = .ok (.aload_n 0, 1) := by decide +kernel
theorem dX0_matchAt_11 : decode cX0_matchAt 11 = .ok (.getfield 52, 3) := by decide +kernel
theorem dX0_matchAt_14 : decode cX0_matchAt 14 = .ok (.iload_n 3, 1) := by decide +kernel
theorem dX0_matchAt_15 : decode cX0_matchAt 15 = .ok (.aaload, 1) := by decide +kernel
theorem dX0_matchAt_16 : decode cX0_matchAt 16 = .ok (.invokevirtual 124, 3) := by decide +kernel
theorem dX0_matchAt_19 : decode cX0_matchAt 19 = .ok (.goto 4, 3) := by decide +kernel
theorem dX0_matchAt_22 : decode cX0_matchAt 22 = .ok (.iconst 0, 1) := by decide +kernel
theorem dX0_matchAt_23 : decode cX0_matchAt 23 = .ok (.ireturn, 1) := by decide +kernel
theorem dX0_beginsFresh_0 : decode cX0_beginsFresh 0 = .ok (.aload_n 0, 1) := by decide +kernel
theorem dX0_beginsFresh_1 : decode cX0_beginsFresh 1 = .ok (.iload_n 1, 1) := by decide +kernel
theorem dX0_beginsFresh_2 : decode cX0_beginsFresh 2 = .ok (.invokevirtual 128, 3) := by decide +kernel
theorem dX0_beginsFresh_5 : decode cX0_beginsFresh 5 = .ok (.iload_n 2, 1) := by decide +kernel
theorem dX0_beginsFresh_6 : decode cX0_beginsFresh 6 = .ok (.if_icmp .lt 25, 3) := by decide +kernel
theorem dX0_beginsFresh_9 : decode cX0_beginsFresh 9 = .ok (.aload_n 0, 1) := by decide +kernel
theorem dX0_beginsFresh_10 : decode cX0_beginsFresh 10 = .ok (.iload_n 1, 1) := by decide +kernel
theorem dX0_beginsFresh_11 : decode cX0_beginsFresh 11 = .ok (.invokevirtual 120, 3) := by decide +kernel
theorem dX0_beginsFresh_14 : decode cX0_beginsFresh 14 = .ok (.ifCond .eq 17, 3) := by decide +kernel
theorem dX0_beginsFresh_17 : decode cX0_beginsFresh 17 = .ok (.aload_n 0, 1) := by decide +kernel
theorem dX0_beginsFresh_18 : decode cX0_beginsFresh 18 = .ok (.getfield 34, 3) := by decide +kernel
theorem dX0_beginsFresh_21 : decode cX0_beginsFresh 21 = .ok (.iload_n 1, 1) := by decide +kernel
theorem dX0_beginsFresh_22 : decode cX0_beginsFresh 22 = .ok (.iaload, 1) := by decide +kernel
theorem dX0_beginsFresh_23 : decode cX0_beginsFresh 23 = .ok (.iload_n 2, 1) := by decide +kernel
theorem dX0_beginsFresh_24 : decode cX0_beginsFresh 24 = .ok (.if_icmp .ge 7, 3) := by decide +kernel
theorem dX0_beginsFresh_27 : decode cX0_beginsFresh 27 = .ok (.iconst 1, 1) := by decide +kernel
theorem dX0_beginsFresh_28 : decode cX0_beginsFresh 28 = .ok (.goto 4, 3) := by decide +kernel
theorem dX0_beginsFresh_31 : decode cX0_beginsFresh 31 = .ok (.iconst 0, 1) := by decide +kernel
theorem dX0_beginsFresh_32 : decode cX0_beginsFresh 32 = .ok (.ireturn, 1) := by decide +kernel
theorem dX0_startersWith_0 : decode cX0_startersWith 0 = .ok (.iload_n 1, 1) := by decide +kernel
theorem dX0_startersWith_1 : decode cX0_startersWith 1 = .ok (.ifCond .lt 18, 3) := by decide +kernel
theorem dX0_startersWith_4 : decode cX0_startersWith 4 = .ok (.iload_n 1, 1) := by decide +kernel
theorem dX0_startersWith_5 : decode cX0_startersWith 5 = .ok (.bipush 8, 2) := by decide +kernel
theorem dX0_startersWith_7 : decode cX0_startersWith 7 = .ok (.if_icmp .ge 12, 3) := by decide +kernel
theorem dX0_startersWith_10 : decode cX0_startersWith 10 = .ok (.aload_n 0, 1) := by decide +kernel
theorem dX0_startersWith_11 : decode cX0_startersWith 11 = .ok (.getfield 42, 3) := by decide +kernel
theorem dX0_startersWith_14 : decode cX0_startersWith 14 = .ok (.iload_n 1, 1) := by decide +kernel
theorem dX0_startersWith_15 : decode cX0_startersWith 15 = .ok (.iaload, 1) := by decide +kernel
theorem dX0_startersWith_16 : decode cX0_startersWith 16 = .ok (.goto 4, 3) := by decide +kernel
theorem dX0_startersWith_19 : decode cX0_startersWith 19 = .ok (.iconst 0, 1) := by decide +kernel
theorem dX0_startersWith_20 : decode cX0_startersWith 20 = .ok (.ireturn, 1) := by decide +kernel
theorem dX0_starter_0 : decode cX0_starter 0 = .ok (.iload_n 2, 1) := by decide +kernel
theorem dX0_starter_1 : decode cX0_starter 1 = .ok (.ifCond .lt 23, 3) := by decide +kernel
theorem dX0_starter_4 : decode cX0_starter 4 = .ok (.iload_n 2, 1) := by decide +kernel
theorem dX0_starter_5 : decode cX0_starter 5 = .ok (.aload_n 0, 1) := by decide +kernel
theorem dX0_starter_6 : decode cX0_starter 6 = .ok (.iload_n 1, 1) := by decide +kernel
theorem dX0_starter_7 : decode cX0_starter 7 = .ok (.invokevirtual 131, 3) := by decide +kernel
theorem dX0_starter_10 : decode cX0_starter 10 = .ok (.if_icmp .ge 14, 3) := by decide +kernel
theorem dX0_starter_13 : decode cX0_starter 13 = .ok (.aload_n 0, 1) := by decide +kernel
theorem dX0_starter_14 : decode cX0_starter 14 = .ok (.getfield 39, 3) := by decide +kernel
theorem dX0_starter_17 : decode cX0_starter 17 = .ok (.iload_n 1, 1) := by decide +kernel
theorem dX0_starter_18 : decode cX0_starter 18 = .ok (.aaload, 1) := by decide +kernel
theorem dX0_starter_19 : decode cX0_starter 19 = .ok (.iload_n 2, 1) := by decide +kernel
theorem dX0_starter_20 : decode cX0_starter 20 = .ok (.iaload, 1) := by decide +kernel
theorem dX0_starter_21 : decode cX0_starter 21 = .ok (.goto 4, 3) := by decide +kernel
theorem dX0_starter_24 : decode cX0_starter 24 = .ok (.iconst (-1), 1) := by decide +kernel
theorem dX0_starter_25 : decode cX0_starter 25 = .ok (.ireturn, 1) := by decide +kernel
theorem dX0_areGood_0 : decode cX0_areGood 0 = .ok (.iconst 0, 1) := by decide +kernel
theorem dX0_areGood_1 : decode cX0_areGood 1 = .ok (.istore_n 2, 1) := by decide +kernel
theorem dX0_areGood_2 : decode cX0_areGood 2 = .ok (.iload_n 2, 1) := by decide +kernel
theorem dX0_areGood_3 : decode cX0_areGood 3 = .ok (.aload_n 0, 1) := by decide +kernel
theorem dX0_areGood_4 : decode cX0_areGood 4 = .ok (.getfield 66, 3) := by decide +kernel
theorem dX0_areGood_7 : decode cX0_areGood 7 = .ok (.if_icmp .ge 31, 3) := by decide +kernel
theorem dX0_areGood_10 : decode cX0_areGood 10 = .ok (.iload_n 1, 1) := by decide +kernel
theorem dX0_areGood_11 : decode cX0_areGood 11 = .ok (.aload_n 0, 1) := by decide +kernel
theorem dX0_areGood_12 : decode cX0_areGood 12 = .ok (.getfield 9, 3) := by decide +kernel
theorem dX0_areGood_15 : decode cX0_areGood 15 = .ok (.iload_n 2, 1) := by decide +kernel
theorem dX0_areGood_16 : decode cX0_areGood 16 = .ok (.iaload, 1) := by decide +kernel
theorem dX0_areGood_17 : decode cX0_areGood 17 = .ok (.imul, 1) := by decide +kernel
theorem dX0_areGood_18 : decode cX0_areGood 18 = .ok (.aload_n 0, 1) := by decide +kernel
theorem dX0_areGood_19 : decode cX0_areGood 19 = .ok (.getfield 48, 3) := by decide +kernel
theorem dX0_areGood_22 : decode cX0_areGood 22 = .ok (.iload_n 2, 1) := by decide +kernel
theorem dX0_areGood_23 : decode cX0_areGood 23 = .ok (.aaload, 1) := by decide +kernel
theorem dX0_areGood_24 : decode cX0_areGood 24 = .ok (.getfield 90, 3) := by decide +kernel
theorem dX0_areGood_27 : decode cX0_areGood 27 = .ok (.if_icmp .lt 5, 3) := by decide +kernel
theorem dX0_areGood_30 : decode cX0_areGood 30 = .ok (.iconst 0, 1) := by decide +kernel
theorem dX0_areGood_31 : decode cX0_areGood 31 = .ok (.ireturn, 1) := by decide +kernel
theorem dX0_areGood_32 : decode cX0_areGood 32 = .ok (.iinc 2 1, 3) := by decide +kernel
theorem dX0_areGood_35 : decode cX0_areGood 35 = .ok (.goto (-33), 3) := by decide +kernel
theorem dX0_areGood_38 : decode cX0_areGood 38 = .ok (.iconst 1, 1) := by decide +kernel
theorem dX0_areGood_39 : decode cX0_areGood 39 = .ok (.ireturn, 1) := by decide +kernel
theorem dX0_rankBy_0 : decode cX0_rankBy 0 = .ok (.iload_n 1, 1) := by decide +kernel
theorem dX0_rankBy_1 : decode cX0_rankBy 1 = .ok (.iconst 2, 1) := by decide +kernel
theorem dX0_rankBy_2 : decode cX0_rankBy 2 = .ok (.if_icmp .ge 5, 3) := by decide +kernel
theorem dX0_rankBy_5 : decode cX0_rankBy 5 = .ok (.iconst 0, 1) := by decide +kernel
theorem dX0_rankBy_6 : decode cX0_rankBy 6 = .ok (.ireturn, 1) := by decide +kernel
theorem dX0_rankBy_7 : decode cX0_rankBy 7 = .ok (.iconst 0, 1) := by decide +kernel
theorem dX0_rankBy_8 : decode cX0_rankBy 8 = .ok (.istore_n 2, 1) := by decide +kernel
theorem dX0_rankBy_9 : decode cX0_rankBy 9 = .ok (.iload_n 2, 1) := by decide +kernel
theorem dX0_rankBy_10 : decode cX0_rankBy 10 = .ok (.aload_n 0, 1) := by decide +kernel
theorem dX0_rankBy_11 : decode cX0_rankBy 11 = .ok (.getfield 66, 3) := by decide +kernel
theorem dX0_rankBy_14 : decode cX0_rankBy 14 = .ok (.if_icmp .ge 44, 3) := by decide +kernel
theorem dX0_rankBy_17 : decode cX0_rankBy 17 = .ok (.iconst 0, 1) := by decide +kernel
theorem dX0_rankBy_18 : decode cX0_rankBy 18 = .ok (.istore_n 3, 1) := by decide +kernel
theorem dX0_rankBy_19 : decode cX0_rankBy 19 = .ok (.iload_n 3, 1) := by decide +kernel
theorem dX0_rankBy_20 : decode cX0_rankBy 20 = .ok (.iconst 4, 1) := by decide +kernel
theorem dX0_rankBy_21 : decode cX0_rankBy 21 = .ok (.if_icmp .ge 31, 3) := by decide +kernel
theorem dX0_rankBy_24 : decode cX0_rankBy 24 = .ok (.aload_n 0, 1) := by decide +kernel
theorem dX0_rankBy_25 : decode cX0_rankBy 25 = .ok (.getfield 45, 3) := by decide +kernel
theorem dX0_rankBy_28 : decode cX0_rankBy 28 = .ok (.iload_n 2, 1) := by decide +kernel
theorem dX0_rankBy_29 : decode cX0_rankBy 29 = .ok (.aaload, 1) := by decide +kernel
theorem dX0_rankBy_30 : decode cX0_rankBy 30 = .ok (.iload_n 3, 1) := by decide +kernel
theorem dX0_rankBy_31 : decode cX0_rankBy 31 = .ok (.aload_n 0, 1) := by decide +kernel
theorem dX0_rankBy_32 : decode cX0_rankBy 32 = .ok (.getfield 48, 3) := by decide +kernel
theorem dX0_rankBy_35 : decode cX0_rankBy 35 = .ok (.iload_n 2, 1) := by decide +kernel
theorem dX0_rankBy_36 : decode cX0_rankBy 36 = .ok (.aaload, 1) := by decide +kernel
theorem dX0_rankBy_37 : decode cX0_rankBy 37 = .ok (.iload_n 3, 1) := by decide +kernel
theorem dX0_rankBy_38 : decode cX0_rankBy 38 = .ok (.invokevirtual 134, 3) := by decide +kernel
theorem dX0_rankBy_41 : decode cX0_rankBy 41 = .ok (.iload_n 1, 1) := by decide +kernel
theorem dX0_rankBy_42 : decode cX0_rankBy 42 = .ok (.invokestatic 137, 3) := by decide +kernel
theorem dX0_rankBy_45 : decode cX0_rankBy 45 = .ok (.iastore, 1) := by decide +kernel
theorem dX0_rankBy_46 : decode cX0_rankBy 46 = .ok (.iinc 3 1, 3) := by decide +kernel
theorem dX0_rankBy_49 : decode cX0_rankBy 49 = .ok (.goto (-30), 3) := by decide +kernel
theorem dX0_rankBy_52 : decode cX0_rankBy 52 = .ok (.iinc 2 1, 3) := by decide +kernel
theorem dX0_rankBy_55 : decode cX0_rankBy 55 = .ok (.goto (-46), 3) := by decide +kernel
theorem dX0_rankBy_58 : decode cX0_rankBy 58 = .ok (.iconst 0, 1) := by decide +kernel
theorem dX0_rankBy_59 : decode cX0_rankBy 59 = .ok (.istore_n 2, 1) := by decide +kernel
theorem dX0_rankBy_60 : decode cX0_rankBy 60 = .ok (.iconst 0, 1) := by decide +kernel
theorem dX0_rankBy_61 : decode cX0_rankBy 61 = .ok (.istore_n 3, 1) := by decide +kernel
theorem dX0_rankBy_62 : decode cX0_rankBy 62 = .ok (.iload_n 3, 1) := by decide +kernel
theorem dX0_rankBy_63 : decode cX0_rankBy 63 = .ok (.iconst 4, 1) := by decide +kernel
theorem dX0_rankBy_64 : decode cX0_rankBy 64 = .ok (.if_icmp .ge 36, 3) := by decide +kernel
theorem dX0_rankBy_67 : decode cX0_rankBy 67 = .ok (.iload_n 2, 1) := by decide +kernel
theorem dX0_rankBy_68 : decode cX0_rankBy 68 = .ok (.aload_n 0, 1) := by decide +kernel
theorem dX0_rankBy_69 : decode cX0_rankBy 69 = .ok (.getfield 66, 3) := by decide +kernel
theorem dX0_rankBy_72 : decode cX0_rankBy 72 = .ok (.if_icmp .ge 28, 3) := by decide +kernel
theorem dX0_rankBy_75 : decode cX0_rankBy 75 = .ok (.aload_n 0, 1) := by decide +kernel
theorem dX0_rankBy_76 : decode cX0_rankBy 76 = .ok (.iload_n 2, 1) := by decide +kernel
theorem dX0_rankBy_77 : decode cX0_rankBy 77 = .ok (.iload_n 3, 1) := by decide +kernel
theorem dX0_rankBy_78 : decode cX0_rankBy 78 = .ok (.invokevirtual 140, 3) := by decide +kernel
theorem dX0_rankBy_81 : decode cX0_rankBy 81 = .ok (.ifCond .eq 13, 3) := by decide +kernel
theorem dX0_rankBy_84 : decode cX0_rankBy 84 = .ok (.aload_n 0, 1) := by decide +kernel
theorem dX0_rankBy_85 : decode cX0_rankBy 85 = .ok (.iload_n 2, 1) := by decide +kernel
theorem dX0_rankBy_86 : decode cX0_rankBy 86 = .ok (.iload_n 3, 1) := by decide +kernel
theorem dX0_rankBy_87 : decode cX0_rankBy 87 = .ok (.iload_n 1, 1) := by decide +kernel
theorem dX0_rankBy_88 : decode cX0_rankBy 88 = .ok (.invokevirtual 144, 3) := by decide +kernel
theorem dX0_rankBy_91 : decode cX0_rankBy 91 = .ok (.iinc 2 1, 3) := by decide +kernel
theorem dX0_rankBy_94 : decode cX0_rankBy 94 = .ok (.iinc 3 1, 3) := by decide +kernel
theorem dX0_rankBy_97 : decode cX0_rankBy 97 = .ok (.goto (-35), 3) := by decide +kernel
theorem dX0_rankBy_100 : decode cX0_rankBy 100 = .ok (.iload_n 2, 1) := by decide +kernel
theorem dX0_rankBy_101 : decode cX0_rankBy 101 = .ok (.ireturn, 1) := by decide +kernel
theorem dX0_bringPivot_0 : decode cX0_bringPivot 0 = .ok (.iload_n 1, 1) := by decide +kernel
theorem dX0_bringPivot_1 : decode cX0_bringPivot 1 = .ok (.istore_n 3, 1) := by decide +kernel
theorem dX0_bringPivot_2 : decode cX0_bringPivot 2 = .ok (.iload_n 3, 1) := by decide +kernel
theorem dX0_bringPivot_3 : decode cX0_bringPivot 3 = .ok (.aload_n 0, 1) := by decide +kernel
theorem dX0_bringPivot_4 : decode cX0_bringPivot 4 = .ok (.getfield 66, 3) := by decide +kernel
theorem dX0_bringPivot_7 : decode cX0_bringPivot 7 = .ok (.if_icmp .ge 77, 3) := by decide +kernel
theorem dX0_bringPivot_10 : decode cX0_bringPivot 10 = .ok (.aload_n 0, 1) := by decide +kernel
theorem dX0_bringPivot_11 : decode cX0_bringPivot 11 = .ok (.getfield 45, 3) := by decide +kernel
theorem dX0_bringPivot_14 : decode cX0_bringPivot 14 = .ok (.iload_n 3, 1) := by decide +kernel
theorem dX0_bringPivot_15 : decode cX0_bringPivot 15 = .ok (.aaload, 1) := by decide +kernel
theorem dX0_bringPivot_16 : decode cX0_bringPivot 16 = .ok (.iload_n 2, 1) := by decide +kernel
theorem dX0_bringPivot_17 : decode cX0_bringPivot 17 = .ok (.iaload, 1) := by decide +kernel
theorem dX0_bringPivot_18 : decode cX0_bringPivot 18 = .ok (.ifCond .eq 60, 3) := by decide +kernel
theorem dX0_bringPivot_21 : decode cX0_bringPivot 21 = .ok (.iconst 0, 1) := by decide +kernel
theorem dX0_bringPivot_22 : decode cX0_bringPivot 22 = .ok (.istore 4, 2) := by decide +kernel
theorem dX0_bringPivot_24 : decode cX0_bringPivot 24 = .ok (.iload 4, 2) := by decide +kernel
theorem dX0_bringPivot_26 : decode cX0_bringPivot 26 = .ok (.iconst 4, 1) := by decide +kernel
theorem dX0_bringPivot_27 : decode cX0_bringPivot 27 = .ok (.if_icmp .ge 49, 3) := by decide +kernel
theorem dX0_bringPivot_30 : decode cX0_bringPivot 30 = .ok (.aload_n 0, 1) := by decide +kernel
theorem dX0_bringPivot_31 : decode cX0_bringPivot 31 = .ok (.getfield 45, 3) := by decide +kernel
theorem dX0_bringPivot_34 : decode cX0_bringPivot 34 = .ok (.iload_n 1, 1) := by decide +kernel
theorem dX0_bringPivot_35 : decode cX0_bringPivot 35 = .ok (.aaload, 1) := by decide +kernel
theorem dX0_bringPivot_36 : decode cX0_bringPivot 36 = .ok (.iload 4, 2) := by decide +kernel
theorem dX0_bringPivot_38 : decode cX0_bringPivot 38 = .ok (.iaload, 1) := by decide +kernel
theorem dX0_bringPivot_39 : decode cX0_bringPivot 39 = .ok (.istore 5, 2) := by decide +kernel
theorem dX0_bringPivot_41 : decode cX0_bringPivot 41 = .ok (.aload_n 0, 1) := by decide +kernel
theorem dX0_bringPivot_42 : decode cX0_bringPivot 42 = .ok (.getfield 45, 3) := by decide +kernel
theorem dX0_bringPivot_45 : decode cX0_bringPivot 45 = .ok (.iload_n 1, 1) := by decide +kernel
theorem dX0_bringPivot_46 : decode cX0_bringPivot 46 = .ok (.aaload, 1) := by decide +kernel
theorem dX0_bringPivot_47 : decode cX0_bringPivot 47 = .ok (.iload 4, 2) := by decide +kernel
theorem dX0_bringPivot_49 : decode cX0_bringPivot 49 = .ok (.aload_n 0, 1) := by decide +kernel
theorem dX0_bringPivot_50 : decode cX0_bringPivot 50 = .ok (.getfield 45, 3) := by decide +kernel
theorem dX0_bringPivot_53 : decode cX0_bringPivot 53 = .ok (.iload_n 3, 1) := by decide +kernel
theorem dX0_bringPivot_54 : decode cX0_bringPivot 54 = .ok (.aaload, 1) := by decide +kernel
theorem dX0_bringPivot_55 : decode cX0_bringPivot 55 = .ok (.iload 4, 2) := by decide +kernel
theorem dX0_bringPivot_57 : decode cX0_bringPivot 57 = .ok (.iaload, 1) := by decide +kernel
theorem dX0_bringPivot_58 : decode cX0_bringPivot 58 = .ok (.iastore, 1) := by decide +kernel
theorem dX0_bringPivot_59 : decode cX0_bringPivot 59 = .ok (.aload_n 0, 1) := by decide +kernel
theorem dX0_bringPivot_60 : decode cX0_bringPivot 60 = .ok (.getfield 45, 3) := by decide +kernel
theorem dX0_bringPivot_63 : decode cX0_bringPivot 63 = .ok (.iload_n 3, 1) := by decide +kernel
theorem dX0_bringPivot_64 : decode cX0_bringPivot 64 = .ok (.aaload, 1) := by decide +kernel
theorem dX0_bringPivot_65 : decode cX0_bringPivot 65 = .ok (.iload 4, 2) := by decide +kernel
theorem dX0_bringPivot_67 : decode cX0_bringPivot 67 = .ok (.iload 5, 2) := by decide +kernel
theorem dX0_bringPivot_69 : decode cX0_bringPivot 69 = .ok (.iastore, 1) := by decide +kernel
theorem dX0_bringPivot_70 : decode cX0_bringPivot 70 = .ok (.iinc 4 1, 3) := by decide +kernel
theorem dX0_bringPivot_73 : decode cX0_bringPivot 73 = .ok (.goto (-49), 3) := by decide +kernel
theorem dX0_bringPivot_76 : decode cX0_bringPivot 76 = .ok (.iconst 1, 1) := by decide +kernel
theorem dX0_bringPivot_77 : decode cX0_bringPivot 77 = .ok (.ireturn, 1) := by decide +kernel
theorem dX0_bringPivot_78 : decode cX0_bringPivot 78 = .ok (.iinc 3 1, 3) := by decide +kernel
theorem dX0_bringPivot_81 : decode cX0_bringPivot 81 = .ok (.goto (-79), 3) := by decide +kernel
theorem dX0_bringPivot_84 : decode cX0_bringPivot 84 = .ok (.iconst 0, 1) := by decide +kernel
theorem dX0_bringPivot_85 : decode cX0_bringPivot 85 = .ok (.ireturn, 1) := by decide +kernel
theorem dX0_clearBelow_0 : decode cX0_clearBelow 0 = .ok (.aload_n 0, 1) := by decide +kernel
theorem dX0_clearBelow_1 : decode cX0_clearBelow 1 = .ok (.getfield 45, 3) := by decide +kernel
theorem dX0_clearBelow_4 : decode cX0_clearBelow 4 = .ok (.iload_n 1, 1) := by decide +kernel
theorem dX0_clearBelow_5 : decode cX0_clearBelow 5 = .ok (.aaload, 1) := by decide +kernel
theorem dX0_clearBelow_6 : decode cX0_clearBelow 6 = .ok (.iload_n 2, 1) := by decide +kernel
theorem dX0_clearBelow_7 : decode cX0_clearBelow 7 = .ok (.iaload, 1) := by decide +kernel
theorem dX0_clearBelow_8 : decode cX0_clearBelow 8 = .ok (.istore 4, 2) := by decide +kernel
theorem dX0_clearBelow_10 : decode cX0_clearBelow 10 = .ok (.iload_n 1, 1) := by decide +kernel
theorem dX0_clearBelow_11 : decode cX0_clearBelow 11 = .ok (.iconst 1, 1) := by decide +kernel
theorem dX0_clearBelow_12 : decode cX0_clearBelow 12 = .ok (.iadd, 1) := by decide +kernel
theorem dX0_clearBelow_13 : decode cX0_clearBelow 13 = .ok (.istore 5, 2) := by decide +kernel
theorem dX0_clearBelow_15 : decode cX0_clearBelow 15 = .ok (.iload 5, 2) := by decide +kernel
theorem dX0_clearBelow_17 : decode cX0_clearBelow 17 = .ok (.aload_n 0, 1) := by decide +kernel
theorem dX0_clearBelow_18 : decode cX0_clearBelow 18 = .ok (.getfield 66, 3) := by decide +kernel
theorem dX0_clearBelow_21 : decode cX0_clearBelow 21 = .ok (.if_icmp .ge 79, 3) := by decide +kernel
theorem dX0_clearBelow_24 : decode cX0_clearBelow 24 = .ok (.aload_n 0, 1) := by decide +kernel
theorem dX0_clearBelow_25 : decode cX0_clearBelow 25 = .ok (.getfield 45, 3) := by decide +kernel
theorem dX0_clearBelow_28 : decode cX0_clearBelow 28 = .ok (.iload 5, 2) := by decide +kernel
theorem dX0_clearBelow_30 : decode cX0_clearBelow 30 = .ok (.aaload, 1) := by decide +kernel
theorem dX0_clearBelow_31 : decode cX0_clearBelow 31 = .ok (.iload_n 2, 1) := by decide +kernel
theorem dX0_clearBelow_32 : decode cX0_clearBelow 32 = .ok (.iaload, 1) := by decide +kernel
theorem dX0_clearBelow_33 : decode cX0_clearBelow 33 = .ok (.istore 6, 2) := by decide +kernel
theorem dX0_clearBelow_35 : decode cX0_clearBelow 35 = .ok (.iconst 0, 1) := by decide +kernel
theorem dX0_clearBelow_36 : decode cX0_clearBelow 36 = .ok (.istore 7, 2) := by decide +kernel
theorem dX0_clearBelow_38 : decode cX0_clearBelow 38 = .ok (.iload 7, 2) := by decide +kernel
theorem dX0_clearBelow_40 : decode cX0_clearBelow 40 = .ok (.iconst 4, 1) := by decide +kernel
theorem dX0_clearBelow_41 : decode cX0_clearBelow 41 = .ok (.if_icmp .ge 53, 3) := by decide +kernel
theorem dX0_clearBelow_44 : decode cX0_clearBelow 44 = .ok (.iload_n 3, 1) := by decide +kernel
theorem dX0_clearBelow_45 : decode cX0_clearBelow 45 = .ok (.ifCond .le 49, 3) := by decide +kernel
theorem dX0_clearBelow_48 : decode cX0_clearBelow 48 = .ok (.aload_n 0, 1) := by decide +kernel
theorem dX0_clearBelow_49 : decode cX0_clearBelow 49 = .ok (.getfield 45, 3) := by decide +kernel
theorem dX0_clearBelow_52 : decode cX0_clearBelow 52 = .ok (.iload 5, 2) := by decide +kernel
theorem dX0_clearBelow_54 : decode cX0_clearBelow 54 = .ok (.aaload, 1) := by decide +kernel
theorem dX0_clearBelow_55 : decode cX0_clearBelow 55 = .ok (.iload 7, 2) := by decide +kernel
theorem dX0_clearBelow_57 : decode cX0_clearBelow 57 = .ok (.aload_n 0, 1) := by decide +kernel
theorem dX0_clearBelow_58 : decode cX0_clearBelow 58 = .ok (.getfield 45, 3) := by decide +kernel
theorem dX0_clearBelow_61 : decode cX0_clearBelow 61 = .ok (.iload 5, 2) := by decide +kernel
theorem dX0_clearBelow_63 : decode cX0_clearBelow 63 = .ok (.aaload, 1) := by decide +kernel
theorem dX0_clearBelow_64 : decode cX0_clearBelow 64 = .ok (.iload 7, 2) := by decide +kernel
theorem dX0_clearBelow_66 : decode cX0_clearBelow 66 = .ok (.iaload, 1) := by decide +kernel
theorem dX0_clearBelow_67 : decode cX0_clearBelow 67 = .ok (.iload 4, 2) := by decide +kernel
theorem dX0_clearBelow_69 : decode cX0_clearBelow 69 = .ok (.imul, 1) := by decide +kernel
theorem dX0_clearBelow_70 : decode cX0_clearBelow 70 = .ok (.aload_n 0, 1) := by decide +kernel
theorem dX0_clearBelow_71 : decode cX0_clearBelow 71 = .ok (.getfield 45, 3) := by decide +kernel
theorem dX0_clearBelow_74 : decode cX0_clearBelow 74 = .ok (.iload_n 1, 1) := by decide +kernel
theorem dX0_clearBelow_75 : decode cX0_clearBelow 75 = .ok (.aaload, 1) := by decide +kernel
theorem dX0_clearBelow_76 : decode cX0_clearBelow 76 = .ok (.iload 7, 2) := by decide +kernel
theorem dX0_clearBelow_78 : decode cX0_clearBelow 78 = .ok (.iaload, 1) := by decide +kernel
theorem dX0_clearBelow_79 : decode cX0_clearBelow 79 = .ok (.iload 6, 2) := by decide +kernel
theorem dX0_clearBelow_81 : decode cX0_clearBelow 81 = .ok (.imul, 1) := by decide +kernel
theorem dX0_clearBelow_82 : decode cX0_clearBelow 82 = .ok (.isub, 1) := by decide +kernel
theorem dX0_clearBelow_83 : decode cX0_clearBelow 83 = .ok (.iload_n 3, 1) := by decide +kernel
theorem dX0_clearBelow_84 : decode cX0_clearBelow 84 = .ok (.invokestatic 137, 3) := by decide +kernel
theorem dX0_clearBelow_87 : decode cX0_clearBelow 87 = .ok (.iastore, 1) := by decide +kernel
theorem dX0_clearBelow_88 : decode cX0_clearBelow 88 = .ok (.iinc 7 1, 3) := by decide +kernel
theorem dX0_clearBelow_91 : decode cX0_clearBelow 91 = .ok (.goto (-53), 3) := by decide +kernel
theorem dX0_clearBelow_94 : decode cX0_clearBelow 94 = .ok (.iinc 5 1, 3) := by decide +kernel
theorem dX0_clearBelow_97 : decode cX0_clearBelow 97 = .ok (.goto (-82), 3) := by decide +kernel
theorem dX0_clearBelow_100 : decode cX0_clearBelow 100 = .ok (.return_, 1) := by decide +kernel
theorem dX1_init_0 : decode cX1_init 0 = .ok (.aload_n 0, 1) := by decide +kernel
theorem dX1_init_1 : decode cX1_init 1 = .ok (.invokespecial 3, 3) := by decide +kernel
theorem dX1_init_4 : decode cX1_init 4 = .ok (.aload_n 0, 1) := by decide +kernel
theorem dX1_init_5 : decode cX1_init 5 = .ok (.bipush 60, 2) := by decide +kernel
theorem dX1_init_7 : decode cX1_init 7 = .ok (.newarray .int, 2) := by decide +kernel
theorem dX1_init_9 : decode cX1_init 9 = .ok (.putfield 9, 3) := by decide +kernel
theorem dX1_init_12 : decode cX1_init 12 = .ok (.aload_n 0, 1) := by decide +kernel
theorem dX1_init_13 : decode cX1_init 13 = .ok (.iconst 4, 1) := by decide +kernel
theorem dX1_init_14 : decode cX1_init 14 = .ok (.newarray .int, 2) := by decide +kernel
theorem dX1_init_16 : decode cX1_init 16 = .ok (.putfield 15, 3) := by decide +kernel
theorem dX1_init_19 : decode cX1_init 19 = .ok (.aload_n 0, 1) := by decide +kernel
theorem dX1_init_20 : decode cX1_init 20 = .ok (.bipush 6, 2) := by decide +kernel
theorem dX1_init_22 : decode cX1_init 22 = .ok (.anewarray 18, 3) := by decide +kernel
theorem dX1_init_25 : decode cX1_init 25 = .ok (.putfield 20, 3) := by decide +kernel
theorem dX1_init_28 : decode cX1_init 28 = .ok (.iconst 0, 1) := by decide +kernel
theorem dX1_init_29 : decode cX1_init 29 = .ok (.istore_n 1, 1) := by decide +kernel
theorem dX1_init_30 : decode cX1_init 30 = .ok (.iload_n 1, 1) := by decide +kernel
theorem dX1_init_31 : decode cX1_init 31 = .ok (.bipush 6, 2) := by decide +kernel
theorem dX1_init_33 : decode cX1_init 33 = .ok (.if_icmp .ge 24, 3) := by decide +kernel
theorem dX1_init_36 : decode cX1_init 36 = .ok (.aload_n 0, 1) := by decide +kernel
theorem dX1_init_37 : decode cX1_init 37 = .ok (.getfield 20, 3) := by decide +kernel
theorem dX1_init_40 : decode cX1_init 40 = .ok (.iload_n 1, 1) := by decide +kernel
theorem dX1_init_41 : decode cX1_init 41 = .ok (.new 18, 3) := by decide +kernel
theorem dX1_init_44 : decode cX1_init 44 = .ok (.dup, 1) := by decide +kernel
theorem dX1_init_45 : decode cX1_init 45 = .ok (.bipush 60, 2) := by decide +kernel
theorem dX1_init_47 : decode cX1_init 47 = .ok (.invokespecial 24, 3) := by decide +kernel
theorem dX1_init_50 : decode cX1_init 50 = .ok (.aastore, 1) := by decide +kernel
theorem dX1_init_51 : decode cX1_init 51 = .ok (.iinc 1 1, 3) := by decide +kernel
theorem dX1_init_54 : decode cX1_init 54 = .ok (.goto (-24), 3) := by decide +kernel
theorem dX1_init_57 : decode cX1_init 57 = .ok (.return_, 1) := by decide +kernel
theorem dX1_readAll_0 : decode cX1_readAll 0 = .ok (.aload_n 0, 1) := by decide +kernel
theorem dX1_readAll_1 : decode cX1_readAll 1 = .ok (.iconst 0, 1) := by decide +kernel
theorem dX1_readAll_2 : decode cX1_readAll 2 = .ok (.putfield 27, 3) := by decide +kernel
theorem dX1_readAll_5 : decode cX1_readAll 5 = .ok (.iconst (-1), 1) := by decide +kernel
theorem dX1_readAll_6 : decode cX1_readAll 6 = .ok (.istore 4, 2) := by decide +kernel
theorem dX1_readAll_8 : decode cX1_readAll 8 = .ok (.iconst 0, 1) := by decide +kernel
theorem dX1_readAll_9 : decode cX1_readAll 9 = .ok (.istore 5, 2) := by decide +kernel
theorem dX1_readAll_11 : decode cX1_readAll 11 = .ok (.iload 5, 2) := by decide +kernel
theorem dX1_readAll_13 : decode cX1_readAll 13 = .ok (.aload_n 1, 1) := by decide +kernel
theorem dX1_readAll_14 : decode cX1_readAll 14 = .ok (.getfield 31, 3) := by decide +kernel
theorem dX1_readAll_17 : decode cX1_readAll 17 = .ok (.if_icmp .ge 72, 3) := by decide +kernel
theorem dX1_readAll_20 : decode cX1_readAll 20 = .ok (.aload_n 1, 1) := by decide +kernel
theorem dX1_readAll_21 : decode cX1_readAll 21 = .ok (.iload 5, 2) := by decide +kernel
theorem dX1_readAll_23 : decode cX1_readAll 23 = .ok (.invokevirtual 36, 3) := by decide +kernel
theorem dX1_readAll_26 : decode cX1_readAll 26 = .ok (.istore 6, 2) := by decide +kernel
theorem dX1_readAll_28 : decode cX1_readAll 28 = .ok (.iload 4, 2) := by decide +kernel
theorem dX1_readAll_30 : decode cX1_readAll 30 = .ok (.iconst (-1), 1) := by decide +kernel
theorem dX1_readAll_31 : decode cX1_readAll 31 = .ok (.if_icmp .ne 18, 3) := by decide +kernel
theorem dX1_readAll_34 : decode cX1_readAll 34 = .ok (.iload 6, 2) := by decide +kernel
theorem dX1_readAll_36 : decode cX1_readAll 36 = .ok (.bipush 32, 2) := by decide +kernel
theorem dX1_readAll_38 : decode cX1_readAll 38 = .ok (.if_icmp .eq 11, 3) := by decide +kernel
theorem dX1_readAll_41 : decode cX1_readAll 41 = .ok (.iload 5, 2) := by decide +kernel
theorem dX1_readAll_43 : decode cX1_readAll 43 = .ok (.istore 4, 2) := by decide +kernel
theorem dX1_readAll_45 : decode cX1_readAll 45 = .ok (.aload_n 0, 1) := by decide +kernel
theorem dX1_readAll_46 : decode cX1_readAll 46 = .ok (.invokevirtual 40, 3) := by decide +kernel
theorem dX1_readAll_49 : decode cX1_readAll 49 = .ok (.iload 6, 2) := by decide +kernel
theorem dX1_readAll_51 : decode cX1_readAll 51 = .ok (.bipush 59, 2) := by decide +kernel
theorem dX1_readAll_53 : decode cX1_readAll 53 = .ok (.if_icmp .eq 12, 3) := by decide +kernel
theorem dX1_readAll_56 : decode cX1_readAll 56 = .ok (.aload_n 0, 1) := by decide +kernel
theorem dX1_readAll_57 : decode cX1_readAll 57 = .ok (.iload 6, 2) := by decide +kernel
theorem dX1_readAll_59 : decode cX1_readAll 59 = .ok (.invokevirtual 43, 3) := by decide +kernel
theorem dX1_readAll_62 : decode cX1_readAll 62 = .ok (.goto 21, 3) := by decide +kernel
theorem dX1_readAll_65 : decode cX1_readAll 65 = .ok (.aload_n 0, 1) := by decide +kernel
theorem dX1_readAll_66 : decode cX1_readAll 66 = .ok (.iload_n 2, 1) := by decide +kernel
theorem dX1_readAll_67 : decode cX1_readAll 67 = .ok (.iload_n 3, 1) := by decide +kernel
theorem dX1_readAll_68 : decode cX1_readAll 68 = .ok (.invokevirtual 46, 3) := by decide +kernel
theorem dX1_readAll_71 : decode cX1_readAll 71 = .ok (.ifCond .eq 9, 3) := by decide +kernel
theorem dX1_readAll_74 : decode cX1_readAll 74 = .ok (.iconst (-1), 1) := by decide +kernel
theorem dX1_readAll_75 : decode cX1_readAll 75 = .ok (.istore 4, 2) := by decide +kernel
theorem dX1_readAll_77 : decode cX1_readAll 77 = .ok (.goto 6, 3) := by decide +kernel
theorem dX1_readAll_80 : decode cX1_readAll 80 = .ok (.iload 4, 2) := by decide +kernel
theorem dX1_readAll_82 : decode cX1_readAll 82 = .ok (.ireturn, 1) := by decide +kernel
theorem dX1_readAll_83 : decode cX1_readAll 83 = .ok (.iinc 5 1, 3) := by decide +kernel
theorem dX1_readAll_86 : decode cX1_readAll 86 = .ok (.goto (-75), 3) := by decide +kernel
theorem dX1_readAll_89 : decode cX1_readAll 89 = .ok (.iconst (-1), 1) := by decide +kernel
theorem dX1_readAll_90 : decode cX1_readAll 90 = .ok (.ireturn, 1) := by decide +kernel
theorem dX1_startWord_0 : decode cX1_startWord 0 = .ok (.aload_n 0, 1) := by decide +kernel
theorem dX1_startWord_1 : decode cX1_startWord 1 = .ok (.iconst 0, 1) := by decide +kernel
theorem dX1_startWord_2 : decode cX1_startWord 2 = .ok (.putfield 50, 3) := by decide +kernel
theorem dX1_startWord_5 : decode cX1_startWord 5 = .ok (.aload_n 0, 1) := by decide +kernel
theorem dX1_startWord_6 : decode cX1_startWord 6 = .ok (.iconst 0, 1) := by decide +kernel
theorem dX1_startWord_7 : decode cX1_startWord 7 = .ok (.putfield 53, 3) := by decide +kernel
theorem dX1_startWord_10 : decode cX1_startWord 10 = .ok (.aload_n 0, 1) := by decide +kernel
theorem dX1_startWord_11 : decode cX1_startWord 11 = .ok (.iconst 0, 1) := by decide +kernel
theorem dX1_startWord_12 : decode cX1_startWord 12 = .ok (.putfield 57, 3) := by decide +kernel
theorem dX1_startWord_15 : decode cX1_startWord 15 = .ok (.aload_n 0, 1) := by decide +kernel
theorem dX1_startWord_16 : decode cX1_startWord 16 = .ok (.iconst 0, 1) := by decide +kernel
theorem dX1_startWord_17 : decode cX1_startWord 17 = .ok (.putfield 60, 3) := by decide +kernel
theorem dX1_startWord_20 : decode cX1_startWord 20 = .ok (.return_, 1) := by decide +kernel
theorem dX1_readByte_0 : decode cX1_readByte 0 = .ok (.iload_n 1, 1) := by decide +kernel
theorem dX1_readByte_1 : decode cX1_readByte 1 = .ok (.invokestatic 63, 3) := by decide +kernel
theorem dX1_readByte_4 : decode cX1_readByte 4 = .ok (.istore_n 2, 1) := by decide +kernel
theorem dX1_readByte_5 : decode cX1_readByte 5 = .ok (.iload_n 1, 1) := by decide +kernel
theorem dX1_readByte_6 : decode cX1_readByte 6 = .ok (.invokestatic 66, 3) := by decide +kernel
theorem dX1_readByte_9 : decode cX1_readByte 9 = .ok (.istore_n 3, 1) := by decide +kernel
theorem dX1_readByte_10 : decode cX1_readByte 10 = .ok (.iload_n 2, 1) := by decide +kernel
theorem dX1_readByte_11 : decode cX1_readByte 11 = .ok (.iconst (-1), 1) := by decide +kernel
theorem dX1_readByte_12 : decode cX1_readByte 12 = .ok (.if_icmp .eq 19, 3) := by decide +kernel
theorem dX1_readByte_15 : decode cX1_readByte 15 = .ok (.aload_n 0, 1) := by decide +kernel
theorem dX1_readByte_16 : decode cX1_readByte 16 = .ok (.aload_n 0, 1) := by decide +kernel
theorem dX1_readByte_17 : decode cX1_readByte 17 = .ok (.getfield 50, 3) := by decide +kernel
theorem dX1_readByte_20 : decode cX1_readByte 20 = .ok (.putfield 57, 3) := by decide +kernel
theorem dX1_readByte_23 : decode cX1_readByte 23 = .ok (.aload_n 0, 1) := by decide +kernel
theorem dX1_readByte_24 : decode cX1_readByte 24 = .ok (.iload_n 2, 1) := by decide +kernel
theorem dX1_readByte_25 : decode cX1_readByte 25 = .ok (.invokevirtual 69, 3) := by decide +kernel
theorem dX1_readByte_28 : decode cX1_readByte 28 = .ok (.goto 92, 3) := by decide +kernel
theorem dX1_readByte_31 : decode cX1_readByte 31 = .ok (.iload_n 3, 1) := by decide +kernel
theorem dX1_readByte_32 : decode cX1_readByte 32 = .ok (.iconst (-1), 1) := by decide +kernel
theorem dX1_readByte_33 : decode cX1_readByte 33 = .ok (.if_icmp .eq 11, 3) := by decide +kernel
theorem dX1_readByte_36 : decode cX1_readByte 36 = .ok (.aload_n 0, 1) := by decide +kernel
theorem dX1_readByte_37 : decode cX1_readByte 37 = .ok (.iload_n 3, 1) := by decide +kernel
theorem dX1_readByte_38 : decode cX1_readByte 38 = .ok (.invokevirtual 72, 3) := by decide +kernel
theorem dX1_readByte_41 : decode cX1_readByte 41 = .ok (.goto 79, 3) := by decide +kernel
theorem dX1_readByte_44 : decode cX1_readByte 44 = .ok (.iload_n 1, 1) := by decide +kernel
theorem dX1_readByte_45 : decode cX1_readByte 45 = .ok (.bipush 40, 2) := by decide +kernel
theorem dX1_readByte_47 : decode cX1_readByte 47 = .ok (.if_icmp .ne 37, 3) := by decide +kernel
theorem dX1_readByte_50 : decode cX1_readByte 50 = .ok (.aload_n 0, 1) := by decide +kernel
theorem dX1_readByte_51 : decode cX1_readByte 51 = .ok (.getfield 60, 3) := by decide +kernel
theorem dX1_readByte_54 : decode cX1_readByte 54 = .ok (.iconst 4, 1) := by decide +kernel
theorem dX1_readByte_55 : decode cX1_readByte 55 = .ok (.if_icmp .ge 29, 3) := by decide +kernel
theorem dX1_readByte_58 : decode cX1_readByte 58 = .ok (.aload_n 0, 1) := by decide +kernel
theorem dX1_readByte_59 : decode cX1_readByte 59 = .ok (.getfield 15, 3) := by decide +kernel
theorem dX1_readByte_62 : decode cX1_readByte 62 = .ok (.aload_n 0, 1) := by decide +kernel
theorem dX1_readByte_63 : decode cX1_readByte 63 = .ok (.getfield 60, 3) := by decide +kernel
theorem dX1_readByte_66 : decode cX1_readByte 66 = .ok (.aload_n 0, 1) := by decide +kernel
theorem dX1_readByte_67 : decode cX1_readByte 67 = .ok (.getfield 50, 3) := by decide +kernel
theorem dX1_readByte_70 : decode cX1_readByte 70 = .ok (.iastore, 1) := by decide +kernel
theorem dX1_readByte_71 : decode cX1_readByte 71 = .ok (.aload_n 0, 1) := by decide +kernel
theorem dX1_readByte_72 : decode cX1_readByte 72 = .ok (.dup, 1) := by decide +kernel
theorem dX1_readByte_73 : decode cX1_readByte 73 = .ok (.getfield 60, 3) := by decide +kernel
theorem dX1_readByte_76 : decode cX1_readByte 76 = .ok (.iconst 1, 1) := by decide +kernel
theorem dX1_readByte_77 : decode cX1_readByte 77 = .ok (.iadd, 1) := by decide +kernel
theorem dX1_readByte_78 : decode cX1_readByte 78 = .ok (.putfield 60, 3) := by decide +kernel
theorem dX1_readByte_81 : decode cX1_readByte 81 = .ok (.goto 39, 3) := by decide +kernel
theorem dX1_readByte_84 : decode cX1_readByte 84 = .ok (.iload_n 1, 1) := by decide +kernel
theorem dX1_readByte_85 : decode cX1_readByte 85 = .ok (.bipush 41, 2) := by decide +kernel
theorem dX1_readByte_87 : decode cX1_readByte 87 = .ok (.if_icmp .ne 33, 3) := by decide +kernel
theorem dX1_readByte_90 : decode cX1_readByte 90 = .ok (.aload_n 0, 1) := by decide +kernel
theorem dX1_readByte_91 : decode cX1_readByte 91 = .ok (.getfield 60, 3) := by decide +kernel
theorem dX1_readByte_94 : decode cX1_readByte 94 = .ok (.ifCond .le 26, 3) := by decide +kernel
theorem dX1_readByte_97 : decode cX1_readByte 97 = .ok (.aload_n 0, 1) := by decide +kernel
theorem dX1_readByte_98 : decode cX1_readByte 98 = .ok (.dup, 1) := by decide +kernel
theorem dX1_readByte_99 : decode cX1_readByte 99 = .ok (.getfield 60, 3) := by decide +kernel
theorem dX1_readByte_102 : decode cX1_readByte 102 = .ok (.iconst 1, 1) := by decide +kernel
theorem dX1_readByte_103 : decode cX1_readByte 103 = .ok (.isub, 1) := by decide +kernel
theorem dX1_readByte_104 : decode cX1_readByte 104 = .ok (.putfield 60, 3) := by decide +kernel
theorem dX1_readByte_107 : decode cX1_readByte 107 = .ok (.aload_n 0, 1) := by decide +kernel
theorem dX1_readByte_108 : decode cX1_readByte 108 = .ok (.aload_n 0, 1) := by decide +kernel
theorem dX1_readByte_109 : decode cX1_readByte 109 = .ok (.getfield 15, 3) := by decide +kernel
theorem dX1_readByte_112 : decode cX1_readByte 112 = .ok (.aload_n 0, 1) := by decide +kernel
theorem dX1_readByte_113 : decode cX1_readByte 113 = .ok (.getfield 60, 3) := by decide +kernel
theorem dX1_readByte_116 : decode cX1_readByte 116 = .ok (.iaload, 1) := by decide +kernel
theorem dX1_readByte_117 : decode cX1_readByte 117 = .ok (.putfield 57, 3) := by decide +kernel
theorem dX1_readByte_120 : decode cX1_readByte 120 = .ok (.return_, 1) := by decide +kernel
theorem dX1_putRaw_0 : decode cX1_putRaw 0 = .ok (.aload_n 0, 1) := by decide +kernel
theorem dX1_putRaw_1 : decode cX1_putRaw 1 = .ok (.getfield 50, 3) := by decide +kernel
theorem dX1_putRaw_4 : decode cX1_putRaw 4 = .ok (.aload_n 0, 1) := by decide +kernel
theorem dX1_putRaw_5 : decode cX1_putRaw 5 = .ok (.getfield 9, 3) := by decide +kernel
theorem dX1_putRaw_8 : decode cX1_putRaw 8 = .ok (.arraylength, 1) := by decide +kernel
theorem dX1_putRaw_9 : decode cX1_putRaw 9 = .ok (.if_icmp .ge 26, 3) := by decide +kernel
theorem dX1_putRaw_12 : decode cX1_putRaw 12 = .ok (.aload_n 0, 1) := by decide +kernel
theorem dX1_putRaw_13 : decode cX1_putRaw 13 = .ok (.getfield 9, 3) := by decide +kernel
theorem dX1_putRaw_16 : decode cX1_putRaw 16 = .ok (.aload_n 0, 1) := by decide +kernel
theorem dX1_putRaw_17 : decode cX1_putRaw 17 = .ok (.getfield 50, 3) := by decide +kernel
theorem dX1_putRaw_20 : decode cX1_putRaw 20 = .ok (.iload_n 1, 1) := by decide +kernel
theorem dX1_putRaw_21 : decode cX1_putRaw 21 = .ok (.iastore, 1) := by decide +kernel
theorem dX1_putRaw_22 : decode cX1_putRaw 22 = .ok (.aload_n 0, 1) := by decide +kernel
theorem dX1_putRaw_23 : decode cX1_putRaw 23 = .ok (.dup, 1) := by decide +kernel
theorem dX1_putRaw_24 : decode cX1_putRaw 24 = .ok (.getfield 50, 3) := by decide +kernel
theorem dX1_putRaw_27 : decode cX1_putRaw 27 = .ok (.iconst 1, 1) := by decide +kernel
theorem dX1_putRaw_28 : decode cX1_putRaw 28 = .ok (.iadd, 1) := by decide +kernel
theorem dX1_putRaw_29 : decode cX1_putRaw 29 = .ok (.putfield 50, 3) := by decide +kernel
theorem dX1_putRaw_32 : decode cX1_putRaw 32 = .ok (.goto 8, 3) := by decide +kernel
theorem dX1_putRaw_35 : decode cX1_putRaw 35 = .ok (.aload_n 0, 1) := by decide +kernel
theorem dX1_putRaw_36 : decode cX1_putRaw 36 = .ok (.iconst 1, 1) := by decide +kernel
theorem dX1_putRaw_37 : decode cX1_putRaw 37 = .ok (.putfield 53, 3) := by decide +kernel
theorem dX1_putRaw_40 : decode cX1_putRaw 40 = .ok (.return_, 1) := by decide +kernel
theorem dX1_repeatFactor_0 : decode cX1_repeatFactor 0 = .ok (.aload_n 0, 1) := by decide +kernel
theorem dX1_repeatFactor_1 : decode cX1_repeatFactor 1 = .ok (.getfield 50, 3) := by decide +kernel
theorem dX1_repeatFactor_4 : decode cX1_repeatFactor 4 = .ok (.istore_n 2, 1) := by decide +kernel
theorem dX1_repeatFactor_5 : decode cX1_repeatFactor 5 = .ok (.iconst 1, 1) := by decide +kernel
theorem dX1_repeatFactor_6 : decode cX1_repeatFactor 6 = .ok (.istore_n 3, 1) := by decide +kernel
theorem dX1_repeatFactor_7 : decode cX1_repeatFactor 7 = .ok (.iload_n 3, 1) := by decide +kernel
theorem dX1_repeatFactor_8 : decode cX1_repeatFactor 8 = .ok (.iload_n 1, 1) := by decide +kernel
theorem dX1_repeatFactor_9 : decode cX1_repeatFactor 9 = .ok (.if_icmp .ge 53, 3) := by decide +kernel
theorem dX1_repeatFactor_12 : decode cX1_repeatFactor 12 = .ok (.aload_n 0, 1) := by decide +kernel
theorem dX1_repeatFactor_13 : decode cX1_repeatFactor 13 = .ok (.getfield 57, 3) := by decide +kernel
theorem dX1_repeatFactor_16 : decode cX1_repeatFactor 16 = .ok (.istore 4, 2) := by decide +kernel
theorem dX1_repeatFactor_18 : decode cX1_repeatFactor 18 = .ok (.iload 4, 2) := by decide +kernel
theorem dX1_repeatFactor_20 : decode cX1_repeatFactor 20 = .ok (.ifCond .lt 36, 3) := by decide +kernel
theorem dX1_repeatFactor_23 : decode cX1_repeatFactor 23 = .ok (.iload 4, 2) := by decide +kernel
theorem dX1_repeatFactor_25 : decode cX1_repeatFactor 25 = .ok (.iload_n 2, 1) := by decide +kernel
theorem dX1_repeatFactor_26 : decode cX1_repeatFactor 26 = .ok (.if_icmp .ge 30, 3) := by decide +kernel
theorem dX1_repeatFactor_29 : decode cX1_repeatFactor 29 = .ok (.iload 4, 2) := by decide +kernel
theorem dX1_repeatFactor_31 : decode cX1_repeatFactor 31 = .ok (.aload_n 0, 1) := by decide +kernel
theorem dX1_repeatFactor_32 : decode cX1_repeatFactor 32 = .ok (.getfield 9, 3) := by decide +kernel
theorem dX1_repeatFactor_35 : decode cX1_repeatFactor 35 = .ok (.arraylength, 1) := by decide +kernel
theorem dX1_repeatFactor_36 : decode cX1_repeatFactor 36 = .ok (.if_icmp .ge 20, 3) := by decide +kernel
theorem dX1_repeatFactor_39 : decode cX1_repeatFactor 39 = .ok (.aload_n 0, 1) := by decide +kernel
theorem dX1_repeatFactor_40 : decode cX1_repeatFactor 40 = .ok (.aload_n 0, 1) := by decide +kernel
theorem dX1_repeatFactor_41 : decode cX1_repeatFactor 41 = .ok (.getfield 9, 3) := by decide +kernel
theorem dX1_repeatFactor_44 : decode cX1_repeatFactor 44 = .ok (.iload 4, 2) := by decide +kernel
theorem dX1_repeatFactor_46 : decode cX1_repeatFactor 46 = .ok (.iaload, 1) := by decide +kernel
theorem dX1_repeatFactor_47 : decode cX1_repeatFactor 47 = .ok (.invokevirtual 69, 3) := by decide +kernel
theorem dX1_repeatFactor_50 : decode cX1_repeatFactor 50 = .ok (.iinc 4 1, 3) := by decide +kernel
theorem dX1_repeatFactor_53 : decode cX1_repeatFactor 53 = .ok (.goto (-35), 3) := by decide +kernel
theorem dX1_repeatFactor_56 : decode cX1_repeatFactor 56 = .ok (.iinc 3 1, 3) := by decide +kernel
theorem dX1_repeatFactor_59 : decode cX1_repeatFactor 59 = .ok (.goto (-52), 3) := by decide +kernel
theorem dX1_repeatFactor_62 : decode cX1_repeatFactor 62 = .ok (.return_, 1) := by decide +kernel
theorem dX1_takeWord_0 : decode cX1_takeWord 0 = .ok (.aload_n 0, 1) := by decide +kernel
theorem dX1_takeWord_1 : decode cX1_takeWord 1 = .ok (.getfield 53, 3) := by decide +kernel
theorem dX1_takeWord_4 : decode cX1_takeWord 4 = .ok (.ifCond .ne 23, 3) := by decide +kernel
theorem dX1_takeWord_7 : decode cX1_takeWord 7 = .ok (.aload_n 0, 1) := by decide +kernel
theorem dX1_takeWord_8 : decode cX1_takeWord 8 = .ok (.getfield 27, 3) := by decide +kernel
theorem dX1_takeWord_11 : decode cX1_takeWord 11 = .ok (.iload_n 1, 1) := by decide +kernel
theorem dX1_takeWord_12 : decode cX1_takeWord 12 = .ok (.if_icmp .ge 15, 3) := by decide +kernel
theorem dX1_takeWord_15 : decode cX1_takeWord 15 = .ok (.aload_n 0, 1) := by decide +kernel
theorem dX1_takeWord_16 : decode cX1_takeWord 16 = .ok (.getfield 27, 3) := by decide +kernel
theorem dX1_takeWord_19 : decode cX1_takeWord 19 = .ok (.aload_n 0, 1) := by decide +kernel
theorem dX1_takeWord_20 : decode cX1_takeWord 20 = .ok (.getfield 20, 3) := by decide +kernel
theorem dX1_takeWord_23 : decode cX1_takeWord 23 = .ok (.arraylength, 1) := by decide +kernel
theorem dX1_takeWord_24 : decode cX1_takeWord 24 = .ok (.if_icmp .lt 5, 3) := by decide +kernel
theorem dX1_takeWord_27 : decode cX1_takeWord 27 = .ok (.iconst 0, 1) := by decide +kernel
theorem dX1_takeWord_28 : decode cX1_takeWord 28 = .ok (.ireturn, 1) := by decide +kernel
theorem dX1_takeWord_29 : decode cX1_takeWord 29 = .ok (.aload_n 0, 1) := by decide +kernel
theorem dX1_takeWord_30 : decode cX1_takeWord 30 = .ok (.getfield 20, 3) := by decide +kernel
theorem dX1_takeWord_33 : decode cX1_takeWord 33 = .ok (.aload_n 0, 1) := by decide +kernel
theorem dX1_takeWord_34 : decode cX1_takeWord 34 = .ok (.getfield 27, 3) := by decide +kernel
theorem dX1_takeWord_37 : decode cX1_takeWord 37 = .ok (.aaload, 1) := by decide +kernel
theorem dX1_takeWord_38 : decode cX1_takeWord 38 = .ok (.astore_n 3, 1) := by decide +kernel
theorem dX1_takeWord_39 : decode cX1_takeWord 39 = .ok (.aload_n 3, 1) := by decide +kernel
theorem dX1_takeWord_40 : decode cX1_takeWord 40 = .ok (.invokevirtual 75, 3) := by decide +kernel
theorem dX1_takeWord_43 : decode cX1_takeWord 43 = .ok (.iconst 0, 1) := by decide +kernel
theorem dX1_takeWord_44 : decode cX1_takeWord 44 = .ok (.istore 4, 2) := by decide +kernel
theorem dX1_takeWord_46 : decode cX1_takeWord 46 = .ok (.iload 4, 2) := by decide +kernel
theorem dX1_takeWord_48 : decode cX1_takeWord 48 = .ok (.aload_n 0, 1) := by decide +kernel
theorem dX1_takeWord_49 : decode cX1_takeWord 49 = .ok (.getfield 50, 3) := by decide +kernel
theorem dX1_takeWord_52 : decode cX1_takeWord 52 = .ok (.if_icmp .ge 30, 3) := by decide +kernel
theorem dX1_takeWord_55 : decode cX1_takeWord 55 = .ok (.iload 4, 2) := by decide +kernel
theorem dX1_takeWord_57 : decode cX1_takeWord 57 = .ok (.aload_n 0, 1) := by decide +kernel
theorem dX1_takeWord_58 : decode cX1_takeWord 58 = .ok (.getfield 9, 3) := by decide +kernel
theorem dX1_takeWord_61 : decode cX1_takeWord 61 = .ok (.arraylength, 1) := by decide +kernel
theorem dX1_takeWord_62 : decode cX1_takeWord 62 = .ok (.if_icmp .ge 20, 3) := by decide +kernel
theorem dX1_takeWord_65 : decode cX1_takeWord 65 = .ok (.aload_n 3, 1) := by decide +kernel
theorem dX1_takeWord_66 : decode cX1_takeWord 66 = .ok (.aload_n 0, 1) := by decide +kernel
theorem dX1_takeWord_67 : decode cX1_takeWord 67 = .ok (.getfield 9, 3) := by decide +kernel
theorem dX1_takeWord_70 : decode cX1_takeWord 70 = .ok (.iload 4, 2) := by decide +kernel
theorem dX1_takeWord_72 : decode cX1_takeWord 72 = .ok (.iaload, 1) := by decide +kernel
theorem dX1_takeWord_73 : decode cX1_takeWord 73 = .ok (.invokevirtual 78, 3) := by decide +kernel
theorem dX1_takeWord_76 : decode cX1_takeWord 76 = .ok (.iinc 4 1, 3) := by decide +kernel
theorem dX1_takeWord_79 : decode cX1_takeWord 79 = .ok (.goto (-33), 3) := by decide +kernel
theorem dX1_takeWord_82 : decode cX1_takeWord 82 = .ok (.iload_n 2, 1) := by decide +kernel
theorem dX1_takeWord_83 : decode cX1_takeWord 83 = .ok (.ifCond .eq 25, 3) := by decide +kernel
theorem dX1_takeWord_86 : decode cX1_takeWord 86 = .ok (.aload_n 3, 1) := by decide +kernel
theorem dX1_takeWord_87 : decode cX1_takeWord 87 = .ok (.invokevirtual 81, 3) := by decide +kernel
theorem dX1_takeWord_90 : decode cX1_takeWord 90 = .ok (.aload_n 3, 1) := by decide +kernel
theorem dX1_takeWord_91 : decode cX1_takeWord 91 = .ok (.getfield 84, 3) := by decide +kernel
theorem dX1_takeWord_94 : decode cX1_takeWord 94 = .ok (.ifCond .eq 12, 3) := by decide +kernel
theorem dX1_takeWord_97 : decode cX1_takeWord 97 = .ok (.aload_n 3, 1) := by decide +kernel
theorem dX1_takeWord_98 : decode cX1_takeWord 98 = .ok (.getfield 84, 3) := by decide +kernel
theorem dX1_takeWord_101 : decode cX1_takeWord 101 = .ok (.bipush 14, 2) := by decide +kernel
theorem dX1_takeWord_103 : decode cX1_takeWord 103 = .ok (.if_icmp .le 5, 3) := by decide +kernel
theorem dX1_takeWord_106 : decode cX1_takeWord 106 = .ok (.iconst 0, 1) := by decide +kernel
theorem dX1_takeWord_107 : decode cX1_takeWord 107 = .ok (.ireturn, 1) := by decide +kernel
theorem dX1_takeWord_108 : decode cX1_takeWord 108 = .ok (.aload_n 0, 1) := by decide +kernel
theorem dX1_takeWord_109 : decode cX1_takeWord 109 = .ok (.dup, 1) := by decide +kernel
theorem dX1_takeWord_110 : decode cX1_takeWord 110 = .ok (.getfield 27, 3) := by decide +kernel
theorem dX1_takeWord_113 : decode cX1_takeWord 113 = .ok (.iconst 1, 1) := by decide +kernel
theorem dX1_takeWord_114 : decode cX1_takeWord 114 = .ok (.iadd, 1) := by decide +kernel
theorem dX1_takeWord_115 : decode cX1_takeWord 115 = .ok (.putfield 27, 3) := by decide +kernel
theorem dX1_takeWord_118 : decode cX1_takeWord 118 = .ok (.iconst 1, 1) := by decide +kernel
theorem dX1_takeWord_119 : decode cX1_takeWord 119 = .ok (.ireturn, 1) := by decide +kernel
