theorem dX6_findCut_98 : decode cX6_findCut 98 = .ok (.iinc 1 1, 3) := by decide +kernel
theorem dX6_findCut_101 : decode cX6_findCut 101 = .ok (.goto (-89), 3) := by decide +kernel
theorem dX6_findCut_104 : decode cX6_findCut 104 = .ok (.return_, 1) := by decide +kernel
theorem dX6_doCut_0 : decode cX6_doCut 0 = .ok (.aload_n 0, 1) := by decide +kernel
theorem dX6_doCut_1 : decode cX6_doCut 1 = .ok (.getfield 183, 3) := by decide +kernel
theorem dX6_doCut_4 : decode cX6_doCut 4 = .ok (.aload_n 0, 1) := by decide +kernel
theorem dX6_doCut_5 : decode cX6_doCut 5 = .ok (.getfield 186, 3) := by decide +kernel
theorem dX6_doCut_8 : decode cX6_doCut 8 = .ok (.iadd, 1) := by decide +kernel
theorem dX6_doCut_9 : decode cX6_doCut 9 = .ok (.istore_n 1, 1) := by decide +kernel
theorem dX6_doCut_10 : decode cX6_doCut 10 = .ok (.aload_n 0, 1) := by decide +kernel
theorem dX6_doCut_11 : decode cX6_doCut 11 = .ok (.getfield 72, 3) := by decide +kernel
theorem dX6_doCut_14 : decode cX6_doCut 14 = .ok (.iload_n 1, 1) := by decide +kernel
theorem dX6_doCut_15 : decode cX6_doCut 15 = .ok (.isub, 1) := by decide +kernel
theorem dX6_doCut_16 : decode cX6_doCut 16 = .ok (.istore_n 2, 1) := by decide +kernel
theorem dX6_doCut_17 : decode cX6_doCut 17 = .ok (.iconst 0, 1) := by decide +kernel
theorem dX6_doCut_18 : decode cX6_doCut 18 = .ok (.istore_n 3, 1) := by decide +kernel
theorem dX6_doCut_19 : decode cX6_doCut 19 = .ok (.iload_n 3, 1) := by decide +kernel
theorem dX6_doCut_20 : decode cX6_doCut 20 = .ok (.iload_n 2, 1) := by decide +kernel
theorem dX6_doCut_21 : decode cX6_doCut 21 = .ok (.if_icmp .ge 23, 3) := by decide +kernel
theorem dX6_doCut_24 : decode cX6_doCut 24 = .ok (.aload_n 0, 1) := by decide +kernel
theorem dX6_doCut_25 : decode cX6_doCut 25 = .ok (.getfield 40, 3) := by decide +kernel
theorem dX6_doCut_28 : decode cX6_doCut 28 = .ok (.iload_n 3, 1) := by decide +kernel
theorem dX6_doCut_29 : decode cX6_doCut 29 = .ok (.aload_n 0, 1) := by decide +kernel
theorem dX6_doCut_30 : decode cX6_doCut 30 = .ok (.getfield 34, 3) := by decide +kernel
theorem dX6_doCut_33 : decode cX6_doCut 33 = .ok (.iload_n 1, 1) := by decide +kernel
theorem dX6_doCut_34 : decode cX6_doCut 34 = .ok (.iload_n 3, 1) := by decide +kernel
theorem dX6_doCut_35 : decode cX6_doCut 35 = .ok (.iadd, 1) := by decide +kernel
theorem dX6_doCut_36 : decode cX6_doCut 36 = .ok (.iaload, 1) := by decide +kernel
theorem dX6_doCut_37 : decode cX6_doCut 37 = .ok (.iastore, 1) := by decide +kernel
theorem dX6_doCut_38 : decode cX6_doCut 38 = .ok (.iinc 3 1, 3) := by decide +kernel
theorem dX6_doCut_41 : decode cX6_doCut 41 = .ok (.goto (-22), 3) := by decide +kernel
theorem dX6_doCut_44 : decode cX6_doCut 44 = .ok (.aload_n 0, 1) := by decide +kernel
theorem dX6_doCut_45 : decode cX6_doCut 45 = .ok (.aload_n 0, 1) := by decide +kernel
theorem dX6_doCut_46 : decode cX6_doCut 46 = .ok (.getfield 183, 3) := by decide +kernel
theorem dX6_doCut_49 : decode cX6_doCut 49 = .ok (.putfield 72, 3) := by decide +kernel
theorem dX6_doCut_52 : decode cX6_doCut 52 = .ok (.aload_n 0, 1) := by decide +kernel
theorem dX6_doCut_53 : decode cX6_doCut 53 = .ok (.getfield 19, 3) := by decide +kernel
theorem dX6_doCut_56 : decode cX6_doCut 56 = .ok (.aload_n 0, 1) := by decide +kernel
theorem dX6_doCut_57 : decode cX6_doCut 57 = .ok (.getfield 192, 3) := by decide +kernel
theorem dX6_doCut_60 : decode cX6_doCut 60 = .ok (.iaload, 1) := by decide +kernel
theorem dX6_doCut_61 : decode cX6_doCut 61 = .ok (.iconst 1, 1) := by decide +kernel
theorem dX6_doCut_62 : decode cX6_doCut 62 = .ok (.isub, 1) := by decide +kernel
theorem dX6_doCut_63 : decode cX6_doCut 63 = .ok (.istore_n 3, 1) := by decide +kernel
theorem dX6_doCut_64 : decode cX6_doCut 64 = .ok (.iload_n 3, 1) := by decide +kernel
theorem dX6_doCut_65 : decode cX6_doCut 65 = .ok (.aload_n 0, 1) := by decide +kernel
theorem dX6_doCut_66 : decode cX6_doCut 66 = .ok (.getfield 186, 3) := by decide +kernel
theorem dX6_doCut_69 : decode cX6_doCut 69 = .ok (.if_icmp .lt 30, 3) := by decide +kernel
theorem dX6_doCut_72 : decode cX6_doCut 72 = .ok (.aload_n 0, 1) := by decide +kernel
theorem dX6_doCut_73 : decode cX6_doCut 73 = .ok (.aload_n 0, 1) := by decide +kernel
theorem dX6_doCut_74 : decode cX6_doCut 74 = .ok (.getfield 16, 3) := by decide +kernel
theorem dX6_doCut_77 : decode cX6_doCut 77 = .ok (.bipush 14, 2) := by decide +kernel
theorem dX6_doCut_79 : decode cX6_doCut 79 = .ok (.aload_n 0, 1) := by decide +kernel
theorem dX6_doCut_80 : decode cX6_doCut 80 = .ok (.getfield 192, 3) := by decide +kernel
theorem dX6_doCut_83 : decode cX6_doCut 83 = .ok (.imul, 1) := by decide +kernel
theorem dX6_doCut_84 : decode cX6_doCut 84 = .ok (.iload_n 3, 1) := by decide +kernel
theorem dX6_doCut_85 : decode cX6_doCut 85 = .ok (.iadd, 1) := by decide +kernel
theorem dX6_doCut_86 : decode cX6_doCut 86 = .ok (.iaload, 1) := by decide +kernel
theorem dX6_doCut_87 : decode cX6_doCut 87 = .ok (.invokestatic 76, 3) := by decide +kernel
theorem dX6_doCut_90 : decode cX6_doCut 90 = .ok (.invokevirtual 80, 3) := by decide +kernel
theorem dX6_doCut_93 : decode cX6_doCut 93 = .ok (.iinc 3 (-1), 3) := by decide +kernel
theorem dX6_doCut_96 : decode cX6_doCut 96 = .ok (.goto (-32), 3) := by decide +kernel
theorem dX6_doCut_99 : decode cX6_doCut 99 = .ok (.iconst 0, 1) := by decide +kernel
theorem dX6_doCut_100 : decode cX6_doCut 100 = .ok (.istore_n 3, 1) := by decide +kernel
theorem dX6_doCut_101 : decode cX6_doCut 101 = .ok (.iload_n 3, 1) := by decide +kernel
theorem dX6_doCut_102 : decode cX6_doCut 102 = .ok (.iload_n 2, 1) := by decide +kernel
theorem dX6_doCut_103 : decode cX6_doCut 103 = .ok (.if_icmp .ge 19, 3) := by decide +kernel
theorem dX6_doCut_106 : decode cX6_doCut 106 = .ok (.aload_n 0, 1) := by decide +kernel
theorem dX6_doCut_107 : decode cX6_doCut 107 = .ok (.aload_n 0, 1) := by decide +kernel
theorem dX6_doCut_108 : decode cX6_doCut 108 = .ok (.getfield 40, 3) := by decide +kernel
theorem dX6_doCut_111 : decode cX6_doCut 111 = .ok (.iload_n 3, 1) := by decide +kernel
theorem dX6_doCut_112 : decode cX6_doCut 112 = .ok (.iaload, 1) := by decide +kernel
theorem dX6_doCut_113 : decode cX6_doCut 113 = .ok (.invokevirtual 80, 3) := by decide +kernel
theorem dX6_doCut_116 : decode cX6_doCut 116 = .ok (.iinc 3 1, 3) := by decide +kernel
theorem dX6_doCut_119 : decode cX6_doCut 119 = .ok (.goto (-18), 3) := by decide +kernel
theorem dX6_doCut_122 : decode cX6_doCut 122 = .ok (.return_, 1) := by decide +kernel
theorem dX6_shortenHand_0 : decode cX6_shortenHand 0 = .ok (.iconst 0, 1) := by decide +kernel
theorem dX6_shortenHand_1 : decode cX6_shortenHand 1 = .ok (.istore_n 2, 1) := by decide +kernel
theorem dX6_shortenHand_2 : decode cX6_shortenHand 2 = .ok (.aload_n 0, 1) := by decide +kernel
theorem dX6_shortenHand_3 : decode cX6_shortenHand 3 = .ok (.invokevirtual 205, 3) := by decide +kernel
theorem dX6_shortenHand_6 : decode cX6_shortenHand 6 = .ok (.aload_n 0, 1) := by decide +kernel
theorem dX6_shortenHand_7 : decode cX6_shortenHand 7 = .ok (.getfield 183, 3) := by decide +kernel
theorem dX6_shortenHand_10 : decode cX6_shortenHand 10 = .ok (.ifCond .lt 22, 3) := by decide +kernel
theorem dX6_shortenHand_13 : decode cX6_shortenHand 13 = .ok (.iload_n 2, 1) := by decide +kernel
theorem dX6_shortenHand_14 : decode cX6_shortenHand 14 = .ok (.iload_n 1, 1) := by decide +kernel
theorem dX6_shortenHand_15 : decode cX6_shortenHand 15 = .ok (.if_icmp .ge 17, 3) := by decide +kernel
theorem dX6_shortenHand_18 : decode cX6_shortenHand 18 = .ok (.aload_n 0, 1) := by decide +kernel
theorem dX6_shortenHand_19 : decode cX6_shortenHand 19 = .ok (.invokevirtual 208, 3) := by decide +kernel
theorem dX6_shortenHand_22 : decode cX6_shortenHand 22 = .ok (.iinc 2 1, 3) := by decide +kernel
theorem dX6_shortenHand_25 : decode cX6_shortenHand 25 = .ok (.aload_n 0, 1) := by decide +kernel
theorem dX6_shortenHand_26 : decode cX6_shortenHand 26 = .ok (.invokevirtual 205, 3) := by decide +kernel
theorem dX6_shortenHand_29 : decode cX6_shortenHand 29 = .ok (.goto (-23), 3) := by decide +kernel
theorem dX6_shortenHand_32 : decode cX6_shortenHand 32 = .ok (.iload_n 2, 1) := by decide +kernel
theorem dX6_shortenHand_33 : decode cX6_shortenHand 33 = .ok (.ireturn, 1) := by decide +kernel
theorem dX6_isNothing_0 : decode cX6_isNothing 0 = .ok (.aload_n 0, 1) := by decide +kernel
theorem dX6_isNothing_1 : decode cX6_isNothing 1 = .ok (.ldc 211, 2) := by decide +kernel
theorem dX6_isNothing_3 : decode cX6_isNothing 3 = .ok (.invokevirtual 212, 3) := by decide +kernel
theorem dX6_isNothing_6 : decode cX6_isNothing 6 = .ok (.istore_n 1, 1) := by decide +kernel
theorem dX6_isNothing_7 : decode cX6_isNothing 7 = .ok (.aload_n 0, 1) := by decide +kernel
theorem dX6_isNothing_8 : decode cX6_isNothing 8 = .ok (.getfield 72, 3) := by decide +kernel
theorem dX6_isNothing_11 : decode cX6_isNothing 11 = .ok (.ifCond .ne 7, 3) := by decide +kernel
theorem dX6_isNothing_14 : decode cX6_isNothing 14 = .ok (.iconst 1, 1) := by decide +kernel
theorem dX6_isNothing_15 : decode cX6_isNothing 15 = .ok (.goto 4, 3) := by decide +kernel
theorem dX6_isNothing_18 : decode cX6_isNothing 18 = .ok (.iconst 0, 1) := by decide +kernel
theorem dX6_isNothing_19 : decode cX6_isNothing 19 = .ok (.ireturn, 1) := by decide +kernel
theorem dX6_cuts_0 : decode cX6_cuts 0 = .ok (.iload_n 1, 1) := by decide +kernel
theorem dX6_cuts_1 : decode cX6_cuts 1 = .ok (.invokestatic 156, 3) := by decide +kernel
theorem dX6_cuts_4 : decode cX6_cuts 4 = .ok (.ifCond .ne 8, 3) := by decide +kernel
theorem dX6_cuts_7 : decode cX6_cuts 7 = .ok (.aload_n 0, 1) := by decide +kernel
theorem dX6_cuts_8 : decode cX6_cuts 8 = .ok (.invokevirtual 133, 3) := by decide +kernel
theorem dX6_cuts_11 : decode cX6_cuts 11 = .ok (.ireturn, 1) := by decide +kernel
theorem dX6_cuts_12 : decode cX6_cuts 12 = .ok (.aload_n 0, 1) := by decide +kernel
theorem dX6_cuts_13 : decode cX6_cuts 13 = .ok (.iload_n 1, 1) := by decide +kernel
theorem dX6_cuts_14 : decode cX6_cuts 14 = .ok (.invokevirtual 162, 3) := by decide +kernel
theorem dX6_cuts_17 : decode cX6_cuts 17 = .ok (.aload_n 0, 1) := by decide +kernel
theorem dX6_cuts_18 : decode cX6_cuts 18 = .ok (.invokevirtual 205, 3) := by decide +kernel
theorem dX6_cuts_21 : decode cX6_cuts 21 = .ok (.aload_n 0, 1) := by decide +kernel
theorem dX6_cuts_22 : decode cX6_cuts 22 = .ok (.getfield 195, 3) := by decide +kernel
theorem dX6_cuts_25 : decode cX6_cuts 25 = .ok (.ireturn, 1) := by decide +kernel
theorem dX6_cut_0 : decode cX6_cut 0 = .ok (.iload_n 1, 1) := by decide +kernel
theorem dX6_cut_1 : decode cX6_cut 1 = .ok (.invokestatic 156, 3) := by decide +kernel
theorem dX6_cut_4 : decode cX6_cut 4 = .ok (.ifCond .ne 8, 3) := by decide +kernel
theorem dX6_cut_7 : decode cX6_cut 7 = .ok (.aload_n 0, 1) := by decide +kernel
theorem dX6_cut_8 : decode cX6_cut 8 = .ok (.invokevirtual 133, 3) := by decide +kernel
theorem dX6_cut_11 : decode cX6_cut 11 = .ok (.ireturn, 1) := by decide +kernel
theorem dX6_cut_12 : decode cX6_cut 12 = .ok (.aload_n 0, 1) := by decide +kernel
theorem dX6_cut_13 : decode cX6_cut 13 = .ok (.iload_n 1, 1) := by decide +kernel
theorem dX6_cut_14 : decode cX6_cut 14 = .ok (.invokevirtual 162, 3) := by decide +kernel
theorem dX6_cut_17 : decode cX6_cut 17 = .ok (.aload_n 0, 1) := by decide +kernel
theorem dX6_cut_18 : decode cX6_cut 18 = .ok (.invokevirtual 205, 3) := by decide +kernel
theorem dX6_cut_21 : decode cX6_cut 21 = .ok (.aload_n 0, 1) := by decide +kernel
theorem dX6_cut_22 : decode cX6_cut 22 = .ok (.getfield 183, 3) := by decide +kernel
theorem dX6_cut_25 : decode cX6_cut 25 = .ok (.ifCond .ge 8, 3) := by decide +kernel
theorem dX6_cut_28 : decode cX6_cut 28 = .ok (.aload_n 0, 1) := by decide +kernel
theorem dX6_cut_29 : decode cX6_cut 29 = .ok (.invokevirtual 178, 3) := by decide +kernel
theorem dX6_cut_32 : decode cX6_cut 32 = .ok (.ireturn, 1) := by decide +kernel
theorem dX6_cut_33 : decode cX6_cut 33 = .ok (.aload_n 0, 1) := by decide +kernel
theorem dX6_cut_34 : decode cX6_cut 34 = .ok (.invokevirtual 208, 3) := by decide +kernel
theorem dX6_cut_37 : decode cX6_cut 37 = .ok (.aload_n 0, 1) := by decide +kernel
theorem dX6_cut_38 : decode cX6_cut 38 = .ok (.iload_n 1, 1) := by decide +kernel
theorem dX6_cut_39 : decode cX6_cut 39 = .ok (.invokevirtual 91, 3) := by decide +kernel
theorem dX6_cut_42 : decode cX6_cut 42 = .ok (.ireturn, 1) := by decide +kernel
theorem dX6_shorten_0 : decode cX6_shorten 0 = .ok (.iload_n 1, 1) := by decide +kernel
theorem dX6_shorten_1 : decode cX6_shorten 1 = .ok (.invokestatic 156, 3) := by decide +kernel
theorem dX6_shorten_4 : decode cX6_shorten 4 = .ok (.ifCond .ne 8, 3) := by decide +kernel
theorem dX6_shorten_7 : decode cX6_shorten 7 = .ok (.aload_n 0, 1) := by decide +kernel
theorem dX6_shorten_8 : decode cX6_shorten 8 = .ok (.invokevirtual 133, 3) := by decide +kernel
theorem dX6_shorten_11 : decode cX6_shorten 11 = .ok (.ireturn, 1) := by decide +kernel
theorem dX6_shorten_12 : decode cX6_shorten 12 = .ok (.aload_n 0, 1) := by decide +kernel
theorem dX6_shorten_13 : decode cX6_shorten 13 = .ok (.iload_n 1, 1) := by decide +kernel
theorem dX6_shorten_14 : decode cX6_shorten 14 = .ok (.invokevirtual 162, 3) := by decide +kernel
theorem dX6_shorten_17 : decode cX6_shorten 17 = .ok (.aload_n 0, 1) := by decide +kernel
theorem dX6_shorten_18 : decode cX6_shorten 18 = .ok (.ldc 211, 2) := by decide +kernel
theorem dX6_shorten_20 : decode cX6_shorten 20 = .ok (.invokevirtual 212, 3) := by decide +kernel
theorem dX6_shorten_23 : decode cX6_shorten 23 = .ok (.istore_n 2, 1) := by decide +kernel
theorem dX6_shorten_24 : decode cX6_shorten 24 = .ok (.aload_n 0, 1) := by decide +kernel
theorem dX6_shorten_25 : decode cX6_shorten 25 = .ok (.iload_n 1, 1) := by decide +kernel
theorem dX6_shorten_26 : decode cX6_shorten 26 = .ok (.invokevirtual 91, 3) := by decide +kernel
theorem dX6_shorten_29 : decode cX6_shorten 29 = .ok (.istore_n 3, 1) := by decide +kernel
theorem dX6_shorten_30 : decode cX6_shorten 30 = .ok (.iload_n 2, 1) := by decide +kernel
theorem dX6_shorten_31 : decode cX6_shorten 31 = .ok (.ireturn, 1) := by decide +kernel
theorem dX6_trail_0 : decode cX6_trail 0 = .ok (.iload_n 1, 1) := by decide +kernel
theorem dX6_trail_1 : decode cX6_trail 1 = .ok (.invokestatic 156, 3) := by decide +kernel
theorem dX6_trail_4 : decode cX6_trail 4 = .ok (.ifCond .eq 19, 3) := by decide +kernel
theorem dX6_trail_7 : decode cX6_trail 7 = .ok (.iload_n 2, 1) := by decide +kernel
theorem dX6_trail_8 : decode cX6_trail 8 = .ok (.ifCond .lt 15, 3) := by decide +kernel
theorem dX6_trail_11 : decode cX6_trail 11 = .ok (.iload_n 3, 1) := by decide +kernel
theorem dX6_trail_12 : decode cX6_trail 12 = .ok (.i2l, 1) := by decide +kernel
theorem dX6_trail_13 : decode cX6_trail 13 = .ok (.lconst 0, 1) := by decide +kernel
theorem dX6_trail_14 : decode cX6_trail 14 = .ok (.ldc2_w 181, 3) := by decide +kernel
theorem dX6_trail_17 : decode cX6_trail 17 = .ok (.invokestatic 66, 3) := by decide +kernel
theorem dX6_trail_20 : decode cX6_trail 20 = .ok (.ifCond .ne 8, 3) := by decide +kernel
theorem dX6_trail_23 : decode cX6_trail 23 = .ok (.aload_n 0, 1) := by decide +kernel
theorem dX6_trail_24 : decode cX6_trail 24 = .ok (.invokevirtual 133, 3) := by decide +kernel
theorem dX6_trail_27 : decode cX6_trail 27 = .ok (.ireturn, 1) := by decide +kernel
theorem dX6_trail_28 : decode cX6_trail 28 = .ok (.aload_n 0, 1) := by decide +kernel
theorem dX6_trail_29 : decode cX6_trail 29 = .ok (.iload_n 1, 1) := by decide +kernel
theorem dX6_trail_30 : decode cX6_trail 30 = .ok (.invokevirtual 162, 3) := by decide +kernel
theorem dX6_trail_33 : decode cX6_trail 33 = .ok (.aload_n 0, 1) := by decide +kernel
theorem dX6_trail_34 : decode cX6_trail 34 = .ok (.iload_n 2, 1) := by decide +kernel
theorem dX6_trail_35 : decode cX6_trail 35 = .ok (.invokevirtual 212, 3) := by decide +kernel
theorem dX6_trail_38 : decode cX6_trail 38 = .ok (.istore 4, 2) := by decide +kernel
theorem dX6_trail_40 : decode cX6_trail 40 = .ok (.aload_n 0, 1) := by decide +kernel
theorem dX6_trail_41 : decode cX6_trail 41 = .ok (.getfield 183, 3) := by decide +kernel
theorem dX6_trail_44 : decode cX6_trail 44 = .ok (.ifCond .ge 5, 3) := by decide +kernel
theorem dX6_trail_47 : decode cX6_trail 47 = .ok (.iconst (-1), 1) := by decide +kernel
theorem dX6_trail_48 : decode cX6_trail 48 = .ok (.ireturn, 1) := by decide +kernel
theorem dX6_trail_49 : decode cX6_trail 49 = .ok (.iload_n 3, 1) := by decide +kernel
theorem dX6_trail_50 : decode cX6_trail 50 = .ok (.ifCond .ne 10, 3) := by decide +kernel
theorem dX6_trail_53 : decode cX6_trail 53 = .ok (.aload_n 0, 1) := by decide +kernel
theorem dX6_trail_54 : decode cX6_trail 54 = .ok (.getfield 183, 3) := by decide +kernel
theorem dX6_trail_57 : decode cX6_trail 57 = .ok (.goto 19, 3) := by decide +kernel
theorem dX6_trail_60 : decode cX6_trail 60 = .ok (.iload_n 3, 1) := by decide +kernel
theorem dX6_trail_61 : decode cX6_trail 61 = .ok (.iconst 1, 1) := by decide +kernel
theorem dX6_trail_62 : decode cX6_trail 62 = .ok (.if_icmp .ne 10, 3) := by decide +kernel
theorem dX6_trail_65 : decode cX6_trail 65 = .ok (.aload_n 0, 1) := by decide +kernel
theorem dX6_trail_66 : decode cX6_trail 66 = .ok (.getfield 192, 3) := by decide +kernel
theorem dX6_trail_69 : decode cX6_trail 69 = .ok (.goto 7, 3) := by decide +kernel
theorem dX6_trail_72 : decode cX6_trail 72 = .ok (.aload_n 0, 1) := by decide +kernel
theorem dX6_trail_73 : decode cX6_trail 73 = .ok (.getfield 186, 3) := by decide +kernel
theorem dX6_trail_76 : decode cX6_trail 76 = .ok (.istore 5, 2) := by decide +kernel
theorem dX6_trail_78 : decode cX6_trail 78 = .ok (.aload_n 0, 1) := by decide +kernel
theorem dX6_trail_79 : decode cX6_trail 79 = .ok (.invokevirtual 208, 3) := by decide +kernel
theorem dX6_trail_82 : decode cX6_trail 82 = .ok (.iload_n 3, 1) := by decide +kernel
theorem dX6_trail_83 : decode cX6_trail 83 = .ok (.iconst 3, 1) := by decide +kernel
theorem dX6_trail_84 : decode cX6_trail 84 = .ok (.if_icmp .ne 10, 3) := by decide +kernel
theorem dX6_trail_87 : decode cX6_trail 87 = .ok (.aload_n 0, 1) := by decide +kernel
theorem dX6_trail_88 : decode cX6_trail 88 = .ok (.getfield 72, 3) := by decide +kernel
theorem dX6_trail_91 : decode cX6_trail 91 = .ok (.goto 5, 3) := by decide +kernel
theorem dX6_trail_94 : decode cX6_trail 94 = .ok (.iload 5, 2) := by decide +kernel
theorem dX6_trail_96 : decode cX6_trail 96 = .ok (.ireturn, 1) := by decide +kernel
theorem dX6_nothing_0 : decode cX6_nothing 0 = .ok (.iload_n 1, 1) := by decide +kernel
theorem dX6_nothing_1 : decode cX6_nothing 1 = .ok (.invokestatic 156, 3) := by decide +kernel
theorem dX6_nothing_4 : decode cX6_nothing 4 = .ok (.ifCond .ne 8, 3) := by decide +kernel
theorem dX6_nothing_7 : decode cX6_nothing 7 = .ok (.aload_n 0, 1) := by decide +kernel
theorem dX6_nothing_8 : decode cX6_nothing 8 = .ok (.invokevirtual 133, 3) := by decide +kernel
theorem dX6_nothing_11 : decode cX6_nothing 11 = .ok (.ireturn, 1) := by decide +kernel
theorem dX6_nothing_12 : decode cX6_nothing 12 = .ok (.aload_n 0, 1) := by decide +kernel
theorem dX6_nothing_13 : decode cX6_nothing 13 = .ok (.bipush 6, 2) := by decide +kernel
theorem dX6_nothing_15 : decode cX6_nothing 15 = .ok (.invokevirtual 141, 3) := by decide +kernel
theorem dX6_nothing_18 : decode cX6_nothing 18 = .ok (.ifCond .ne 8, 3) := by decide +kernel
theorem dX6_nothing_21 : decode cX6_nothing 21 = .ok (.aload_n 0, 1) := by decide +kernel
theorem dX6_nothing_22 : decode cX6_nothing 22 = .ok (.invokevirtual 178, 3) := by decide +kernel
theorem dX6_nothing_25 : decode cX6_nothing 25 = .ok (.ireturn, 1) := by decide +kernel
theorem dX6_nothing_26 : decode cX6_nothing 26 = .ok (.aload_n 0, 1) := by decide +kernel
theorem dX6_nothing_27 : decode cX6_nothing 27 = .ok (.iload_n 1, 1) := by decide +kernel
theorem dX6_nothing_28 : decode cX6_nothing 28 = .ok (.invokevirtual 162, 3) := by decide +kernel
theorem dX6_nothing_31 : decode cX6_nothing 31 = .ok (.aload_n 0, 1) := by decide +kernel
theorem dX6_nothing_32 : decode cX6_nothing 32 = .ok (.invokevirtual 215, 3) := by decide +kernel
theorem dX6_nothing_35 : decode cX6_nothing 35 = .ok (.ifCond .eq 7, 3) := by decide +kernel
theorem dX6_nothing_38 : decode cX6_nothing 38 = .ok (.iconst 1, 1) := by decide +kernel
theorem dX6_nothing_39 : decode cX6_nothing 39 = .ok (.goto 4, 3) := by decide +kernel
theorem dX6_nothing_42 : decode cX6_nothing 42 = .ok (.iconst 0, 1) := by decide +kernel
theorem dX6_nothing_43 : decode cX6_nothing 43 = .ok (.ireturn, 1) := by decide +kernel
theorem dX6_same_0 : decode cX6_same 0 = .ok (.iload_n 1, 1) := by decide +kernel
theorem dX6_same_1 : decode cX6_same 1 = .ok (.invokestatic 156, 3) := by decide +kernel
theorem dX6_same_4 : decode cX6_same 4 = .ok (.ifCond .eq 10, 3) := by decide +kernel
theorem dX6_same_7 : decode cX6_same 7 = .ok (.iload_n 2, 1) := by decide +kernel
theorem dX6_same_8 : decode cX6_same 8 = .ok (.invokestatic 156, 3) := by decide +kernel
theorem dX6_same_11 : decode cX6_same 11 = .ok (.ifCond .ne 8, 3) := by decide +kernel
theorem dX6_same_14 : decode cX6_same 14 = .ok (.aload_n 0, 1) := by decide +kernel
theorem dX6_same_15 : decode cX6_same 15 = .ok (.invokevirtual 133, 3) := by decide +kernel
theorem dX6_same_18 : decode cX6_same 18 = .ok (.ireturn, 1) := by decide +kernel
theorem dX6_same_19 : decode cX6_same 19 = .ok (.aload_n 0, 1) := by decide +kernel
theorem dX6_same_20 : decode cX6_same 20 = .ok (.bipush 6, 2) := by decide +kernel
theorem dX6_same_22 : decode cX6_same 22 = .ok (.invokevirtual 141, 3) := by decide +kernel
theorem dX6_same_25 : decode cX6_same 25 = .ok (.ifCond .ne 8, 3) := by decide +kernel
theorem dX6_same_28 : decode cX6_same 28 = .ok (.aload_n 0, 1) := by decide +kernel
theorem dX6_same_29 : decode cX6_same 29 = .ok (.invokevirtual 178, 3) := by decide +kernel
theorem dX6_same_32 : decode cX6_same 32 = .ok (.ireturn, 1) := by decide +kernel
theorem dX6_same_33 : decode cX6_same 33 = .ok (.aload_n 0, 1) := by decide +kernel
theorem dX6_same_34 : decode cX6_same 34 = .ok (.iload_n 1, 1) := by decide +kernel
theorem dX6_same_35 : decode cX6_same 35 = .ok (.invokevirtual 162, 3) := by decide +kernel
theorem dX6_same_38 : decode cX6_same 38 = .ok (.aload_n 0, 1) := by decide +kernel
theorem dX6_same_39 : decode cX6_same 39 = .ok (.iload_n 2, 1) := by decide +kernel
theorem dX6_same_40 : decode cX6_same 40 = .ok (.invokevirtual 168, 3) := by decide +kernel
theorem dX6_same_43 : decode cX6_same 43 = .ok (.aload_n 0, 1) := by decide +kernel
theorem dX6_same_44 : decode cX6_same 44 = .ok (.getfield 72, 3) := by decide +kernel
theorem dX6_same_47 : decode cX6_same 47 = .ok (.bipush 60, 2) := by decide +kernel
theorem dX6_same_49 : decode cX6_same 49 = .ok (.if_icmp .le 8, 3) := by decide +kernel
theorem dX6_same_52 : decode cX6_same 52 = .ok (.aload_n 0, 1) := by decide +kernel
theorem dX6_same_53 : decode cX6_same 53 = .ok (.invokevirtual 87, 3) := by decide +kernel
theorem dX6_same_56 : decode cX6_same 56 = .ok (.ireturn, 1) := by decide +kernel
theorem dX6_same_57 : decode cX6_same 57 = .ok (.aload_n 0, 1) := by decide +kernel
theorem dX6_same_58 : decode cX6_same 58 = .ok (.invokevirtual 215, 3) := by decide +kernel
theorem dX6_same_61 : decode cX6_same 61 = .ok (.ifCond .eq 7, 3) := by decide +kernel
theorem dX6_same_64 : decode cX6_same 64 = .ok (.iconst 1, 1) := by decide +kernel
theorem dX6_same_65 : decode cX6_same 65 = .ok (.goto 4, 3) := by decide +kernel
theorem dX6_same_68 : decode cX6_same 68 = .ok (.iconst 0, 1) := by decide +kernel
theorem dX6_same_69 : decode cX6_same 69 = .ok (.ireturn, 1) := by decide +kernel
theorem dX6_order_0 : decode cX6_order 0 = .ok (.iload_n 1, 1) := by decide +kernel
theorem dX6_order_1 : decode cX6_order 1 = .ok (.invokestatic 156, 3) := by decide +kernel
theorem dX6_order_4 : decode cX6_order 4 = .ok (.ifCond .ne 8, 3) := by decide +kernel
theorem dX6_order_7 : decode cX6_order 7 = .ok (.aload_n 0, 1) := by decide +kernel
theorem dX6_order_8 : decode cX6_order 8 = .ok (.invokevirtual 133, 3) := by decide +kernel
theorem dX6_order_11 : decode cX6_order 11 = .ok (.ireturn, 1) := by decide +kernel
theorem dX6_order_12 : decode cX6_order 12 = .ok (.aload_n 0, 1) := by decide +kernel
theorem dX6_order_13 : decode cX6_order 13 = .ok (.bipush 6, 2) := by decide +kernel
theorem dX6_order_15 : decode cX6_order 15 = .ok (.invokevirtual 141, 3) := by decide +kernel
theorem dX6_order_18 : decode cX6_order 18 = .ok (.ifCond .ne 8, 3) := by decide +kernel
theorem dX6_order_21 : decode cX6_order 21 = .ok (.aload_n 0, 1) := by decide +kernel
theorem dX6_order_22 : decode cX6_order 22 = .ok (.invokevirtual 178, 3) := by decide +kernel
theorem dX6_order_25 : decode cX6_order 25 = .ok (.ireturn, 1) := by decide +kernel
theorem dX6_order_26 : decode cX6_order 26 = .ok (.iconst 1, 1) := by decide +kernel
theorem dX6_order_27 : decode cX6_order 27 = .ok (.istore_n 2, 1) := by decide +kernel
theorem dX6_order_28 : decode cX6_order 28 = .ok (.iload_n 2, 1) := by decide +kernel
theorem dX6_order_29 : decode cX6_order 29 = .ok (.bipush 7, 2) := by decide +kernel
theorem dX6_order_31 : decode cX6_order 31 = .ok (.if_icmp .ge 52, 3) := by decide +kernel
theorem dX6_order_34 : decode cX6_order 34 = .ok (.aload_n 0, 1) := by decide +kernel
theorem dX6_order_35 : decode cX6_order 35 = .ok (.iconst 0, 1) := by decide +kernel
theorem dX6_order_36 : decode cX6_order 36 = .ok (.putfield 72, 3) := by decide +kernel
theorem dX6_order_39 : decode cX6_order 39 = .ok (.iconst 0, 1) := by decide +kernel
theorem dX6_order_40 : decode cX6_order 40 = .ok (.istore_n 3, 1) := by decide +kernel
theorem dX6_order_41 : decode cX6_order 41 = .ok (.iload_n 3, 1) := by decide +kernel
theorem dX6_order_42 : decode cX6_order 42 = .ok (.iload_n 2, 1) := by decide +kernel
theorem dX6_order_43 : decode cX6_order 43 = .ok (.if_icmp .ge 14, 3) := by decide +kernel
theorem dX6_order_46 : decode cX6_order 46 = .ok (.aload_n 0, 1) := by decide +kernel
theorem dX6_order_47 : decode cX6_order 47 = .ok (.iload_n 1, 1) := by decide +kernel
theorem dX6_order_48 : decode cX6_order 48 = .ok (.invokevirtual 84, 3) := by decide +kernel
theorem dX6_order_51 : decode cX6_order 51 = .ok (.iinc 3 1, 3) := by decide +kernel
theorem dX6_order_54 : decode cX6_order 54 = .ok (.goto (-13), 3) := by decide +kernel
theorem dX6_order_57 : decode cX6_order 57 = .ok (.aload_n 0, 1) := by decide +kernel
theorem dX6_order_58 : decode cX6_order 58 = .ok (.getfield 72, 3) := by decide +kernel
theorem dX6_order_61 : decode cX6_order 61 = .ok (.bipush 60, 2) := by decide +kernel
theorem dX6_order_63 : decode cX6_order 63 = .ok (.if_icmp .le 5, 3) := by decide +kernel
theorem dX6_order_66 : decode cX6_order 66 = .ok (.iconst (-1), 1) := by decide +kernel
theorem dX6_order_67 : decode cX6_order 67 = .ok (.ireturn, 1) := by decide +kernel
theorem dX6_order_68 : decode cX6_order 68 = .ok (.aload_n 0, 1) := by decide +kernel
theorem dX6_order_69 : decode cX6_order 69 = .ok (.invokevirtual 215, 3) := by decide +kernel
theorem dX6_order_72 : decode cX6_order 72 = .ok (.ifCond .eq 5, 3) := by decide +kernel
theorem dX6_order_75 : decode cX6_order 75 = .ok (.iload_n 2, 1) := by decide +kernel
theorem dX6_order_76 : decode cX6_order 76 = .ok (.ireturn, 1) := by decide +kernel
theorem dX6_order_77 : decode cX6_order 77 = .ok (.iinc 2 1, 3) := by decide +kernel
theorem dX6_order_80 : decode cX6_order 80 = .ok (.goto (-52), 3) := by decide +kernel
theorem dX6_order_83 : decode cX6_order 83 = .ok (.iconst (-1), 1) := by decide +kernel
theorem dX6_order_84 : decode cX6_order 84 = .ok (.ireturn, 1) := by decide +kernel
theorem dX6_layRings_0 : decode cX6_layRings 0 = .ok (.aload_n 0, 1) := by decide +kernel
theorem dX6_layRings_1 : decode cX6_layRings 1 = .ok (.iload_n 1, 1) := by decide +kernel
theorem dX6_layRings_2 : decode cX6_layRings 2 = .ok (.invokevirtual 162, 3) := by decide +kernel
theorem dX6_layRings_5 : decode cX6_layRings 5 = .ok (.aload_n 0, 1) := by decide +kernel
theorem dX6_layRings_6 : decode cX6_layRings 6 = .ok (.invokevirtual 173, 3) := by decide +kernel
theorem dX6_layRings_9 : decode cX6_layRings 9 = .ok (.aload_n 0, 1) := by decide +kernel
theorem dX6_layRings_10 : decode cX6_layRings 10 = .ok (.aload_n 0, 1) := by decide +kernel
theorem dX6_layRings_11 : decode cX6_layRings 11 = .ok (.getfield 72, 3) := by decide +kernel
theorem dX6_layRings_14 : decode cX6_layRings 14 = .ok (.putfield 219, 3) := by decide +kernel
theorem dX6_layRings_17 : decode cX6_layRings 17 = .ok (.iconst 0, 1) := by decide +kernel
theorem dX6_layRings_18 : decode cX6_layRings 18 = .ok (.istore_n 3, 1) := by decide +kernel
theorem dX6_layRings_19 : decode cX6_layRings 19 = .ok (.iload_n 3, 1) := by decide +kernel
theorem dX6_layRings_20 : decode cX6_layRings 20 = .ok (.aload_n 0, 1) := by decide +kernel
theorem dX6_layRings_21 : decode cX6_layRings 21 = .ok (.getfield 72, 3) := by decide +kernel
theorem dX6_layRings_24 : decode cX6_layRings 24 = .ok (.if_icmp .ge 21, 3) := by decide +kernel
theorem dX6_layRings_27 : decode cX6_layRings 27 = .ok (.aload_n 0, 1) := by decide +kernel
theorem dX6_layRings_28 : decode cX6_layRings 28 = .ok (.getfield 43, 3) := by decide +kernel
theorem dX6_layRings_31 : decode cX6_layRings 31 = .ok (.iload_n 3, 1) := by decide +kernel
theorem dX6_layRings_32 : decode cX6_layRings 32 = .ok (.aload_n 0, 1) := by decide +kernel
theorem dX6_layRings_33 : decode cX6_layRings 33 = .ok (.getfield 34, 3) := by decide +kernel
theorem dX6_layRings_36 : decode cX6_layRings 36 = .ok (.iload_n 3, 1) := by decide +kernel
theorem dX6_layRings_37 : decode cX6_layRings 37 = .ok (.iaload, 1) := by decide +kernel
theorem dX6_layRings_38 : decode cX6_layRings 38 = .ok (.iastore, 1) := by decide +kernel
theorem dX6_layRings_39 : decode cX6_layRings 39 = .ok (.iinc 3 1, 3) := by decide +kernel
theorem dX6_layRings_42 : decode cX6_layRings 42 = .ok (.goto (-23), 3) := by decide +kernel
theorem dX6_layRings_45 : decode cX6_layRings 45 = .ok (.aload_n 0, 1) := by decide +kernel
theorem dX6_layRings_46 : decode cX6_layRings 46 = .ok (.iload_n 2, 1) := by decide +kernel
theorem dX6_layRings_47 : decode cX6_layRings 47 = .ok (.invokevirtual 162, 3) := by decide +kernel
theorem dX6_layRings_50 : decode cX6_layRings 50 = .ok (.aload_n 0, 1) := by decide +kernel
theorem dX6_layRings_51 : decode cX6_layRings 51 = .ok (.invokevirtual 173, 3) := by decide +kernel
theorem dX6_layRings_54 : decode cX6_layRings 54 = .ok (.aload_n 0, 1) := by decide +kernel
theorem dX6_layRings_55 : decode cX6_layRings 55 = .ok (.aload_n 0, 1) := by decide +kernel
theorem dX6_layRings_56 : decode cX6_layRings 56 = .ok (.getfield 72, 3) := by decide +kernel
theorem dX6_layRings_59 : decode cX6_layRings 59 = .ok (.putfield 222, 3) := by decide +kernel
theorem dX6_layRings_62 : decode cX6_layRings 62 = .ok (.iconst 0, 1) := by decide +kernel
theorem dX6_layRings_63 : decode cX6_layRings 63 = .ok (.istore_n 3, 1) := by decide +kernel
theorem dX6_layRings_64 : decode cX6_layRings 64 = .ok (.iload_n 3, 1) := by decide +kernel
theorem dX6_layRings_65 : decode cX6_layRings 65 = .ok (.aload_n 0, 1) := by decide +kernel
theorem dX6_layRings_66 : decode cX6_layRings 66 = .ok (.getfield 72, 3) := by decide +kernel
theorem dX6_layRings_69 : decode cX6_layRings 69 = .ok (.if_icmp .ge 21, 3) := by decide +kernel
theorem dX6_layRings_72 : decode cX6_layRings 72 = .ok (.aload_n 0, 1) := by decide +kernel
theorem dX6_layRings_73 : decode cX6_layRings 73 = .ok (.getfield 46, 3) := by decide +kernel
theorem dX6_layRings_76 : decode cX6_layRings 76 = .ok (.iload_n 3, 1) := by decide +kernel
theorem dX6_layRings_77 : decode cX6_layRings 77 = .ok (.aload_n 0, 1) := by decide +kernel
theorem dX6_layRings_78 : decode cX6_layRings 78 = .ok (.getfield 34, 3) := by decide +kernel
theorem dX6_layRings_81 : decode cX6_layRings 81 = .ok (.iload_n 3, 1) := by decide +kernel
theorem dX6_layRings_82 : decode cX6_layRings 82 = .ok (.iaload, 1) := by decide +kernel
theorem dX6_layRings_83 : decode cX6_layRings 83 = .ok (.iastore, 1) := by decide +kernel
theorem dX6_layRings_84 : decode cX6_layRings 84 = .ok (.iinc 3 1, 3) := by decide +kernel
theorem dX6_layRings_87 : decode cX6_layRings 87 = .ok (.goto (-23), 3) := by decide +kernel
theorem dX6_layRings_90 : decode cX6_layRings 90 = .ok (.return_, 1) := by decide +kernel
theorem dX6_turnsBy_0 : decode cX6_turnsBy 0 = .ok (.aload_n 0, 1) := by decide +kernel
theorem dX6_turnsBy_1 : decode cX6_turnsBy 1 = .ok (.iconst 0, 1) := by decide +kernel
theorem dX6_turnsBy_2 : decode cX6_turnsBy 2 = .ok (.putfield 72, 3) := by decide +kernel
theorem dX6_turnsBy_5 : decode cX6_turnsBy 5 = .ok (.iconst 0, 1) := by decide +kernel
theorem dX6_turnsBy_6 : decode cX6_turnsBy 6 = .ok (.istore 4, 2) := by decide +kernel
theorem dX6_turnsBy_8 : decode cX6_turnsBy 8 = .ok (.iload 4, 2) := by decide +kernel
theorem dX6_turnsBy_10 : decode cX6_turnsBy 10 = .ok (.aload_n 0, 1) := by decide +kernel
theorem dX6_turnsBy_11 : decode cX6_turnsBy 11 = .ok (.getfield 219, 3) := by decide +kernel
theorem dX6_turnsBy_14 : decode cX6_turnsBy 14 = .ok (.if_icmp .ge 27, 3) := by decide +kernel
theorem dX6_turnsBy_17 : decode cX6_turnsBy 17 = .ok (.aload_n 0, 1) := by decide +kernel
theorem dX6_turnsBy_18 : decode cX6_turnsBy 18 = .ok (.aload_n 0, 1) := by decide +kernel
theorem dX6_turnsBy_19 : decode cX6_turnsBy 19 = .ok (.getfield 43, 3) := by decide +kernel
theorem dX6_turnsBy_22 : decode cX6_turnsBy 22 = .ok (.iload_n 1, 1) := by decide +kernel
theorem dX6_turnsBy_23 : decode cX6_turnsBy 23 = .ok (.iload 4, 2) := by decide +kernel
theorem dX6_turnsBy_25 : decode cX6_turnsBy 25 = .ok (.iadd, 1) := by decide +kernel
theorem dX6_turnsBy_26 : decode cX6_turnsBy 26 = .ok (.aload_n 0, 1) := by decide +kernel
theorem dX6_turnsBy_27 : decode cX6_turnsBy 27 = .ok (.getfield 219, 3) := by decide +kernel
theorem dX6_turnsBy_30 : decode cX6_turnsBy 30 = .ok (.irem, 1) := by decide +kernel
theorem dX6_turnsBy_31 : decode cX6_turnsBy 31 = .ok (.iaload, 1) := by decide +kernel
theorem dX6_turnsBy_32 : decode cX6_turnsBy 32 = .ok (.invokevirtual 80, 3) := by decide +kernel
theorem dX6_turnsBy_35 : decode cX6_turnsBy 35 = .ok (.iinc 4 1, 3) := by decide +kernel
theorem dX6_turnsBy_38 : decode cX6_turnsBy 38 = .ok (.goto (-30), 3) := by decide +kernel
theorem dX6_turnsBy_41 : decode cX6_turnsBy 41 = .ok (.iconst 0, 1) := by decide +kernel
theorem dX6_turnsBy_42 : decode cX6_turnsBy 42 = .ok (.istore 4, 2) := by decide +kernel
theorem dX6_turnsBy_44 : decode cX6_turnsBy 44 = .ok (.iload 4, 2) := by decide +kernel
theorem dX6_turnsBy_46 : decode cX6_turnsBy 46 = .ok (.iload_n 3, 1) := by decide +kernel
theorem dX6_turnsBy_47 : decode cX6_turnsBy 47 = .ok (.if_icmp .ge 25, 3) := by decide +kernel
theorem dX6_turnsBy_50 : decode cX6_turnsBy 50 = .ok (.aload_n 0, 1) := by decide +kernel
theorem dX6_turnsBy_51 : decode cX6_turnsBy 51 = .ok (.aload_n 0, 1) := by decide +kernel
theorem dX6_turnsBy_52 : decode cX6_turnsBy 52 = .ok (.getfield 16, 3) := by decide +kernel
theorem dX6_turnsBy_55 : decode cX6_turnsBy 55 = .ok (.bipush 14, 2) := by decide +kernel
theorem dX6_turnsBy_57 : decode cX6_turnsBy 57 = .ok (.iload_n 2, 1) := by decide +kernel
theorem dX6_turnsBy_58 : decode cX6_turnsBy 58 = .ok (.imul, 1) := by decide +kernel
theorem dX6_turnsBy_59 : decode cX6_turnsBy 59 = .ok (.iload 4, 2) := by decide +kernel
theorem dX6_turnsBy_61 : decode cX6_turnsBy 61 = .ok (.iadd, 1) := by decide +kernel
theorem dX6_turnsBy_62 : decode cX6_turnsBy 62 = .ok (.iaload, 1) := by decide +kernel
theorem dX6_turnsBy_63 : decode cX6_turnsBy 63 = .ok (.invokevirtual 80, 3) := by decide +kernel
theorem dX6_turnsBy_66 : decode cX6_turnsBy 66 = .ok (.iinc 4 1, 3) := by decide +kernel
theorem dX6_turnsBy_69 : decode cX6_turnsBy 69 = .ok (.goto (-25), 3) := by decide +kernel
theorem dX6_turnsBy_72 : decode cX6_turnsBy 72 = .ok (.aload_n 0, 1) := by decide +kernel
theorem dX6_turnsBy_73 : decode cX6_turnsBy 73 = .ok (.getfield 222, 3) := by decide +kernel
theorem dX6_turnsBy_76 : decode cX6_turnsBy 76 = .ok (.iconst 1, 1) := by decide +kernel
theorem dX6_turnsBy_77 : decode cX6_turnsBy 77 = .ok (.isub, 1) := by decide +kernel
theorem dX6_turnsBy_78 : decode cX6_turnsBy 78 = .ok (.istore 4, 2) := by decide +kernel
theorem dX6_turnsBy_80 : decode cX6_turnsBy 80 = .ok (.iload 4, 2) := by decide +kernel
theorem dX6_turnsBy_82 : decode cX6_turnsBy 82 = .ok (.ifCond .lt 23, 3) := by decide +kernel
theorem dX6_turnsBy_85 : decode cX6_turnsBy 85 = .ok (.aload_n 0, 1) := by decide +kernel
theorem dX6_turnsBy_86 : decode cX6_turnsBy 86 = .ok (.aload_n 0, 1) := by decide +kernel
theorem dX6_turnsBy_87 : decode cX6_turnsBy 87 = .ok (.getfield 46, 3) := by decide +kernel
theorem dX6_turnsBy_90 : decode cX6_turnsBy 90 = .ok (.iload 4, 2) := by decide +kernel
theorem dX6_turnsBy_92 : decode cX6_turnsBy 92 = .ok (.iaload, 1) := by decide +kernel
theorem dX6_turnsBy_93 : decode cX6_turnsBy 93 = .ok (.invokestatic 76, 3) := by decide +kernel
theorem dX6_turnsBy_96 : decode cX6_turnsBy 96 = .ok (.invokevirtual 80, 3) := by decide +kernel
theorem dX6_turnsBy_99 : decode cX6_turnsBy 99 = .ok (.iinc 4 (-1), 3) := by decide +kernel
theorem dX6_turnsBy_102 : decode cX6_turnsBy 102 = .ok (.goto (-22), 3) := by decide +kernel
theorem dX6_turnsBy_105 : decode cX6_turnsBy 105 = .ok (.iload_n 3, 1) := by decide +kernel
theorem dX6_turnsBy_106 : decode cX6_turnsBy 106 = .ok (.iconst 1, 1) := by decide +kernel
theorem dX6_turnsBy_107 : decode cX6_turnsBy 107 = .ok (.isub, 1) := by decide +kernel
theorem dX6_turnsBy_108 : decode cX6_turnsBy 108 = .ok (.istore 4, 2) := by decide +kernel
theorem dX6_turnsBy_110 : decode cX6_turnsBy 110 = .ok (.iload 4, 2) := by decide +kernel
theorem dX6_turnsBy_112 : decode cX6_turnsBy 112 = .ok (.ifCond .lt 28, 3) := by decide +kernel
theorem dX6_turnsBy_115 : decode cX6_turnsBy 115 = .ok (.aload_n 0, 1) := by decide +kernel
theorem dX6_turnsBy_116 : decode cX6_turnsBy 116 = .ok (.aload_n 0, 1) := by decide +kernel
theorem dX6_turnsBy_117 : decode cX6_turnsBy 117 = .ok (.getfield 16, 3) := by decide +kernel
theorem dX6_turnsBy_120 : decode cX6_turnsBy 120 = .ok (.bipush 14, 2) := by decide +kernel
theorem dX6_turnsBy_122 : decode cX6_turnsBy 122 = .ok (.iload_n 2, 1) := by decide +kernel
theorem dX6_turnsBy_123 : decode cX6_turnsBy 123 = .ok (.imul, 1) := by decide +kernel
theorem dX6_turnsBy_124 : decode cX6_turnsBy 124 = .ok (.iload 4, 2) := by decide +kernel
theorem dX6_turnsBy_126 : decode cX6_turnsBy 126 = .ok (.iadd, 1) := by decide +kernel
theorem dX6_turnsBy_127 : decode cX6_turnsBy 127 = .ok (.iaload, 1) := by decide +kernel
theorem dX6_turnsBy_128 : decode cX6_turnsBy 128 = .ok (.invokestatic 76, 3) := by decide +kernel
theorem dX6_turnsBy_131 : decode cX6_turnsBy 131 = .ok (.invokevirtual 80, 3) := by decide +kernel
theorem dX6_turnsBy_134 : decode cX6_turnsBy 134 = .ok (.iinc 4 (-1), 3) := by decide +kernel
theorem dX6_turnsBy_137 : decode cX6_turnsBy 137 = .ok (.goto (-27), 3) := by decide +kernel
theorem dX6_turnsBy_140 : decode cX6_turnsBy 140 = .ok (.aload_n 0, 1) := by decide +kernel
theorem dX6_turnsBy_141 : decode cX6_turnsBy 141 = .ok (.invokevirtual 215, 3) := by decide +kernel
theorem dX6_turnsBy_144 : decode cX6_turnsBy 144 = .ok (.ireturn, 1) := by decide +kernel
theorem dX6_turned_0 : decode cX6_turned 0 = .ok (.iload_n 1, 1) := by decide +kernel
theorem dX6_turned_1 : decode cX6_turned 1 = .ok (.invokestatic 156, 3) := by decide +kernel
theorem dX6_turned_4 : decode cX6_turned 4 = .ok (.ifCond .eq 10, 3) := by decide +kernel
theorem dX6_turned_7 : decode cX6_turned 7 = .ok (.iload_n 2, 1) := by decide +kernel
theorem dX6_turned_8 : decode cX6_turned 8 = .ok (.invokestatic 156, 3) := by decide +kernel
theorem dX6_turned_11 : decode cX6_turned 11 = .ok (.ifCond .ne 8, 3) := by decide +kernel
theorem dX6_turned_14 : decode cX6_turned 14 = .ok (.aload_n 0, 1) := by decide +kernel
theorem dX6_turned_15 : decode cX6_turned 15 = .ok (.invokevirtual 133, 3) := by decide +kernel
theorem dX6_turned_18 : decode cX6_turned 18 = .ok (.ireturn, 1) := by decide +kernel
theorem dX6_turned_19 : decode cX6_turned 19 = .ok (.aload_n 0, 1) := by decide +kernel
theorem dX6_turned_20 : decode cX6_turned 20 = .ok (.iload_n 1, 1) := by decide +kernel
theorem dX6_turned_21 : decode cX6_turned 21 = .ok (.iload_n 2, 1) := by decide +kernel
theorem dX6_turned_22 : decode cX6_turned 22 = .ok (.invokevirtual 225, 3) := by decide +kernel
theorem dX6_turned_25 : decode cX6_turned 25 = .ok (.aload_n 0, 1) := by decide +kernel
theorem dX6_turned_26 : decode cX6_turned 26 = .ok (.bipush 6, 2) := by decide +kernel
theorem dX6_turned_28 : decode cX6_turned 28 = .ok (.invokevirtual 141, 3) := by decide +kernel
theorem dX6_turned_31 : decode cX6_turned 31 = .ok (.ifCond .eq 21, 3) := by decide +kernel
theorem dX6_turned_34 : decode cX6_turned 34 = .ok (.aload_n 0, 1) := by decide +kernel
theorem dX6_turned_35 : decode cX6_turned 35 = .ok (.getfield 219, 3) := by decide +kernel
theorem dX6_turned_38 : decode cX6_turned 38 = .ok (.bipush 8, 2) := by decide +kernel
theorem dX6_turned_40 : decode cX6_turned 40 = .ok (.if_icmp .gt 12, 3) := by decide +kernel
theorem dX6_turned_43 : decode cX6_turned 43 = .ok (.aload_n 0, 1) := by decide +kernel
theorem dX6_turned_44 : decode cX6_turned 44 = .ok (.getfield 222, 3) := by decide +kernel
theorem dX6_turned_47 : decode cX6_turned 47 = .ok (.bipush 8, 2) := by decide +kernel
theorem dX6_turned_49 : decode cX6_turned 49 = .ok (.if_icmp .le 8, 3) := by decide +kernel
theorem dX6_turned_52 : decode cX6_turned 52 = .ok (.aload_n 0, 1) := by decide +kernel
theorem dX6_turned_53 : decode cX6_turned 53 = .ok (.invokevirtual 178, 3) := by decide +kernel
theorem dX6_turned_56 : decode cX6_turned 56 = .ok (.ireturn, 1) := by decide +kernel
theorem dX6_turned_57 : decode cX6_turned 57 = .ok (.iconst 0, 1) := by decide +kernel
theorem dX6_turned_58 : decode cX6_turned 58 = .ok (.istore_n 3, 1) := by decide +kernel
theorem dX6_turned_59 : decode cX6_turned 59 = .ok (.iload_n 3, 1) := by decide +kernel
theorem dX6_turned_60 : decode cX6_turned 60 = .ok (.aload_n 0, 1) := by decide +kernel
theorem dX6_turned_61 : decode cX6_turned 61 = .ok (.getfield 219, 3) := by decide +kernel
theorem dX6_turned_64 : decode cX6_turned 64 = .ok (.ifCond .ne 7, 3) := by decide +kernel
theorem dX6_turned_67 : decode cX6_turned 67 = .ok (.iconst 1, 1) := by decide +kernel
theorem dX6_turned_68 : decode cX6_turned 68 = .ok (.goto 7, 3) := by decide +kernel
theorem dX6_turned_71 : decode cX6_turned 71 = .ok (.aload_n 0, 1) := by decide +kernel
theorem dX6_turned_72 : decode cX6_turned 72 = .ok (.getfield 219, 3) := by decide +kernel
theorem dX6_turned_75 : decode cX6_turned 75 = .ok (.if_icmp .ge 89, 3) := by decide +kernel
theorem dX6_turned_78 : decode cX6_turned 78 = .ok (.aload_n 0, 1) := by decide +kernel
theorem dX6_turned_79 : decode cX6_turned 79 = .ok (.iload_n 3, 1) := by decide +kernel
theorem dX6_turned_80 : decode cX6_turned 80 = .ok (.iconst 0, 1) := by decide +kernel
theorem dX6_turned_81 : decode cX6_turned 81 = .ok (.iconst 0, 1) := by decide +kernel
theorem dX6_turned_82 : decode cX6_turned 82 = .ok (.invokevirtual 228, 3) := by decide +kernel
theorem dX6_turned_85 : decode cX6_turned 85 = .ok (.ifCond .eq 8, 3) := by decide +kernel
theorem dX6_turned_88 : decode cX6_turned 88 = .ok (.bipush 100, 2) := by decide +kernel
theorem dX6_turned_90 : decode cX6_turned 90 = .ok (.iload_n 3, 1) := by decide +kernel
theorem dX6_turned_91 : decode cX6_turned 91 = .ok (.imul, 1) := by decide +kernel
theorem dX6_turned_92 : decode cX6_turned 92 = .ok (.ireturn, 1) := by decide +kernel
theorem dX6_turned_93 : decode cX6_turned 93 = .ok (.iconst 1, 1) := by decide +kernel
theorem dX6_turned_94 : decode cX6_turned 94 = .ok (.istore 4, 2) := by decide +kernel
theorem dX6_turned_96 : decode cX6_turned 96 = .ok (.iload 4, 2) := by decide +kernel
theorem dX6_turned_98 : decode cX6_turned 98 = .ok (.iconst 3, 1) := by decide +kernel
theorem dX6_turned_99 : decode cX6_turned 99 = .ok (.if_icmp .ge 59, 3) := by decide +kernel
theorem dX6_turned_102 : decode cX6_turned 102 = .ok (.iconst 0, 1) := by decide +kernel
theorem dX6_turned_103 : decode cX6_turned 103 = .ok (.istore 5, 2) := by decide +kernel
theorem dX6_turned_105 : decode cX6_turned 105 = .ok (.iload 5, 2) := by decide +kernel
theorem dX6_turned_107 : decode cX6_turned 107 = .ok (.aload_n 0, 1) := by decide +kernel
theorem dX6_turned_108 : decode cX6_turned 108 = .ok (.getfield 98, 3) := by decide +kernel
theorem dX6_turned_111 : decode cX6_turned 111 = .ok (.if_icmp .ge 41, 3) := by decide +kernel
theorem dX6_turned_114 : decode cX6_turned 114 = .ok (.aload_n 0, 1) := by decide +kernel
theorem dX6_turned_115 : decode cX6_turned 115 = .ok (.getfield 19, 3) := by decide +kernel
theorem dX6_turned_118 : decode cX6_turned 118 = .ok (.iload 5, 2) := by decide +kernel
theorem dX6_turned_120 : decode cX6_turned 120 = .ok (.iaload, 1) := by decide +kernel
theorem dX6_turned_121 : decode cX6_turned 121 = .ok (.iload 4, 2) := by decide +kernel
theorem dX6_turned_123 : decode cX6_turned 123 = .ok (.if_icmp .lt 23, 3) := by decide +kernel
theorem dX6_turned_126 : decode cX6_turned 126 = .ok (.aload_n 0, 1) := by decide +kernel
theorem dX6_turned_127 : decode cX6_turned 127 = .ok (.iload_n 3, 1) := by decide +kernel
theorem dX6_turned_128 : decode cX6_turned 128 = .ok (.iload 5, 2) := by decide +kernel
theorem dX6_turned_130 : decode cX6_turned 130 = .ok (.iload 4, 2) := by decide +kernel
theorem dX6_turned_132 : decode cX6_turned 132 = .ok (.invokevirtual 228, 3) := by decide +kernel
theorem dX6_turned_135 : decode cX6_turned 135 = .ok (.ifCond .eq 11, 3) := by decide +kernel
theorem dX6_turned_138 : decode cX6_turned 138 = .ok (.bipush 100, 2) := by decide +kernel
theorem dX6_turned_140 : decode cX6_turned 140 = .ok (.iload_n 3, 1) := by decide +kernel
theorem dX6_turned_141 : decode cX6_turned 141 = .ok (.imul, 1) := by decide +kernel
theorem dX6_turned_142 : decode cX6_turned 142 = .ok (.iload 4, 2) := by decide +kernel
theorem dX6_turned_144 : decode cX6_turned 144 = .ok (.iadd, 1) := by decide +kernel
theorem dX6_turned_145 : decode cX6_turned 145 = .ok (.ireturn, 1) := by decide +kernel
theorem dX6_turned_146 : decode cX6_turned 146 = .ok (.iinc 5 1, 3) := by decide +kernel
theorem dX6_turned_149 : decode cX6_turned 149 = .ok (.goto (-44), 3) := by decide +kernel
theorem dX6_turned_152 : decode cX6_turned 152 = .ok (.iinc 4 1, 3) := by decide +kernel
theorem dX6_turned_155 : decode cX6_turned 155 = .ok (.goto (-59), 3) := by decide +kernel
theorem dX6_turned_158 : decode cX6_turned 158 = .ok (.iinc 3 1, 3) := by decide +kernel
theorem dX6_turned_161 : decode cX6_turned 161 = .ok (.goto (-102), 3) := by decide +kernel
theorem dX6_turned_164 : decode cX6_turned 164 = .ok (.iconst (-1), 1) := by decide +kernel
theorem dX6_turned_165 : decode cX6_turned 165 = .ok (.ireturn, 1) := by decide +kernel
theorem dX6_nothings_0 : decode cX6_nothings 0 = .ok (.iload_n 1, 1) := by decide +kernel
theorem dX6_nothings_1 : decode cX6_nothings 1 = .ok (.i2l, 1) := by decide +kernel
theorem dX6_nothings_2 : decode cX6_nothings 2 = .ok (.lconst 1, 1) := by decide +kernel
theorem dX6_nothings_3 : decode cX6_nothings 3 = .ok (.ldc2_w 151, 3) := by decide +kernel
theorem dX6_nothings_6 : decode cX6_nothings 6 = .ok (.invokestatic 66, 3) := by decide +kernel
theorem dX6_nothings_9 : decode cX6_nothings 9 = .ok (.ifCond .ne 8, 3) := by decide +kernel
theorem dX6_nothings_12 : decode cX6_nothings 12 = .ok (.aload_n 0, 1) := by decide +kernel
theorem dX6_nothings_13 : decode cX6_nothings 13 = .ok (.invokevirtual 133, 3) := by decide +kernel
theorem dX6_nothings_16 : decode cX6_nothings 16 = .ok (.ireturn, 1) := by decide +kernel
theorem dX6_nothings_17 : decode cX6_nothings 17 = .ok (.aload_n 0, 1) := by decide +kernel
theorem dX6_nothings_18 : decode cX6_nothings 18 = .ok (.bipush 6, 2) := by decide +kernel
theorem dX6_nothings_20 : decode cX6_nothings 20 = .ok (.invokevirtual 141, 3) := by decide +kernel
theorem dX6_nothings_23 : decode cX6_nothings 23 = .ok (.ifCond .ne 8, 3) := by decide +kernel
theorem dX6_nothings_26 : decode cX6_nothings 26 = .ok (.aload_n 0, 1) := by decide +kernel
theorem dX6_nothings_27 : decode cX6_nothings 27 = .ok (.invokevirtual 178, 3) := by decide +kernel
theorem dX6_nothings_30 : decode cX6_nothings 30 = .ok (.ireturn, 1) := by decide +kernel
theorem dX6_nothings_31 : decode cX6_nothings 31 = .ok (.iconst 0, 1) := by decide +kernel
theorem dX6_nothings_32 : decode cX6_nothings 32 = .ok (.istore_n 2, 1) := by decide +kernel
theorem dX6_nothings_33 : decode cX6_nothings 33 = .ok (.iconst 0, 1) := by decide +kernel
theorem dX6_nothings_34 : decode cX6_nothings 34 = .ok (.istore_n 3, 1) := by decide +kernel
theorem dX6_nothings_35 : decode cX6_nothings 35 = .ok (.iload_n 3, 1) := by decide +kernel
theorem dX6_nothings_36 : decode cX6_nothings 36 = .ok (.iconst 1, 1) := by decide +kernel
theorem dX6_nothings_37 : decode cX6_nothings 37 = .ok (.iconst 3, 1) := by decide +kernel
theorem dX6_nothings_38 : decode cX6_nothings 38 = .ok (.iload_n 1, 1) := by decide +kernel
theorem dX6_nothings_39 : decode cX6_nothings 39 = .ok (.imul, 1) := by decide +kernel
theorem dX6_nothings_40 : decode cX6_nothings 40 = .ok (.ishl, 1) := by decide +kernel
theorem dX6_nothings_41 : decode cX6_nothings 41 = .ok (.if_icmp .ge 65, 3) := by decide +kernel
theorem dX6_nothings_44 : decode cX6_nothings 44 = .ok (.aload_n 0, 1) := by decide +kernel
theorem dX6_nothings_45 : decode cX6_nothings 45 = .ok (.iconst 0, 1) := by decide +kernel
theorem dX6_nothings_46 : decode cX6_nothings 46 = .ok (.putfield 72, 3) := by decide +kernel
theorem dX6_nothings_49 : decode cX6_nothings 49 = .ok (.iconst 0, 1) := by decide +kernel
theorem dX6_nothings_50 : decode cX6_nothings 50 = .ok (.istore 4, 2) := by decide +kernel
theorem dX6_nothings_52 : decode cX6_nothings 52 = .ok (.iload 4, 2) := by decide +kernel
theorem dX6_nothings_54 : decode cX6_nothings 54 = .ok (.iload_n 1, 1) := by decide +kernel
theorem dX6_nothings_55 : decode cX6_nothings 55 = .ok (.if_icmp .ge 22, 3) := by decide +kernel
theorem dX6_nothings_58 : decode cX6_nothings 58 = .ok (.aload_n 0, 1) := by decide +kernel
theorem dX6_nothings_59 : decode cX6_nothings 59 = .ok (.iload_n 3, 1) := by decide +kernel
theorem dX6_nothings_60 : decode cX6_nothings 60 = .ok (.iconst 3, 1) := by decide +kernel
theorem dX6_nothings_61 : decode cX6_nothings 61 = .ok (.iload 4, 2) := by decide +kernel
theorem dX6_nothings_63 : decode cX6_nothings 63 = .ok (.imul, 1) := by decide +kernel
theorem dX6_nothings_64 : decode cX6_nothings 64 = .ok (.ishr, 1) := by decide +kernel
theorem dX6_nothings_65 : decode cX6_nothings 65 = .ok (.bipush 7, 2) := by decide +kernel
theorem dX6_nothings_67 : decode cX6_nothings 67 = .ok (.iand, 1) := by decide +kernel
theorem dX6_nothings_68 : decode cX6_nothings 68 = .ok (.invokevirtual 80, 3) := by decide +kernel
theorem dX6_nothings_71 : decode cX6_nothings 71 = .ok (.iinc 4 1, 3) := by decide +kernel
theorem dX6_nothings_74 : decode cX6_nothings 74 = .ok (.goto (-22), 3) := by decide +kernel
theorem dX6_nothings_77 : decode cX6_nothings 77 = .ok (.iload_n 2, 1) := by decide +kernel
theorem dX6_nothings_78 : decode cX6_nothings 78 = .ok (.aload_n 0, 1) := by decide +kernel
theorem dX6_nothings_79 : decode cX6_nothings 79 = .ok (.getfield 72, 3) := by decide +kernel
theorem dX6_nothings_82 : decode cX6_nothings 82 = .ok (.iload_n 1, 1) := by decide +kernel
theorem dX6_nothings_83 : decode cX6_nothings 83 = .ok (.if_icmp .ne 14, 3) := by decide +kernel
theorem dX6_nothings_86 : decode cX6_nothings 86 = .ok (.aload_n 0, 1) := by decide +kernel
theorem dX6_nothings_87 : decode cX6_nothings 87 = .ok (.invokevirtual 215, 3) := by decide +kernel
theorem dX6_nothings_90 : decode cX6_nothings 90 = .ok (.ifCond .eq 7, 3) := by decide +kernel
theorem dX6_nothings_93 : decode cX6_nothings 93 = .ok (.iconst 1, 1) := by decide +kernel
theorem dX6_nothings_94 : decode cX6_nothings 94 = .ok (.goto 4, 3) := by decide +kernel
theorem dX6_nothings_97 : decode cX6_nothings 97 = .ok (.iconst 0, 1) := by decide +kernel
theorem dX6_nothings_98 : decode cX6_nothings 98 = .ok (.iadd, 1) := by decide +kernel
theorem dX6_nothings_99 : decode cX6_nothings 99 = .ok (.istore_n 2, 1) := by decide +kernel
theorem dX6_nothings_100 : decode cX6_nothings 100 = .ok (.iinc 3 1, 3) := by decide +kernel
theorem dX6_nothings_103 : decode cX6_nothings 103 = .ok (.goto (-68), 3) := by decide +kernel
theorem dX6_nothings_106 : decode cX6_nothings 106 = .ok (.iload_n 2, 1) := by decide +kernel
theorem dX6_nothings_107 : decode cX6_nothings 107 = .ok (.ireturn, 1) := by decide +kernel
theorem dX6_drawn_0 : decode cX6_drawn 0 = .ok (.lload_n 0, 1) := by decide +kernel
theorem dX6_drawn_1 : decode cX6_drawn 1 = .ok (.ldc2_w 231, 3) := by decide +kernel
theorem dX6_drawn_4 : decode cX6_drawn 4 = .ok (.lmul, 1) := by decide +kernel
theorem dX6_drawn_5 : decode cX6_drawn 5 = .ok (.ldc2_w 233, 3) := by decide +kernel
theorem dX6_drawn_8 : decode cX6_drawn 8 = .ok (.ladd, 1) := by decide +kernel
theorem dX6_drawn_9 : decode cX6_drawn 9 = .ok (.ldc2_w 235, 3) := by decide +kernel
theorem dX6_drawn_12 : decode cX6_drawn 12 = .ok (.lrem, 1) := by decide +kernel
theorem dX6_drawn_13 : decode cX6_drawn 13 = .ok (.lreturn, 1) := by decide +kernel
theorem dX6_draw_0 : decode cX6_draw 0 = .ok (.iload_n 1, 1) := by decide +kernel
theorem dX6_draw_1 : decode cX6_draw 1 = .ok (.i2l, 1) := by decide +kernel
theorem dX6_draw_2 : decode cX6_draw 2 = .ok (.lconst 0, 1) := by decide +kernel
theorem dX6_draw_3 : decode cX6_draw 3 = .ok (.ldc2_w 237, 3) := by decide +kernel
theorem dX6_draw_6 : decode cX6_draw 6 = .ok (.invokestatic 66, 3) := by decide +kernel
theorem dX6_draw_9 : decode cX6_draw 9 = .ok (.ifCond .eq 22, 3) := by decide +kernel
theorem dX6_draw_12 : decode cX6_draw 12 = .ok (.iload_n 2, 1) := by decide +kernel
theorem dX6_draw_13 : decode cX6_draw 13 = .ok (.i2l, 1) := by decide +kernel
theorem dX6_draw_14 : decode cX6_draw 14 = .ok (.lconst 0, 1) := by decide +kernel
theorem dX6_draw_15 : decode cX6_draw 15 = .ok (.ldc2_w 239, 3) := by decide +kernel
theorem dX6_draw_18 : decode cX6_draw 18 = .ok (.invokestatic 66, 3) := by decide +kernel
theorem dX6_draw_21 : decode cX6_draw 21 = .ok (.ifCond .eq 10, 3) := by decide +kernel
theorem dX6_draw_24 : decode cX6_draw 24 = .ok (.iload_n 3, 1) := by decide +kernel
theorem dX6_draw_25 : decode cX6_draw 25 = .ok (.invokestatic 156, 3) := by decide +kernel
theorem dX6_draw_28 : decode cX6_draw 28 = .ok (.ifCond .ne 8, 3) := by decide +kernel
theorem dX6_draw_31 : decode cX6_draw 31 = .ok (.aload_n 0, 1) := by decide +kernel
theorem dX6_draw_32 : decode cX6_draw 32 = .ok (.invokevirtual 133, 3) := by decide +kernel
theorem dX6_draw_35 : decode cX6_draw 35 = .ok (.ireturn, 1) := by decide +kernel
theorem dX6_draw_36 : decode cX6_draw 36 = .ok (.iload_n 1, 1) := by decide +kernel
theorem dX6_draw_37 : decode cX6_draw 37 = .ok (.i2l, 1) := by decide +kernel
theorem dX6_draw_38 : decode cX6_draw 38 = .ok (.lstore 4, 2) := by decide +kernel
theorem dX6_draw_40 : decode cX6_draw 40 = .ok (.aload_n 0, 1) := by decide +kernel
theorem dX6_draw_41 : decode cX6_draw 41 = .ok (.iconst 0, 1) := by decide +kernel
theorem dX6_draw_42 : decode cX6_draw 42 = .ok (.putfield 72, 3) := by decide +kernel
theorem dX6_draw_45 : decode cX6_draw 45 = .ok (.iconst 0, 1) := by decide +kernel
theorem dX6_draw_46 : decode cX6_draw 46 = .ok (.istore 6, 2) := by decide +kernel
theorem dX6_draw_48 : decode cX6_draw 48 = .ok (.iload 6, 2) := by decide +kernel
theorem dX6_draw_50 : decode cX6_draw 50 = .ok (.iload_n 2, 1) := by decide +kernel
theorem dX6_draw_51 : decode cX6_draw 51 = .ok (.if_icmp .ge 31, 3) := by decide +kernel
theorem dX6_draw_54 : decode cX6_draw 54 = .ok (.lload 4, 2) := by decide +kernel
theorem dX6_draw_56 : decode cX6_draw 56 = .ok (.invokestatic 241, 3) := by decide +kernel
theorem dX6_draw_59 : decode cX6_draw 59 = .ok (.lstore 4, 2) := by decide +kernel
theorem dX6_draw_61 : decode cX6_draw 61 = .ok (.aload_n 0, 1) := by decide +kernel
theorem dX6_draw_62 : decode cX6_draw 62 = .ok (.lload 4, 2) := by decide +kernel
theorem dX6_draw_64 : decode cX6_draw 64 = .ok (.ldc2_w 245, 3) := by decide +kernel
theorem dX6_draw_67 : decode cX6_draw 67 = .ok (.ldiv, 1) := by decide +kernel
theorem dX6_draw_68 : decode cX6_draw 68 = .ok (.ldc2_w 247, 3) := by decide +kernel
theorem dX6_draw_71 : decode cX6_draw 71 = .ok (.lrem, 1) := by decide +kernel
theorem dX6_draw_72 : decode cX6_draw 72 = .ok (.l2i, 1) := by decide +kernel
theorem dX6_draw_73 : decode cX6_draw 73 = .ok (.invokevirtual 80, 3) := by decide +kernel
theorem dX6_draw_76 : decode cX6_draw 76 = .ok (.iinc 6 1, 3) := by decide +kernel
theorem dX6_draw_79 : decode cX6_draw 79 = .ok (.goto (-31), 3) := by decide +kernel
theorem dX6_draw_82 : decode cX6_draw 82 = .ok (.aload_n 0, 1) := by decide +kernel
theorem dX6_draw_83 : decode cX6_draw 83 = .ok (.iload_n 3, 1) := by decide +kernel
theorem dX6_draw_84 : decode cX6_draw 84 = .ok (.invokevirtual 91, 3) := by decide +kernel
theorem dX6_draw_87 : decode cX6_draw 87 = .ok (.ireturn, 1) := by decide +kernel
theorem dX6_loops_0 : decode cX6_loops 0 = .ok (.iload_n 1, 1) := by decide +kernel
theorem dX6_loops_1 : decode cX6_loops 1 = .ok (.i2l, 1) := by decide +kernel
theorem dX6_loops_2 : decode cX6_loops 2 = .ok (.lconst 0, 1) := by decide +kernel
theorem dX6_loops_3 : decode cX6_loops 3 = .ok (.ldc2_w 237, 3) := by decide +kernel
theorem dX6_loops_6 : decode cX6_loops 6 = .ok (.invokestatic 66, 3) := by decide +kernel
theorem dX6_loops_9 : decode cX6_loops 9 = .ok (.ifCond .eq 22, 3) := by decide +kernel
theorem dX6_loops_12 : decode cX6_loops 12 = .ok (.iload_n 2, 1) := by decide +kernel
theorem dX6_loops_13 : decode cX6_loops 13 = .ok (.i2l, 1) := by decide +kernel
theorem dX6_loops_14 : decode cX6_loops 14 = .ok (.lconst 0, 1) := by decide +kernel
theorem dX6_loops_15 : decode cX6_loops 15 = .ok (.ldc2_w 249, 3) := by decide +kernel
theorem dX6_loops_18 : decode cX6_loops 18 = .ok (.invokestatic 66, 3) := by decide +kernel
theorem dX6_loops_21 : decode cX6_loops 21 = .ok (.ifCond .eq 10, 3) := by decide +kernel
theorem dX6_loops_24 : decode cX6_loops 24 = .ok (.iload_n 3, 1) := by decide +kernel
theorem dX6_loops_25 : decode cX6_loops 25 = .ok (.invokestatic 156, 3) := by decide +kernel
theorem dX6_loops_28 : decode cX6_loops 28 = .ok (.ifCond .ne 8, 3) := by decide +kernel
theorem dX6_loops_31 : decode cX6_loops 31 = .ok (.aload_n 0, 1) := by decide +kernel
theorem dX6_loops_32 : decode cX6_loops 32 = .ok (.invokevirtual 133, 3) := by decide +kernel
theorem dX6_loops_35 : decode cX6_loops 35 = .ok (.ireturn, 1) := by decide +kernel
theorem dX6_loops_36 : decode cX6_loops 36 = .ok (.aload_n 0, 1) := by decide +kernel
theorem dX6_loops_37 : decode cX6_loops 37 = .ok (.getfield 109, 3) := by decide +kernel
theorem dX6_loops_40 : decode cX6_loops 40 = .ok (.ifCond .ne 8, 3) := by decide +kernel
theorem dX6_loops_43 : decode cX6_loops 43 = .ok (.aload_n 0, 1) := by decide +kernel
theorem dX6_loops_44 : decode cX6_loops 44 = .ok (.invokevirtual 178, 3) := by decide +kernel
theorem dX6_loops_47 : decode cX6_loops 47 = .ok (.ireturn, 1) := by decide +kernel
theorem dX6_loops_48 : decode cX6_loops 48 = .ok (.iload_n 1, 1) := by decide +kernel
theorem dX6_loops_49 : decode cX6_loops 49 = .ok (.i2l, 1) := by decide +kernel
theorem dX6_loops_50 : decode cX6_loops 50 = .ok (.lstore 4, 2) := by decide +kernel
theorem dX6_loops_52 : decode cX6_loops 52 = .ok (.aload_n 0, 1) := by decide +kernel
theorem dX6_loops_53 : decode cX6_loops 53 = .ok (.iconst 0, 1) := by decide +kernel
theorem dX6_loops_54 : decode cX6_loops 54 = .ok (.putfield 72, 3) := by decide +kernel
theorem dX6_loops_57 : decode cX6_loops 57 = .ok (.iconst 0, 1) := by decide +kernel
theorem dX6_loops_58 : decode cX6_loops 58 = .ok (.istore 6, 2) := by decide +kernel
theorem dX6_loops_60 : decode cX6_loops 60 = .ok (.iload 6, 2) := by decide +kernel
theorem dX6_loops_62 : decode cX6_loops 62 = .ok (.iload_n 2, 1) := by decide +kernel
theorem dX6_loops_63 : decode cX6_loops 63 = .ok (.if_icmp .ge 106, 3) := by decide +kernel
theorem dX6_loops_66 : decode cX6_loops 66 = .ok (.aload_n 0, 1) := by decide +kernel
theorem dX6_loops_67 : decode cX6_loops 67 = .ok (.getfield 72, 3) := by decide +kernel
theorem dX6_loops_70 : decode cX6_loops 70 = .ok (.bipush 60, 2) := by decide +kernel
theorem dX6_loops_72 : decode cX6_loops 72 = .ok (.if_icmp .gt 97, 3) := by decide +kernel
theorem dX6_loops_75 : decode cX6_loops 75 = .ok (.lload 4, 2) := by decide +kernel
theorem dX6_loops_77 : decode cX6_loops 77 = .ok (.invokestatic 241, 3) := by decide +kernel
theorem dX6_loops_80 : decode cX6_loops 80 = .ok (.lstore 4, 2) := by decide +kernel
theorem dX6_loops_82 : decode cX6_loops 82 = .ok (.lload 4, 2) := by decide +kernel
theorem dX6_loops_84 : decode cX6_loops 84 = .ok (.ldc2_w 245, 3) := by decide +kernel
theorem dX6_loops_87 : decode cX6_loops 87 = .ok (.ldiv, 1) := by decide +kernel
theorem dX6_loops_88 : decode cX6_loops 88 = .ok (.aload_n 0, 1) := by decide +kernel
theorem dX6_loops_89 : decode cX6_loops 89 = .ok (.getfield 98, 3) := by decide +kernel
theorem dX6_loops_92 : decode cX6_loops 92 = .ok (.i2l, 1) := by decide +kernel
theorem dX6_loops_93 : decode cX6_loops 93 = .ok (.lrem, 1) := by decide +kernel
theorem dX6_loops_94 : decode cX6_loops 94 = .ok (.l2i, 1) := by decide +kernel
theorem dX6_loops_95 : decode cX6_loops 95 = .ok (.istore 7, 2) := by decide +kernel
theorem dX6_loops_97 : decode cX6_loops 97 = .ok (.lload 4, 2) := by decide +kernel
theorem dX6_loops_99 : decode cX6_loops 99 = .ok (.ldc2_w 251, 3) := by decide +kernel
theorem dX6_loops_102 : decode cX6_loops 102 = .ok (.ldiv, 1) := by decide +kernel
theorem dX6_loops_103 : decode cX6_loops 103 = .ok (.ldc2_w 247, 3) := by decide +kernel
theorem dX6_loops_106 : decode cX6_loops 106 = .ok (.lrem, 1) := by decide +kernel
theorem dX6_loops_107 : decode cX6_loops 107 = .ok (.l2i, 1) := by decide +kernel
theorem dX6_loops_108 : decode cX6_loops 108 = .ok (.istore 8, 2) := by decide +kernel
theorem dX6_loops_110 : decode cX6_loops 110 = .ok (.aload_n 0, 1) := by decide +kernel
theorem dX6_loops_111 : decode cX6_loops 111 = .ok (.iload 8, 2) := by decide +kernel
theorem dX6_loops_113 : decode cX6_loops 113 = .ok (.invokevirtual 80, 3) := by decide +kernel
theorem dX6_loops_116 : decode cX6_loops 116 = .ok (.iconst 0, 1) := by decide +kernel
theorem dX6_loops_117 : decode cX6_loops 117 = .ok (.istore 9, 2) := by decide +kernel
theorem dX6_loops_119 : decode cX6_loops 119 = .ok (.iload 9, 2) := by decide +kernel
theorem dX6_loops_121 : decode cX6_loops 121 = .ok (.aload_n 0, 1) := by decide +kernel
theorem dX6_loops_122 : decode cX6_loops 122 = .ok (.getfield 19, 3) := by decide +kernel
theorem dX6_loops_125 : decode cX6_loops 125 = .ok (.iload 7, 2) := by decide +kernel
theorem dX6_loops_127 : decode cX6_loops 127 = .ok (.iaload, 1) := by decide +kernel
theorem dX6_loops_128 : decode cX6_loops 128 = .ok (.if_icmp .ge 26, 3) := by decide +kernel
theorem dX6_loops_131 : decode cX6_loops 131 = .ok (.aload_n 0, 1) := by decide +kernel
theorem dX6_loops_132 : decode cX6_loops 132 = .ok (.aload_n 0, 1) := by decide +kernel
theorem dX6_loops_133 : decode cX6_loops 133 = .ok (.getfield 16, 3) := by decide +kernel
theorem dX6_loops_136 : decode cX6_loops 136 = .ok (.bipush 14, 2) := by decide +kernel
theorem dX6_loops_138 : decode cX6_loops 138 = .ok (.iload 7, 2) := by decide +kernel
theorem dX6_loops_140 : decode cX6_loops 140 = .ok (.imul, 1) := by decide +kernel
theorem dX6_loops_141 : decode cX6_loops 141 = .ok (.iload 9, 2) := by decide +kernel
theorem dX6_loops_143 : decode cX6_loops 143 = .ok (.iadd, 1) := by decide +kernel
theorem dX6_loops_144 : decode cX6_loops 144 = .ok (.iaload, 1) := by decide +kernel
theorem dX6_loops_145 : decode cX6_loops 145 = .ok (.invokevirtual 80, 3) := by decide +kernel
theorem dX6_loops_148 : decode cX6_loops 148 = .ok (.iinc 9 1, 3) := by decide +kernel
theorem dX6_loops_151 : decode cX6_loops 151 = .ok (.goto (-32), 3) := by decide +kernel
theorem dX6_loops_154 : decode cX6_loops 154 = .ok (.aload_n 0, 1) := by decide +kernel
theorem dX6_loops_155 : decode cX6_loops 155 = .ok (.iload 8, 2) := by decide +kernel
theorem dX6_loops_157 : decode cX6_loops 157 = .ok (.invokestatic 76, 3) := by decide +kernel
theorem dX6_loops_160 : decode cX6_loops 160 = .ok (.invokevirtual 80, 3) := by decide +kernel
theorem dX6_loops_163 : decode cX6_loops 163 = .ok (.iinc 6 1, 3) := by decide +kernel
theorem dX6_loops_166 : decode cX6_loops 166 = .ok (.goto (-106), 3) := by decide +kernel
theorem dX6_loops_169 : decode cX6_loops 169 = .ok (.aload_n 0, 1) := by decide +kernel
theorem dX6_loops_170 : decode cX6_loops 170 = .ok (.iload_n 3, 1) := by decide +kernel
theorem dX6_loops_171 : decode cX6_loops 171 = .ok (.invokevirtual 165, 3) := by decide +kernel
theorem dX6_loops_174 : decode cX6_loops 174 = .ok (.ireturn, 1) := by decide +kernel
theorem dX6_type_0 : decode cX6_type 0 = .ok (.iload_n 1, 1) := by decide +kernel
theorem dX6_type_1 : decode cX6_type 1 = .ok (.i2l, 1) := by decide +kernel
theorem dX6_type_2 : decode cX6_type 2 = .ok (.lconst 0, 1) := by decide +kernel
theorem dX6_type_3 : decode cX6_type 3 = .ok (.ldc2_w 253, 3) := by decide +kernel
theorem dX6_type_6 : decode cX6_type 6 = .ok (.invokestatic 66, 3) := by decide +kernel
theorem dX6_type_9 : decode cX6_type 9 = .ok (.ifCond .ne 8, 3) := by decide +kernel
theorem dX6_type_12 : decode cX6_type 12 = .ok (.aload_n 0, 1) := by decide +kernel
theorem dX6_type_13 : decode cX6_type 13 = .ok (.invokevirtual 133, 3) := by decide +kernel
theorem dX6_type_16 : decode cX6_type 16 = .ok (.ireturn, 1) := by decide +kernel
theorem dX6_type_17 : decode cX6_type 17 = .ok (.aload_n 0, 1) := by decide +kernel
theorem dX6_type_18 : decode cX6_type 18 = .ok (.getfield 255, 3) := by decide +kernel
theorem dX6_type_21 : decode cX6_type 21 = .ok (.bipush 100, 2) := by decide +kernel
theorem dX6_type_23 : decode cX6_type 23 = .ok (.if_icmp .ne 8, 3) := by decide +kernel
theorem dX6_type_26 : decode cX6_type 26 = .ok (.aload_n 0, 1) := by decide +kernel
theorem dX6_type_27 : decode cX6_type 27 = .ok (.invokevirtual 87, 3) := by decide +kernel
theorem dX6_type_30 : decode cX6_type 30 = .ok (.ireturn, 1) := by decide +kernel
theorem dX6_type_31 : decode cX6_type 31 = .ok (.aload_n 0, 1) := by decide +kernel
theorem dX6_type_32 : decode cX6_type 32 = .ok (.getfield 49, 3) := by decide +kernel
theorem dX6_type_35 : decode cX6_type 35 = .ok (.aload_n 0, 1) := by decide +kernel
theorem dX6_type_36 : decode cX6_type 36 = .ok (.getfield 255, 3) := by decide +kernel
theorem dX6_type_39 : decode cX6_type 39 = .ok (.iload_n 1, 1) := by decide +kernel
theorem dX6_type_40 : decode cX6_type 40 = .ok (.iastore, 1) := by decide +kernel
theorem dX6_type_41 : decode cX6_type 41 = .ok (.aload_n 0, 1) := by decide +kernel
theorem dX6_type_42 : decode cX6_type 42 = .ok (.dup, 1) := by decide +kernel
theorem dX6_type_43 : decode cX6_type 43 = .ok (.getfield 255, 3) := by decide +kernel
theorem dX6_type_46 : decode cX6_type 46 = .ok (.iconst 1, 1) := by decide +kernel
theorem dX6_type_47 : decode cX6_type 47 = .ok (.iadd, 1) := by decide +kernel
theorem dX6_type_48 : decode cX6_type 48 = .ok (.putfield 255, 3) := by decide +kernel
theorem dX6_type_51 : decode cX6_type 51 = .ok (.aload_n 0, 1) := by decide +kernel
theorem dX6_type_52 : decode cX6_type 52 = .ok (.getfield 255, 3) := by decide +kernel
theorem dX6_type_55 : decode cX6_type 55 = .ok (.ireturn, 1) := by decide +kernel
theorem dX6_clear_0 : decode cX6_clear 0 = .ok (.aload_n 0, 1) := by decide +kernel
theorem dX6_clear_1 : decode cX6_clear 1 = .ok (.getfield 255, 3) := by decide +kernel
theorem dX6_clear_4 : decode cX6_clear 4 = .ok (.istore_n 1, 1) := by decide +kernel
theorem dX6_clear_5 : decode cX6_clear 5 = .ok (.aload_n 0, 1) := by decide +kernel
theorem dX6_clear_6 : decode cX6_clear 6 = .ok (.iconst 0, 1) := by decide +kernel
theorem dX6_clear_7 : decode cX6_clear 7 = .ok (.putfield 255, 3) := by decide +kernel
theorem dX6_clear_10 : decode cX6_clear 10 = .ok (.iload_n 1, 1) := by decide +kernel
theorem dX6_clear_11 : decode cX6_clear 11 = .ok (.ireturn, 1) := by decide +kernel
theorem dX6_isBlank_0 : decode cX6_isBlank 0 = .ok (.iload_n 0, 1) := by decide +kernel
theorem dX6_isBlank_1 : decode cX6_isBlank 1 = .ok (.bipush 32, 2) := by decide +kernel
theorem dX6_isBlank_3 : decode cX6_isBlank 3 = .ok (.if_icmp .ne 7, 3) := by decide +kernel
theorem dX6_isBlank_6 : decode cX6_isBlank 6 = .ok (.iconst 1, 1) := by decide +kernel
theorem dX6_isBlank_7 : decode cX6_isBlank 7 = .ok (.goto 4, 3) := by decide +kernel
theorem dX6_isBlank_10 : decode cX6_isBlank 10 = .ok (.iconst 0, 1) := by decide +kernel
theorem dX6_isBlank_11 : decode cX6_isBlank 11 = .ok (.ireturn, 1) := by decide +kernel
theorem dX6_letterBy_0 : decode cX6_letterBy 0 = .ok (.iload_n 0, 1) := by decide +kernel
theorem dX6_letterBy_1 : decode cX6_letterBy 1 = .ok (.i2l, 1) := by decide +kernel
theorem dX6_letterBy_2 : decode cX6_letterBy 2 = .ok (.ldc2_w 258, 3) := by decide +kernel
theorem dX6_letterBy_5 : decode cX6_letterBy 5 = .ok (.ldc2_w 260, 3) := by decide +kernel
theorem dX6_letterBy_8 : decode cX6_letterBy 8 = .ok (.invokestatic 66, 3) := by decide +kernel
theorem dX6_letterBy_11 : decode cX6_letterBy 11 = .ok (.ifCond .eq 10, 3) := by decide +kernel
theorem dX6_letterBy_14 : decode cX6_letterBy 14 = .ok (.iload_n 0, 1) := by decide +kernel
theorem dX6_letterBy_15 : decode cX6_letterBy 15 = .ok (.bipush 97, 2) := by decide +kernel
theorem dX6_letterBy_17 : decode cX6_letterBy 17 = .ok (.isub, 1) := by decide +kernel
theorem dX6_letterBy_18 : decode cX6_letterBy 18 = .ok (.goto 27, 3) := by decide +kernel
theorem dX6_letterBy_21 : decode cX6_letterBy 21 = .ok (.iload_n 0, 1) := by decide +kernel
theorem dX6_letterBy_22 : decode cX6_letterBy 22 = .ok (.i2l, 1) := by decide +kernel
theorem dX6_letterBy_23 : decode cX6_letterBy 23 = .ok (.ldc2_w 262, 3) := by decide +kernel
theorem dX6_letterBy_26 : decode cX6_letterBy 26 = .ok (.ldc2_w 264, 3) := by decide +kernel
theorem dX6_letterBy_29 : decode cX6_letterBy 29 = .ok (.invokestatic 66, 3) := by decide +kernel
theorem dX6_letterBy_32 : decode cX6_letterBy 32 = .ok (.ifCond .eq 12, 3) := by decide +kernel
theorem dX6_letterBy_35 : decode cX6_letterBy 35 = .ok (.iload_n 0, 1) := by decide +kernel
theorem dX6_letterBy_36 : decode cX6_letterBy 36 = .ok (.bipush 65, 2) := by decide +kernel
theorem dX6_letterBy_38 : decode cX6_letterBy 38 = .ok (.isub, 1) := by decide +kernel
theorem dX6_letterBy_39 : decode cX6_letterBy 39 = .ok (.iconst 4, 1) := by decide +kernel
theorem dX6_letterBy_40 : decode cX6_letterBy 40 = .ok (.iadd, 1) := by decide +kernel
theorem dX6_letterBy_41 : decode cX6_letterBy 41 = .ok (.goto 4, 3) := by decide +kernel
theorem dX6_letterBy_44 : decode cX6_letterBy 44 = .ok (.iconst (-1), 1) := by decide +kernel
theorem dX6_letterBy_45 : decode cX6_letterBy 45 = .ok (.ireturn, 1) := by decide +kernel
theorem dX6_isFigure_0 : decode cX6_isFigure 0 = .ok (.iload_n 1, 1) := by decide +kernel
theorem dX6_isFigure_1 : decode cX6_isFigure 1 = .ok (.aload_n 0, 1) := by decide +kernel
theorem dX6_isFigure_2 : decode cX6_isFigure 2 = .ok (.getfield 255, 3) := by decide +kernel
theorem dX6_isFigure_5 : decode cX6_isFigure 5 = .ok (.if_icmp .ge 26, 3) := by decide +kernel
theorem dX6_isFigure_8 : decode cX6_isFigure 8 = .ok (.aload_n 0, 1) := by decide +kernel
theorem dX6_isFigure_9 : decode cX6_isFigure 9 = .ok (.getfield 49, 3) := by decide +kernel
theorem dX6_isFigure_12 : decode cX6_isFigure 12 = .ok (.iload_n 1, 1) := by decide +kernel
theorem dX6_isFigure_13 : decode cX6_isFigure 13 = .ok (.iaload, 1) := by decide +kernel
theorem dX6_isFigure_14 : decode cX6_isFigure 14 = .ok (.i2l, 1) := by decide +kernel
theorem dX6_isFigure_15 : decode cX6_isFigure 15 = .ok (.ldc2_w 266, 3) := by decide +kernel
theorem dX6_isFigure_18 : decode cX6_isFigure 18 = .ok (.ldc2_w 268, 3) := by decide +kernel
theorem dX6_isFigure_21 : decode cX6_isFigure 21 = .ok (.invokestatic 66, 3) := by decide +kernel
theorem dX6_isFigure_24 : decode cX6_isFigure 24 = .ok (.ifCond .eq 7, 3) := by decide +kernel
theorem dX6_isFigure_27 : decode cX6_isFigure 27 = .ok (.iconst 1, 1) := by decide +kernel
theorem dX6_isFigure_28 : decode cX6_isFigure 28 = .ok (.goto 4, 3) := by decide +kernel
theorem dX6_isFigure_31 : decode cX6_isFigure 31 = .ok (.iconst 0, 1) := by decide +kernel
theorem dX6_isFigure_32 : decode cX6_isFigure 32 = .ok (.ireturn, 1) := by decide +kernel
theorem dX6_syntax_0 : decode cX6_syntax 0 = .ok (.iconst 0, 1) := by decide +kernel
theorem dX6_syntax_1 : decode cX6_syntax 1 = .ok (.istore_n 1, 1) := by decide +kernel
theorem dX6_syntax_2 : decode cX6_syntax 2 = .ok (.iconst 0, 1) := by decide +kernel
theorem dX6_syntax_3 : decode cX6_syntax 3 = .ok (.istore_n 2, 1) := by decide +kernel
theorem dX6_syntax_4 : decode cX6_syntax 4 = .ok (.iconst 0, 1) := by decide +kernel
theorem dX6_syntax_5 : decode cX6_syntax 5 = .ok (.istore_n 3, 1) := by decide +kernel
theorem dX6_syntax_6 : decode cX6_syntax 6 = .ok (.aload_n 0, 1) := by decide +kernel
theorem dX6_syntax_7 : decode cX6_syntax 7 = .ok (.iconst 0, 1) := by decide +kernel
theorem dX6_syntax_8 : decode cX6_syntax 8 = .ok (.putfield 270, 3) := by decide +kernel
theorem dX6_syntax_11 : decode cX6_syntax 11 = .ok (.iconst 0, 1) := by decide +kernel
theorem dX6_syntax_12 : decode cX6_syntax 12 = .ok (.istore 4, 2) := by decide +kernel
theorem dX6_syntax_14 : decode cX6_syntax 14 = .ok (.iload 4, 2) := by decide +kernel
theorem dX6_syntax_16 : decode cX6_syntax 16 = .ok (.aload_n 0, 1) := by decide +kernel
theorem dX6_syntax_17 : decode cX6_syntax 17 = .ok (.getfield 255, 3) := by decide +kernel
theorem dX6_syntax_20 : decode cX6_syntax 20 = .ok (.if_icmp .ge 218, 3) := by decide +kernel
theorem dX6_syntax_23 : decode cX6_syntax 23 = .ok (.aload_n 0, 1) := by decide +kernel
theorem dX6_syntax_24 : decode cX6_syntax 24 = .ok (.getfield 49, 3) := by decide +kernel
theorem dX6_syntax_27 : decode cX6_syntax 27 = .ok (.iload 4, 2) := by decide +kernel
theorem dX6_syntax_29 : decode cX6_syntax 29 = .ok (.iaload, 1) := by decide +kernel
theorem dX6_syntax_30 : decode cX6_syntax 30 = .ok (.istore 5, 2) := by decide +kernel
theorem dX6_syntax_32 : decode cX6_syntax 32 = .ok (.iload 5, 2) := by decide +kernel
theorem dX6_syntax_34 : decode cX6_syntax 34 = .ok (.invokestatic 273, 3) := by decide +kernel
theorem dX6_syntax_37 : decode cX6_syntax 37 = .ok (.iconst (-1), 1) := by decide +kernel
theorem dX6_syntax_38 : decode cX6_syntax 38 = .ok (.if_icmp .eq 7, 3) := by decide +kernel
theorem dX6_syntax_41 : decode cX6_syntax 41 = .ok (.iconst 1, 1) := by decide +kernel
theorem dX6_syntax_42 : decode cX6_syntax 42 = .ok (.goto 4, 3) := by decide +kernel
theorem dX6_syntax_45 : decode cX6_syntax 45 = .ok (.iconst 0, 1) := by decide +kernel
theorem dX6_syntax_46 : decode cX6_syntax 46 = .ok (.istore 6, 2) := by decide +kernel
theorem dX6_syntax_48 : decode cX6_syntax 48 = .ok (.iload 5, 2) := by decide +kernel
theorem dX6_syntax_50 : decode cX6_syntax 50 = .ok (.invokestatic 276, 3) := by decide +kernel
theorem dX6_syntax_53 : decode cX6_syntax 53 = .ok (.ifCond .ne 63, 3) := by decide +kernel
theorem dX6_syntax_56 : decode cX6_syntax 56 = .ok (.iload 6, 2) := by decide +kernel
theorem dX6_syntax_58 : decode cX6_syntax 58 = .ok (.ifCond .ne 58, 3) := by decide +kernel
theorem dX6_syntax_61 : decode cX6_syntax 61 = .ok (.iload 5, 2) := by decide +kernel
theorem dX6_syntax_63 : decode cX6_syntax 63 = .ok (.bipush 40, 2) := by decide +kernel
theorem dX6_syntax_65 : decode cX6_syntax 65 = .ok (.if_icmp .ne 8, 3) := by decide +kernel
theorem dX6_syntax_68 : decode cX6_syntax 68 = .ok (.iload_n 1, 1) := by decide +kernel
theorem dX6_syntax_69 : decode cX6_syntax 69 = .ok (.iconst 4, 1) := by decide +kernel
theorem dX6_syntax_70 : decode cX6_syntax 70 = .ok (.if_icmp .lt 46, 3) := by decide +kernel
theorem dX6_syntax_73 : decode cX6_syntax 73 = .ok (.iload 5, 2) := by decide +kernel
theorem dX6_syntax_75 : decode cX6_syntax 75 = .ok (.bipush 41, 2) := by decide +kernel
theorem dX6_syntax_77 : decode cX6_syntax 77 = .ok (.if_icmp .ne 11, 3) := by decide +kernel
theorem dX6_syntax_80 : decode cX6_syntax 80 = .ok (.iload_n 1, 1) := by decide +kernel
theorem dX6_syntax_81 : decode cX6_syntax 81 = .ok (.ifCond .le 7, 3) := by decide +kernel
theorem dX6_syntax_84 : decode cX6_syntax 84 = .ok (.iload_n 2, 1) := by decide +kernel
theorem dX6_syntax_85 : decode cX6_syntax 85 = .ok (.ifCond .ne 31, 3) := by decide +kernel
theorem dX6_syntax_88 : decode cX6_syntax 88 = .ok (.iload 5, 2) := by decide +kernel
theorem dX6_syntax_90 : decode cX6_syntax 90 = .ok (.bipush 59, 2) := by decide +kernel
theorem dX6_syntax_92 : decode cX6_syntax 92 = .ok (.if_icmp .ne 11, 3) := by decide +kernel
theorem dX6_syntax_95 : decode cX6_syntax 95 = .ok (.iload_n 1, 1) := by decide +kernel
theorem dX6_syntax_96 : decode cX6_syntax 96 = .ok (.ifCond .ne 7, 3) := by decide +kernel
theorem dX6_syntax_99 : decode cX6_syntax 99 = .ok (.iload_n 2, 1) := by decide +kernel
theorem dX6_syntax_100 : decode cX6_syntax 100 = .ok (.ifCond .ne 16, 3) := by decide +kernel
theorem dX6_syntax_103 : decode cX6_syntax 103 = .ok (.iload_n 3, 1) := by decide +kernel
theorem dX6_syntax_104 : decode cX6_syntax 104 = .ok (.ifCond .eq 16, 3) := by decide +kernel
theorem dX6_syntax_107 : decode cX6_syntax 107 = .ok (.aload_n 0, 1) := by decide +kernel
theorem dX6_syntax_108 : decode cX6_syntax 108 = .ok (.iload 4, 2) := by decide +kernel
theorem dX6_syntax_110 : decode cX6_syntax 110 = .ok (.invokevirtual 279, 3) := by decide +kernel
theorem dX6_syntax_113 : decode cX6_syntax 113 = .ok (.ifCond .eq 7, 3) := by decide +kernel
theorem dX6_syntax_116 : decode cX6_syntax 116 = .ok (.iconst 1, 1) := by decide +kernel
theorem dX6_syntax_117 : decode cX6_syntax 117 = .ok (.goto 4, 3) := by decide +kernel
theorem dX6_syntax_120 : decode cX6_syntax 120 = .ok (.iconst 0, 1) := by decide +kernel
theorem dX6_syntax_121 : decode cX6_syntax 121 = .ok (.istore 7, 2) := by decide +kernel
theorem dX6_syntax_123 : decode cX6_syntax 123 = .ok (.iload 7, 2) := by decide +kernel
theorem dX6_syntax_125 : decode cX6_syntax 125 = .ok (.ifCond .ne 6, 3) := by decide +kernel
theorem dX6_syntax_128 : decode cX6_syntax 128 = .ok (.iload 4, 2) := by decide +kernel
theorem dX6_syntax_130 : decode cX6_syntax 130 = .ok (.ireturn, 1) := by decide +kernel
theorem dX6_syntax_131 : decode cX6_syntax 131 = .ok (.iload_n 1, 1) := by decide +kernel
theorem dX6_syntax_132 : decode cX6_syntax 132 = .ok (.iload 5, 2) := by decide +kernel
theorem dX6_syntax_134 : decode cX6_syntax 134 = .ok (.bipush 40, 2) := by decide +kernel
theorem dX6_syntax_136 : decode cX6_syntax 136 = .ok (.if_icmp .ne 7, 3) := by decide +kernel
theorem dX6_syntax_139 : decode cX6_syntax 139 = .ok (.iconst 1, 1) := by decide +kernel
theorem dX6_syntax_140 : decode cX6_syntax 140 = .ok (.goto 15, 3) := by decide +kernel
theorem dX6_syntax_143 : decode cX6_syntax 143 = .ok (.iload 5, 2) := by decide +kernel
theorem dX6_syntax_145 : decode cX6_syntax 145 = .ok (.bipush 41, 2) := by decide +kernel
theorem dX6_syntax_147 : decode cX6_syntax 147 = .ok (.if_icmp .ne 7, 3) := by decide +kernel
theorem dX6_syntax_150 : decode cX6_syntax 150 = .ok (.iconst (-1), 1) := by decide +kernel
theorem dX6_syntax_151 : decode cX6_syntax 151 = .ok (.goto 4, 3) := by decide +kernel
theorem dX6_syntax_154 : decode cX6_syntax 154 = .ok (.iconst 0, 1) := by decide +kernel
theorem dX6_syntax_155 : decode cX6_syntax 155 = .ok (.iadd, 1) := by decide +kernel
theorem dX6_syntax_156 : decode cX6_syntax 156 = .ok (.istore_n 1, 1) := by decide +kernel
theorem dX6_syntax_157 : decode cX6_syntax 157 = .ok (.aload_n 0, 1) := by decide +kernel
theorem dX6_syntax_158 : decode cX6_syntax 158 = .ok (.dup, 1) := by decide +kernel
theorem dX6_syntax_159 : decode cX6_syntax 159 = .ok (.getfield 270, 3) := by decide +kernel
theorem dX6_syntax_162 : decode cX6_syntax 162 = .ok (.iload 5, 2) := by decide +kernel
theorem dX6_syntax_164 : decode cX6_syntax 164 = .ok (.bipush 59, 2) := by decide +kernel
theorem dX6_syntax_166 : decode cX6_syntax 166 = .ok (.if_icmp .ne 7, 3) := by decide +kernel
theorem dX6_syntax_169 : decode cX6_syntax 169 = .ok (.iconst 1, 1) := by decide +kernel
theorem dX6_syntax_170 : decode cX6_syntax 170 = .ok (.goto 4, 3) := by decide +kernel
theorem dX6_syntax_173 : decode cX6_syntax 173 = .ok (.iconst 0, 1) := by decide +kernel
theorem dX6_syntax_174 : decode cX6_syntax 174 = .ok (.iadd, 1) := by decide +kernel
theorem dX6_syntax_175 : decode cX6_syntax 175 = .ok (.putfield 270, 3) := by decide +kernel
theorem dX6_syntax_178 : decode cX6_syntax 178 = .ok (.iload 6, 2) := by decide +kernel
theorem dX6_syntax_180 : decode cX6_syntax 180 = .ok (.ifCond .ne 28, 3) := by decide +kernel
theorem dX6_syntax_183 : decode cX6_syntax 183 = .ok (.iload 5, 2) := by decide +kernel
theorem dX6_syntax_185 : decode cX6_syntax 185 = .ok (.bipush 41, 2) := by decide +kernel
theorem dX6_syntax_187 : decode cX6_syntax 187 = .ok (.if_icmp .eq 21, 3) := by decide +kernel
theorem dX6_syntax_190 : decode cX6_syntax 190 = .ok (.iload_n 2, 1) := by decide +kernel
theorem dX6_syntax_191 : decode cX6_syntax 191 = .ok (.ifCond .eq 21, 3) := by decide +kernel
theorem dX6_syntax_194 : decode cX6_syntax 194 = .ok (.iload 5, 2) := by decide +kernel
theorem dX6_syntax_196 : decode cX6_syntax 196 = .ok (.bipush 40, 2) := by decide +kernel
theorem dX6_syntax_198 : decode cX6_syntax 198 = .ok (.if_icmp .eq 14, 3) := by decide +kernel
theorem dX6_syntax_201 : decode cX6_syntax 201 = .ok (.iload 5, 2) := by decide +kernel
theorem dX6_syntax_203 : decode cX6_syntax 203 = .ok (.bipush 59, 2) := by decide +kernel
theorem dX6_syntax_205 : decode cX6_syntax 205 = .ok (.if_icmp .eq 7, 3) := by decide +kernel
theorem dX6_syntax_208 : decode cX6_syntax 208 = .ok (.iconst 1, 1) := by decide +kernel
theorem dX6_syntax_209 : decode cX6_syntax 209 = .ok (.goto 4, 3) := by decide +kernel
theorem dX6_syntax_212 : decode cX6_syntax 212 = .ok (.iconst 0, 1) := by decide +kernel
theorem dX6_syntax_213 : decode cX6_syntax 213 = .ok (.istore_n 2, 1) := by decide +kernel
theorem dX6_syntax_214 : decode cX6_syntax 214 = .ok (.iload 6, 2) := by decide +kernel
theorem dX6_syntax_216 : decode cX6_syntax 216 = .ok (.ifCond .ne 10, 3) := by decide +kernel
theorem dX6_syntax_219 : decode cX6_syntax 219 = .ok (.iload 5, 2) := by decide +kernel
theorem dX6_syntax_221 : decode cX6_syntax 221 = .ok (.bipush 41, 2) := by decide +kernel
theorem dX6_syntax_223 : decode cX6_syntax 223 = .ok (.if_icmp .ne 7, 3) := by decide +kernel
theorem dX6_syntax_226 : decode cX6_syntax 226 = .ok (.iconst 1, 1) := by decide +kernel
theorem dX6_syntax_227 : decode cX6_syntax 227 = .ok (.goto 4, 3) := by decide +kernel
theorem dX6_syntax_230 : decode cX6_syntax 230 = .ok (.iconst 0, 1) := by decide +kernel
theorem dX6_syntax_231 : decode cX6_syntax 231 = .ok (.istore_n 3, 1) := by decide +kernel
theorem dX6_syntax_232 : decode cX6_syntax 232 = .ok (.iinc 4 1, 3) := by decide +kernel
theorem dX6_syntax_235 : decode cX6_syntax 235 = .ok (.goto (-221), 3) := by decide +kernel
theorem dX6_syntax_238 : decode cX6_syntax 238 = .ok (.iload_n 1, 1) := by decide +kernel
theorem dX6_syntax_239 : decode cX6_syntax 239 = .ok (.ifCond .gt 14, 3) := by decide +kernel
theorem dX6_syntax_242 : decode cX6_syntax 242 = .ok (.iload_n 2, 1) := by decide +kernel
theorem dX6_syntax_243 : decode cX6_syntax 243 = .ok (.ifCond .ne 10, 3) := by decide +kernel
theorem dX6_syntax_246 : decode cX6_syntax 246 = .ok (.aload_n 0, 1) := by decide +kernel
theorem dX6_syntax_247 : decode cX6_syntax 247 = .ok (.getfield 270, 3) := by decide +kernel
theorem dX6_syntax_250 : decode cX6_syntax 250 = .ok (.ifCond .ne 10, 3) := by decide +kernel
theorem dX6_syntax_253 : decode cX6_syntax 253 = .ok (.aload_n 0, 1) := by decide +kernel
theorem dX6_syntax_254 : decode cX6_syntax 254 = .ok (.getfield 255, 3) := by decide +kernel
theorem dX6_syntax_257 : decode cX6_syntax 257 = .ok (.goto 4, 3) := by decide +kernel
theorem dX6_syntax_260 : decode cX6_syntax 260 = .ok (.iconst (-1), 1) := by decide +kernel
theorem dX6_syntax_261 : decode cX6_syntax 261 = .ok (.ireturn, 1) := by decide +kernel
theorem dX6_put_0 : decode cX6_put 0 = .ok (.aload_n 0, 1) := by decide +kernel
theorem dX6_put_1 : decode cX6_put 1 = .ok (.getfield 282, 3) := by decide +kernel
theorem dX6_put_4 : decode cX6_put 4 = .ok (.bipush 61, 2) := by decide +kernel
theorem dX6_put_6 : decode cX6_put 6 = .ok (.if_icmp .ge 23, 3) := by decide +kernel
theorem dX6_put_9 : decode cX6_put 9 = .ok (.aload_n 0, 1) := by decide +kernel
theorem dX6_put_10 : decode cX6_put 10 = .ok (.getfield 55, 3) := by decide +kernel
theorem dX6_put_13 : decode cX6_put 13 = .ok (.aload_n 0, 1) := by decide +kernel
theorem dX6_put_14 : decode cX6_put 14 = .ok (.getfield 282, 3) := by decide +kernel
theorem dX6_put_17 : decode cX6_put 17 = .ok (.iload_n 1, 1) := by decide +kernel
theorem dX6_put_18 : decode cX6_put 18 = .ok (.iastore, 1) := by decide +kernel
theorem dX6_put_19 : decode cX6_put 19 = .ok (.aload_n 0, 1) := by decide +kernel
theorem dX6_put_20 : decode cX6_put 20 = .ok (.dup, 1) := by decide +kernel
theorem dX6_put_21 : decode cX6_put 21 = .ok (.getfield 282, 3) := by decide +kernel
theorem dX6_put_24 : decode cX6_put 24 = .ok (.iconst 1, 1) := by decide +kernel
theorem dX6_put_25 : decode cX6_put 25 = .ok (.iadd, 1) := by decide +kernel
theorem dX6_put_26 : decode cX6_put 26 = .ok (.putfield 282, 3) := by decide +kernel
theorem dX6_put_29 : decode cX6_put 29 = .ok (.return_, 1) := by decide +kernel
theorem dX6_repeat_0 : decode cX6_repeat 0 = .ok (.aload_n 0, 1) := by decide +kernel
theorem dX6_repeat_1 : decode cX6_repeat 1 = .ok (.getfield 282, 3) := by decide +kernel
theorem dX6_repeat_4 : decode cX6_repeat 4 = .ok (.iload_n 1, 1) := by decide +kernel
theorem dX6_repeat_5 : decode cX6_repeat 5 = .ok (.isub, 1) := by decide +kernel
theorem dX6_repeat_6 : decode cX6_repeat 6 = .ok (.istore_n 3, 1) := by decide +kernel
theorem dX6_repeat_7 : decode cX6_repeat 7 = .ok (.iconst 0, 1) := by decide +kernel
theorem dX6_repeat_8 : decode cX6_repeat 8 = .ok (.istore 4, 2) := by decide +kernel
theorem dX6_repeat_10 : decode cX6_repeat 10 = .ok (.iload 4, 2) := by decide +kernel
theorem dX6_repeat_12 : decode cX6_repeat 12 = .ok (.iload_n 3, 1) := by decide +kernel
theorem dX6_repeat_13 : decode cX6_repeat 13 = .ok (.iload_n 2, 1) := by decide +kernel
theorem dX6_repeat_14 : decode cX6_repeat 14 = .ok (.iconst 1, 1) := by decide +kernel
theorem dX6_repeat_15 : decode cX6_repeat 15 = .ok (.isub, 1) := by decide +kernel
theorem dX6_repeat_16 : decode cX6_repeat 16 = .ok (.imul, 1) := by decide +kernel
theorem dX6_repeat_17 : decode cX6_repeat 17 = .ok (.if_icmp .ge 24, 3) := by decide +kernel
theorem dX6_repeat_20 : decode cX6_repeat 20 = .ok (.aload_n 0, 1) := by decide +kernel
theorem dX6_repeat_21 : decode cX6_repeat 21 = .ok (.aload_n 0, 1) := by decide +kernel
theorem dX6_repeat_22 : decode cX6_repeat 22 = .ok (.getfield 55, 3) := by decide +kernel
theorem dX6_repeat_25 : decode cX6_repeat 25 = .ok (.iload_n 1, 1) := by decide +kernel
theorem dX6_repeat_26 : decode cX6_repeat 26 = .ok (.iload 4, 2) := by decide +kernel
theorem dX6_repeat_28 : decode cX6_repeat 28 = .ok (.iload_n 3, 1) := by decide +kernel
theorem dX6_repeat_29 : decode cX6_repeat 29 = .ok (.irem, 1) := by decide +kernel
theorem dX6_repeat_30 : decode cX6_repeat 30 = .ok (.iadd, 1) := by decide +kernel
theorem dX6_repeat_31 : decode cX6_repeat 31 = .ok (.iaload, 1) := by decide +kernel
theorem dX6_repeat_32 : decode cX6_repeat 32 = .ok (.invokevirtual 285, 3) := by decide +kernel
theorem dX6_repeat_35 : decode cX6_repeat 35 = .ok (.iinc 4 1, 3) := by decide +kernel
theorem dX6_repeat_38 : decode cX6_repeat 38 = .ok (.goto (-28), 3) := by decide +kernel
theorem dX6_repeat_41 : decode cX6_repeat 41 = .ok (.return_, 1) := by decide +kernel
theorem dX6_tellWord_0 : decode cX6_tellWord 0 = .ok (.iconst 0, 1) := by decide +kernel
theorem dX6_tellWord_1 : decode cX6_tellWord 1 = .ok (.istore_n 1, 1) := by decide +kernel
theorem dX6_tellWord_2 : decode cX6_tellWord 2 = .ok (.iconst 0, 1) := by decide +kernel
theorem dX6_tellWord_3 : decode cX6_tellWord 3 = .ok (.istore_n 2, 1) := by decide +kernel
theorem dX6_tellWord_4 : decode cX6_tellWord 4 = .ok (.aload_n 0, 1) := by decide +kernel
theorem dX6_tellWord_5 : decode cX6_tellWord 5 = .ok (.iconst 0, 1) := by decide +kernel
theorem dX6_tellWord_6 : decode cX6_tellWord 6 = .ok (.putfield 282, 3) := by decide +kernel
theorem dX6_tellWord_9 : decode cX6_tellWord 9 = .ok (.aload_n 0, 1) := by decide +kernel
theorem dX6_tellWord_10 : decode cX6_tellWord 10 = .ok (.getfield 49, 3) := by decide +kernel
theorem dX6_tellWord_13 : decode cX6_tellWord 13 = .ok (.aload_n 0, 1) := by decide +kernel
theorem dX6_tellWord_14 : decode cX6_tellWord 14 = .ok (.getfield 288, 3) := by decide +kernel
theorem dX6_tellWord_17 : decode cX6_tellWord 17 = .ok (.iaload, 1) := by decide +kernel
theorem dX6_tellWord_18 : decode cX6_tellWord 18 = .ok (.bipush 59, 2) := by decide +kernel
theorem dX6_tellWord_20 : decode cX6_tellWord 20 = .ok (.if_icmp .eq 121, 3) := by decide +kernel
theorem dX6_tellWord_23 : decode cX6_tellWord 23 = .ok (.aload_n 0, 1) := by decide +kernel
theorem dX6_tellWord_24 : decode cX6_tellWord 24 = .ok (.getfield 49, 3) := by decide +kernel
theorem dX6_tellWord_27 : decode cX6_tellWord 27 = .ok (.aload_n 0, 1) := by decide +kernel
theorem dX6_tellWord_28 : decode cX6_tellWord 28 = .ok (.getfield 288, 3) := by decide +kernel
theorem dX6_tellWord_31 : decode cX6_tellWord 31 = .ok (.iaload, 1) := by decide +kernel
theorem dX6_tellWord_32 : decode cX6_tellWord 32 = .ok (.istore_n 3, 1) := by decide +kernel
theorem dX6_tellWord_33 : decode cX6_tellWord 33 = .ok (.iload_n 3, 1) := by decide +kernel
theorem dX6_tellWord_34 : decode cX6_tellWord 34 = .ok (.bipush 40, 2) := by decide +kernel
theorem dX6_tellWord_36 : decode cX6_tellWord 36 = .ok (.if_icmp .ne 19, 3) := by decide +kernel
theorem dX6_tellWord_39 : decode cX6_tellWord 39 = .ok (.iinc 1 1, 3) := by decide +kernel
theorem dX6_tellWord_42 : decode cX6_tellWord 42 = .ok (.aload_n 0, 1) := by decide +kernel
theorem dX6_tellWord_43 : decode cX6_tellWord 43 = .ok (.getfield 52, 3) := by decide +kernel
theorem dX6_tellWord_46 : decode cX6_tellWord 46 = .ok (.iload_n 1, 1) := by decide +kernel
theorem dX6_tellWord_47 : decode cX6_tellWord 47 = .ok (.aload_n 0, 1) := by decide +kernel
theorem dX6_tellWord_48 : decode cX6_tellWord 48 = .ok (.getfield 282, 3) := by decide +kernel
theorem dX6_tellWord_51 : decode cX6_tellWord 51 = .ok (.iastore, 1) := by decide +kernel
theorem dX6_tellWord_52 : decode cX6_tellWord 52 = .ok (.goto 76, 3) := by decide +kernel
theorem dX6_tellWord_55 : decode cX6_tellWord 55 = .ok (.iload_n 3, 1) := by decide +kernel
theorem dX6_tellWord_56 : decode cX6_tellWord 56 = .ok (.invokestatic 276, 3) := by decide +kernel
theorem dX6_tellWord_59 : decode cX6_tellWord 59 = .ok (.ifCond .eq 11, 3) := by decide +kernel
theorem dX6_tellWord_62 : decode cX6_tellWord 62 = .ok (.aload_n 0, 1) := by decide +kernel
theorem dX6_tellWord_63 : decode cX6_tellWord 63 = .ok (.getfield 282, 3) := by decide +kernel
theorem dX6_tellWord_66 : decode cX6_tellWord 66 = .ok (.istore_n 2, 1) := by decide +kernel
theorem dX6_tellWord_67 : decode cX6_tellWord 67 = .ok (.goto 61, 3) := by decide +kernel
theorem dX6_tellWord_70 : decode cX6_tellWord 70 = .ok (.iload_n 3, 1) := by decide +kernel
theorem dX6_tellWord_71 : decode cX6_tellWord 71 = .ok (.i2l, 1) := by decide +kernel
theorem dX6_tellWord_72 : decode cX6_tellWord 72 = .ok (.ldc2_w 266, 3) := by decide +kernel
theorem dX6_tellWord_75 : decode cX6_tellWord 75 = .ok (.ldc2_w 268, 3) := by decide +kernel
theorem dX6_tellWord_78 : decode cX6_tellWord 78 = .ok (.invokestatic 66, 3) := by decide +kernel
theorem dX6_tellWord_81 : decode cX6_tellWord 81 = .ok (.ifCond .eq 15, 3) := by decide +kernel
theorem dX6_tellWord_84 : decode cX6_tellWord 84 = .ok (.aload_n 0, 1) := by decide +kernel
theorem dX6_tellWord_85 : decode cX6_tellWord 85 = .ok (.iload_n 2, 1) := by decide +kernel
theorem dX6_tellWord_86 : decode cX6_tellWord 86 = .ok (.iload_n 3, 1) := by decide +kernel
theorem dX6_tellWord_87 : decode cX6_tellWord 87 = .ok (.bipush 48, 2) := by decide +kernel
theorem dX6_tellWord_89 : decode cX6_tellWord 89 = .ok (.isub, 1) := by decide +kernel
theorem dX6_tellWord_90 : decode cX6_tellWord 90 = .ok (.invokevirtual 291, 3) := by decide +kernel
theorem dX6_tellWord_93 : decode cX6_tellWord 93 = .ok (.goto 35, 3) := by decide +kernel
theorem dX6_tellWord_96 : decode cX6_tellWord 96 = .ok (.iload_n 3, 1) := by decide +kernel
theorem dX6_tellWord_97 : decode cX6_tellWord 97 = .ok (.bipush 41, 2) := by decide +kernel
theorem dX6_tellWord_99 : decode cX6_tellWord 99 = .ok (.if_icmp .ne 16, 3) := by decide +kernel
theorem dX6_tellWord_102 : decode cX6_tellWord 102 = .ok (.aload_n 0, 1) := by decide +kernel
theorem dX6_tellWord_103 : decode cX6_tellWord 103 = .ok (.getfield 52, 3) := by decide +kernel
theorem dX6_tellWord_106 : decode cX6_tellWord 106 = .ok (.iload_n 1, 1) := by decide +kernel
theorem dX6_tellWord_107 : decode cX6_tellWord 107 = .ok (.iaload, 1) := by decide +kernel
theorem dX6_tellWord_108 : decode cX6_tellWord 108 = .ok (.istore_n 2, 1) := by decide +kernel
theorem dX6_tellWord_109 : decode cX6_tellWord 109 = .ok (.iinc 1 (-1), 3) := by decide +kernel
theorem dX6_tellWord_112 : decode cX6_tellWord 112 = .ok (.goto 16, 3) := by decide +kernel
theorem dX6_tellWord_115 : decode cX6_tellWord 115 = .ok (.aload_n 0, 1) := by decide +kernel
theorem dX6_tellWord_116 : decode cX6_tellWord 116 = .ok (.getfield 282, 3) := by decide +kernel
theorem dX6_tellWord_119 : decode cX6_tellWord 119 = .ok (.istore_n 2, 1) := by decide +kernel
theorem dX6_tellWord_120 : decode cX6_tellWord 120 = .ok (.aload_n 0, 1) := by decide +kernel
theorem dX6_tellWord_121 : decode cX6_tellWord 121 = .ok (.iload_n 3, 1) := by decide +kernel
theorem dX6_tellWord_122 : decode cX6_tellWord 122 = .ok (.invokestatic 273, 3) := by decide +kernel
theorem dX6_tellWord_125 : decode cX6_tellWord 125 = .ok (.invokevirtual 285, 3) := by decide +kernel
theorem dX6_tellWord_128 : decode cX6_tellWord 128 = .ok (.aload_n 0, 1) := by decide +kernel
theorem dX6_tellWord_129 : decode cX6_tellWord 129 = .ok (.dup, 1) := by decide +kernel
theorem dX6_tellWord_130 : decode cX6_tellWord 130 = .ok (.getfield 288, 3) := by decide +kernel
theorem dX6_tellWord_133 : decode cX6_tellWord 133 = .ok (.iconst 1, 1) := by decide +kernel
theorem dX6_tellWord_134 : decode cX6_tellWord 134 = .ok (.iadd, 1) := by decide +kernel
theorem dX6_tellWord_135 : decode cX6_tellWord 135 = .ok (.putfield 288, 3) := by decide +kernel
theorem dX6_tellWord_138 : decode cX6_tellWord 138 = .ok (.goto (-129), 3) := by decide +kernel
theorem dX6_tellWord_141 : decode cX6_tellWord 141 = .ok (.aload_n 0, 1) := by decide +kernel
theorem dX6_tellWord_142 : decode cX6_tellWord 142 = .ok (.dup, 1) := by decide +kernel
theorem dX6_tellWord_143 : decode cX6_tellWord 143 = .ok (.getfield 288, 3) := by decide +kernel
theorem dX6_tellWord_146 : decode cX6_tellWord 146 = .ok (.iconst 1, 1) := by decide +kernel
theorem dX6_tellWord_147 : decode cX6_tellWord 147 = .ok (.iadd, 1) := by decide +kernel
theorem dX6_tellWord_148 : decode cX6_tellWord 148 = .ok (.putfield 288, 3) := by decide +kernel
theorem dX6_tellWord_151 : decode cX6_tellWord 151 = .ok (.return_, 1) := by decide +kernel
theorem dX6_skip_0 : decode cX6_skip 0 = .ok (.aload_n 0, 1) := by decide +kernel
theorem dX6_skip_1 : decode cX6_skip 1 = .ok (.getfield 288, 3) := by decide +kernel
theorem dX6_skip_4 : decode cX6_skip 4 = .ok (.aload_n 0, 1) := by decide +kernel
theorem dX6_skip_5 : decode cX6_skip 5 = .ok (.getfield 255, 3) := by decide +kernel
theorem dX6_skip_8 : decode cX6_skip 8 = .ok (.if_icmp .ge 31, 3) := by decide +kernel
theorem dX6_skip_11 : decode cX6_skip 11 = .ok (.aload_n 0, 1) := by decide +kernel
theorem dX6_skip_12 : decode cX6_skip 12 = .ok (.getfield 49, 3) := by decide +kernel
theorem dX6_skip_15 : decode cX6_skip 15 = .ok (.aload_n 0, 1) := by decide +kernel
theorem dX6_skip_16 : decode cX6_skip 16 = .ok (.getfield 288, 3) := by decide +kernel
theorem dX6_skip_19 : decode cX6_skip 19 = .ok (.iaload, 1) := by decide +kernel
theorem dX6_skip_20 : decode cX6_skip 20 = .ok (.invokestatic 276, 3) := by decide +kernel
theorem dX6_skip_23 : decode cX6_skip 23 = .ok (.ifCond .eq 16, 3) := by decide +kernel
theorem dX6_skip_26 : decode cX6_skip 26 = .ok (.aload_n 0, 1) := by decide +kernel
theorem dX6_skip_27 : decode cX6_skip 27 = .ok (.dup, 1) := by decide +kernel
theorem dX6_skip_28 : decode cX6_skip 28 = .ok (.getfield 288, 3) := by decide +kernel
theorem dX6_skip_31 : decode cX6_skip 31 = .ok (.iconst 1, 1) := by decide +kernel
theorem dX6_skip_32 : decode cX6_skip 32 = .ok (.iadd, 1) := by decide +kernel
theorem dX6_skip_33 : decode cX6_skip 33 = .ok (.putfield 288, 3) := by decide +kernel
theorem dX6_skip_36 : decode cX6_skip 36 = .ok (.goto (-36), 3) := by decide +kernel
theorem dX6_skip_39 : decode cX6_skip 39 = .ok (.return_, 1) := by decide +kernel
theorem dX6_tellWords_0 : decode cX6_tellWords 0 = .ok (.aload_n 0, 1) := by decide +kernel
theorem dX6_tellWords_1 : decode cX6_tellWords 1 = .ok (.invokevirtual 294, 3) := by decide +kernel
theorem dX6_tellWords_4 : decode cX6_tellWords 4 = .ok (.istore_n 3, 1) := by decide +kernel
theorem dX6_tellWords_5 : decode cX6_tellWords 5 = .ok (.iload_n 3, 1) := by decide +kernel
theorem dX6_tellWords_6 : decode cX6_tellWords 6 = .ok (.iconst (-1), 1) := by decide +kernel
theorem dX6_tellWords_7 : decode cX6_tellWords 7 = .ok (.if_icmp .eq 8, 3) := by decide +kernel
theorem dX6_tellWords_10 : decode cX6_tellWords 10 = .ok (.bipush (-10), 2) := by decide +kernel
theorem dX6_tellWords_12 : decode cX6_tellWords 12 = .ok (.iload_n 3, 1) := by decide +kernel
theorem dX6_tellWords_13 : decode cX6_tellWords 13 = .ok (.isub, 1) := by decide +kernel
theorem dX6_tellWords_14 : decode cX6_tellWords 14 = .ok (.ireturn, 1) := by decide +kernel
theorem dX6_tellWords_15 : decode cX6_tellWords 15 = .ok (.aload_n 0, 1) := by decide +kernel
theorem dX6_tellWords_16 : decode cX6_tellWords 16 = .ok (.iconst 0, 1) := by decide +kernel
theorem dX6_tellWords_17 : decode cX6_tellWords 17 = .ok (.putfield 288, 3) := by decide +kernel
theorem dX6_tellWords_20 : decode cX6_tellWords 20 = .ok (.iconst 0, 1) := by decide +kernel
theorem dX6_tellWords_21 : decode cX6_tellWords 21 = .ok (.istore 4, 2) := by decide +kernel
theorem dX6_tellWords_23 : decode cX6_tellWords 23 = .ok (.iload 4, 2) := by decide +kernel
theorem dX6_tellWords_25 : decode cX6_tellWords 25 = .ok (.aload_n 0, 1) := by decide +kernel
theorem dX6_tellWords_26 : decode cX6_tellWords 26 = .ok (.getfield 270, 3) := by decide +kernel
theorem dX6_tellWords_29 : decode cX6_tellWords 29 = .ok (.if_icmp .ge 154, 3) := by decide +kernel
theorem dX6_tellWords_32 : decode cX6_tellWords 32 = .ok (.aload_n 0, 1) := by decide +kernel
theorem dX6_tellWords_33 : decode cX6_tellWords 33 = .ok (.invokevirtual 297, 3) := by decide +kernel
theorem dX6_tellWords_36 : decode cX6_tellWords 36 = .ok (.aload_n 0, 1) := by decide +kernel
theorem dX6_tellWords_37 : decode cX6_tellWords 37 = .ok (.getfield 288, 3) := by decide +kernel
theorem dX6_tellWords_40 : decode cX6_tellWords 40 = .ok (.istore 5, 2) := by decide +kernel
theorem dX6_tellWords_42 : decode cX6_tellWords 42 = .ok (.aload_n 0, 1) := by decide +kernel
theorem dX6_tellWords_43 : decode cX6_tellWords 43 = .ok (.invokevirtual 300, 3) := by decide +kernel
theorem dX6_tellWords_46 : decode cX6_tellWords 46 = .ok (.aload_n 0, 1) := by decide +kernel
theorem dX6_tellWords_47 : decode cX6_tellWords 47 = .ok (.iconst 0, 1) := by decide +kernel
theorem dX6_tellWords_48 : decode cX6_tellWords 48 = .ok (.putfield 72, 3) := by decide +kernel
theorem dX6_tellWords_51 : decode cX6_tellWords 51 = .ok (.iconst 0, 1) := by decide +kernel
theorem dX6_tellWords_52 : decode cX6_tellWords 52 = .ok (.istore 6, 2) := by decide +kernel
theorem dX6_tellWords_54 : decode cX6_tellWords 54 = .ok (.iload 6, 2) := by decide +kernel
theorem dX6_tellWords_56 : decode cX6_tellWords 56 = .ok (.aload_n 0, 1) := by decide +kernel
theorem dX6_tellWords_57 : decode cX6_tellWords 57 = .ok (.getfield 282, 3) := by decide +kernel
theorem dX6_tellWords_60 : decode cX6_tellWords 60 = .ok (.if_icmp .ge 20, 3) := by decide +kernel
theorem dX6_tellWords_63 : decode cX6_tellWords 63 = .ok (.aload_n 0, 1) := by decide +kernel
theorem dX6_tellWords_64 : decode cX6_tellWords 64 = .ok (.aload_n 0, 1) := by decide +kernel
theorem dX6_tellWords_65 : decode cX6_tellWords 65 = .ok (.getfield 55, 3) := by decide +kernel
theorem dX6_tellWords_68 : decode cX6_tellWords 68 = .ok (.iload 6, 2) := by decide +kernel
theorem dX6_tellWords_70 : decode cX6_tellWords 70 = .ok (.iaload, 1) := by decide +kernel
theorem dX6_tellWords_71 : decode cX6_tellWords 71 = .ok (.invokevirtual 80, 3) := by decide +kernel
theorem dX6_tellWords_74 : decode cX6_tellWords 74 = .ok (.iinc 6 1, 3) := by decide +kernel
theorem dX6_tellWords_77 : decode cX6_tellWords 77 = .ok (.goto (-23), 3) := by decide +kernel
theorem dX6_tellWords_80 : decode cX6_tellWords 80 = .ok (.iload_n 2, 1) := by decide +kernel
theorem dX6_tellWords_81 : decode cX6_tellWords 81 = .ok (.ifCond .eq 7, 3) := by decide +kernel
theorem dX6_tellWords_84 : decode cX6_tellWords 84 = .ok (.aload_n 0, 1) := by decide +kernel
theorem dX6_tellWords_85 : decode cX6_tellWords 85 = .ok (.invokevirtual 173, 3) := by decide +kernel
theorem dX6_tellWords_88 : decode cX6_tellWords 88 = .ok (.aload_n 0, 1) := by decide +kernel
theorem dX6_tellWords_89 : decode cX6_tellWords 89 = .ok (.getfield 282, 3) := by decide +kernel
theorem dX6_tellWords_92 : decode cX6_tellWords 92 = .ok (.bipush 60, 2) := by decide +kernel
theorem dX6_tellWords_94 : decode cX6_tellWords 94 = .ok (.if_icmp .gt 28, 3) := by decide +kernel
theorem dX6_tellWords_97 : decode cX6_tellWords 97 = .ok (.iload 4, 2) := by decide +kernel
theorem dX6_tellWords_99 : decode cX6_tellWords 99 = .ok (.iload_n 1, 1) := by decide +kernel
theorem dX6_tellWords_100 : decode cX6_tellWords 100 = .ok (.if_icmp .eq 22, 3) := by decide +kernel
theorem dX6_tellWords_103 : decode cX6_tellWords 103 = .ok (.iload_n 2, 1) := by decide +kernel
theorem dX6_tellWords_104 : decode cX6_tellWords 104 = .ok (.ifCond .eq 24, 3) := by decide +kernel
theorem dX6_tellWords_107 : decode cX6_tellWords 107 = .ok (.aload_n 0, 1) := by decide +kernel
theorem dX6_tellWords_108 : decode cX6_tellWords 108 = .ok (.getfield 72, 3) := by decide +kernel
theorem dX6_tellWords_111 : decode cX6_tellWords 111 = .ok (.i2l, 1) := by decide +kernel
theorem dX6_tellWords_112 : decode cX6_tellWords 112 = .ok (.lconst 1, 1) := by decide +kernel
theorem dX6_tellWords_113 : decode cX6_tellWords 113 = .ok (.ldc2_w 303, 3) := by decide +kernel
theorem dX6_tellWords_116 : decode cX6_tellWords 116 = .ok (.invokestatic 66, 3) := by decide +kernel
theorem dX6_tellWords_119 : decode cX6_tellWords 119 = .ok (.ifCond .ne 9, 3) := by decide +kernel
theorem dX6_tellWords_122 : decode cX6_tellWords 122 = .ok (.bipush (-10), 2) := by decide +kernel
theorem dX6_tellWords_124 : decode cX6_tellWords 124 = .ok (.iload 5, 2) := by decide +kernel
theorem dX6_tellWords_126 : decode cX6_tellWords 126 = .ok (.isub, 1) := by decide +kernel
theorem dX6_tellWords_127 : decode cX6_tellWords 127 = .ok (.ireturn, 1) := by decide +kernel
theorem dX6_tellWords_128 : decode cX6_tellWords 128 = .ok (.aload_n 0, 1) := by decide +kernel
theorem dX6_tellWords_129 : decode cX6_tellWords 129 = .ok (.getfield 61, 3) := by decide +kernel
theorem dX6_tellWords_132 : decode cX6_tellWords 132 = .ok (.iload 4, 2) := by decide +kernel
theorem dX6_tellWords_134 : decode cX6_tellWords 134 = .ok (.aload_n 0, 1) := by decide +kernel
theorem dX6_tellWords_135 : decode cX6_tellWords 135 = .ok (.getfield 72, 3) := by decide +kernel
theorem dX6_tellWords_138 : decode cX6_tellWords 138 = .ok (.iastore, 1) := by decide +kernel
theorem dX6_tellWords_139 : decode cX6_tellWords 139 = .ok (.iconst 0, 1) := by decide +kernel
theorem dX6_tellWords_140 : decode cX6_tellWords 140 = .ok (.istore 6, 2) := by decide +kernel
theorem dX6_tellWords_142 : decode cX6_tellWords 142 = .ok (.iload 6, 2) := by decide +kernel
theorem dX6_tellWords_144 : decode cX6_tellWords 144 = .ok (.aload_n 0, 1) := by decide +kernel
theorem dX6_tellWords_145 : decode cX6_tellWords 145 = .ok (.getfield 72, 3) := by decide +kernel
theorem dX6_tellWords_148 : decode cX6_tellWords 148 = .ok (.if_icmp .ge 29, 3) := by decide +kernel
theorem dX6_tellWords_151 : decode cX6_tellWords 151 = .ok (.aload_n 0, 1) := by decide +kernel
theorem dX6_tellWords_152 : decode cX6_tellWords 152 = .ok (.getfield 58, 3) := by decide +kernel
theorem dX6_tellWords_155 : decode cX6_tellWords 155 = .ok (.bipush 60, 2) := by decide +kernel
theorem dX6_tellWords_157 : decode cX6_tellWords 157 = .ok (.iload 4, 2) := by decide +kernel
theorem dX6_tellWords_159 : decode cX6_tellWords 159 = .ok (.imul, 1) := by decide +kernel
theorem dX6_tellWords_160 : decode cX6_tellWords 160 = .ok (.iload 6, 2) := by decide +kernel
theorem dX6_tellWords_162 : decode cX6_tellWords 162 = .ok (.iadd, 1) := by decide +kernel
theorem dX6_tellWords_163 : decode cX6_tellWords 163 = .ok (.aload_n 0, 1) := by decide +kernel
theorem dX6_tellWords_164 : decode cX6_tellWords 164 = .ok (.getfield 34, 3) := by decide +kernel
theorem dX6_tellWords_167 : decode cX6_tellWords 167 = .ok (.iload 6, 2) := by decide +kernel
theorem dX6_tellWords_169 : decode cX6_tellWords 169 = .ok (.iaload, 1) := by decide +kernel
theorem dX6_tellWords_170 : decode cX6_tellWords 170 = .ok (.iastore, 1) := by decide +kernel
theorem dX6_tellWords_171 : decode cX6_tellWords 171 = .ok (.iinc 6 1, 3) := by decide +kernel
theorem dX6_tellWords_174 : decode cX6_tellWords 174 = .ok (.goto (-32), 3) := by decide +kernel
theorem dX6_tellWords_177 : decode cX6_tellWords 177 = .ok (.iinc 4 1, 3) := by decide +kernel
theorem dX6_tellWords_180 : decode cX6_tellWords 180 = .ok (.goto (-157), 3) := by decide +kernel
theorem dX6_tellWords_183 : decode cX6_tellWords 183 = .ok (.iconst (-1), 1) := by decide +kernel
theorem dX6_tellWords_184 : decode cX6_tellWords 184 = .ok (.ireturn, 1) := by decide +kernel
theorem dX6_relators_0 : decode cX6_relators 0 = .ok (.aload_n 0, 1) := by decide +kernel
theorem dX6_relators_1 : decode cX6_relators 1 = .ok (.iconst 3, 1) := by decide +kernel
theorem dX6_relators_2 : decode cX6_relators 2 = .ok (.iconst 1, 1) := by decide +kernel
theorem dX6_relators_3 : decode cX6_relators 3 = .ok (.invokevirtual 305, 3) := by decide +kernel
theorem dX6_relators_6 : decode cX6_relators 6 = .ok (.istore_n 1, 1) := by decide +kernel
theorem dX6_relators_7 : decode cX6_relators 7 = .ok (.iload_n 1, 1) := by decide +kernel
theorem dX6_relators_8 : decode cX6_relators 8 = .ok (.iconst (-1), 1) := by decide +kernel
theorem dX6_relators_9 : decode cX6_relators 9 = .ok (.if_icmp .eq 5, 3) := by decide +kernel
theorem dX6_relators_12 : decode cX6_relators 12 = .ok (.iload_n 1, 1) := by decide +kernel
theorem dX6_relators_13 : decode cX6_relators 13 = .ok (.ireturn, 1) := by decide +kernel
theorem dX6_relators_14 : decode cX6_relators 14 = .ok (.aload_n 0, 1) := by decide +kernel
theorem dX6_relators_15 : decode cX6_relators 15 = .ok (.aload_n 0, 1) := by decide +kernel
theorem dX6_relators_16 : decode cX6_relators 16 = .ok (.getfield 270, 3) := by decide +kernel
theorem dX6_relators_19 : decode cX6_relators 19 = .ok (.putfield 109, 3) := by decide +kernel
theorem dX6_relators_22 : decode cX6_relators 22 = .ok (.iconst 0, 1) := by decide +kernel
theorem dX6_relators_23 : decode cX6_relators 23 = .ok (.istore_n 2, 1) := by decide +kernel
theorem dX6_relators_24 : decode cX6_relators 24 = .ok (.iload_n 2, 1) := by decide +kernel
theorem dX6_relators_25 : decode cX6_relators 25 = .ok (.aload_n 0, 1) := by decide +kernel
theorem dX6_relators_26 : decode cX6_relators 26 = .ok (.getfield 270, 3) := by decide +kernel
theorem dX6_relators_29 : decode cX6_relators 29 = .ok (.if_icmp .ge 61, 3) := by decide +kernel
theorem dX6_relators_32 : decode cX6_relators 32 = .ok (.aload_n 0, 1) := by decide +kernel
theorem dX6_relators_33 : decode cX6_relators 33 = .ok (.getfield 13, 3) := by decide +kernel
theorem dX6_relators_36 : decode cX6_relators 36 = .ok (.iload_n 2, 1) := by decide +kernel
theorem dX6_relators_37 : decode cX6_relators 37 = .ok (.aload_n 0, 1) := by decide +kernel
theorem dX6_relators_38 : decode cX6_relators 38 = .ok (.getfield 61, 3) := by decide +kernel
theorem dX6_relators_41 : decode cX6_relators 41 = .ok (.iload_n 2, 1) := by decide +kernel
theorem dX6_relators_42 : decode cX6_relators 42 = .ok (.iaload, 1) := by decide +kernel
theorem dX6_relators_43 : decode cX6_relators 43 = .ok (.iastore, 1) := by decide +kernel
theorem dX6_relators_44 : decode cX6_relators 44 = .ok (.iconst 0, 1) := by decide +kernel
theorem dX6_relators_45 : decode cX6_relators 45 = .ok (.istore_n 3, 1) := by decide +kernel
theorem dX6_relators_46 : decode cX6_relators 46 = .ok (.iload_n 3, 1) := by decide +kernel
theorem dX6_relators_47 : decode cX6_relators 47 = .ok (.aload_n 0, 1) := by decide +kernel
theorem dX6_relators_48 : decode cX6_relators 48 = .ok (.getfield 61, 3) := by decide +kernel
theorem dX6_relators_51 : decode cX6_relators 51 = .ok (.iload_n 2, 1) := by decide +kernel
theorem dX6_relators_52 : decode cX6_relators 52 = .ok (.iaload, 1) := by decide +kernel
theorem dX6_relators_53 : decode cX6_relators 53 = .ok (.if_icmp .ge 31, 3) := by decide +kernel
theorem dX6_relators_56 : decode cX6_relators 56 = .ok (.aload_n 0, 1) := by decide +kernel
theorem dX6_relators_57 : decode cX6_relators 57 = .ok (.getfield 7, 3) := by decide +kernel
theorem dX6_relators_60 : decode cX6_relators 60 = .ok (.bipush 14, 2) := by decide +kernel
theorem dX6_relators_62 : decode cX6_relators 62 = .ok (.iload_n 2, 1) := by decide +kernel
theorem dX6_relators_63 : decode cX6_relators 63 = .ok (.imul, 1) := by decide +kernel
theorem dX6_relators_64 : decode cX6_relators 64 = .ok (.iload_n 3, 1) := by decide +kernel
theorem dX6_relators_65 : decode cX6_relators 65 = .ok (.iadd, 1) := by decide +kernel
theorem dX6_relators_66 : decode cX6_relators 66 = .ok (.aload_n 0, 1) := by decide +kernel
theorem dX6_relators_67 : decode cX6_relators 67 = .ok (.getfield 58, 3) := by decide +kernel
theorem dX6_relators_70 : decode cX6_relators 70 = .ok (.bipush 60, 2) := by decide +kernel
theorem dX6_relators_72 : decode cX6_relators 72 = .ok (.iload_n 2, 1) := by decide +kernel
theorem dX6_relators_73 : decode cX6_relators 73 = .ok (.imul, 1) := by decide +kernel
theorem dX6_relators_74 : decode cX6_relators 74 = .ok (.iload_n 3, 1) := by decide +kernel
theorem dX6_relators_75 : decode cX6_relators 75 = .ok (.iadd, 1) := by decide +kernel
theorem dX6_relators_76 : decode cX6_relators 76 = .ok (.iaload, 1) := by decide +kernel
theorem dX6_relators_77 : decode cX6_relators 77 = .ok (.iastore, 1) := by decide +kernel
theorem dX6_relators_78 : decode cX6_relators 78 = .ok (.iinc 3 1, 3) := by decide +kernel
theorem dX6_relators_81 : decode cX6_relators 81 = .ok (.goto (-35), 3) := by decide +kernel
theorem dX6_relators_84 : decode cX6_relators 84 = .ok (.iinc 2 1, 3) := by decide +kernel
theorem dX6_relators_87 : decode cX6_relators 87 = .ok (.goto (-63), 3) := by decide +kernel
theorem dX6_relators_90 : decode cX6_relators 90 = .ok (.aload_n 0, 1) := by decide +kernel
theorem dX6_relators_91 : decode cX6_relators 91 = .ok (.invokevirtual 309, 3) := by decide +kernel
theorem dX6_relators_94 : decode cX6_relators 94 = .ok (.aload_n 0, 1) := by decide +kernel
theorem dX6_relators_95 : decode cX6_relators 95 = .ok (.getfield 109, 3) := by decide +kernel
theorem dX6_relators_98 : decode cX6_relators 98 = .ok (.ireturn, 1) := by decide +kernel
theorem dX6_words_0 : decode cX6_words 0 = .ok (.iload_n 1, 1) := by decide +kernel
theorem dX6_words_1 : decode cX6_words 1 = .ok (.invokestatic 156, 3) := by decide +kernel
theorem dX6_words_4 : decode cX6_words 4 = .ok (.ifCond .ne 8, 3) := by decide +kernel
theorem dX6_words_7 : decode cX6_words 7 = .ok (.aload_n 0, 1) := by decide +kernel
theorem dX6_words_8 : decode cX6_words 8 = .ok (.invokevirtual 133, 3) := by decide +kernel
theorem dX6_words_11 : decode cX6_words 11 = .ok (.ireturn, 1) := by decide +kernel
theorem dX6_words_12 : decode cX6_words 12 = .ok (.aload_n 0, 1) := by decide +kernel
theorem dX6_words_13 : decode cX6_words 13 = .ok (.bipush 6, 2) := by decide +kernel
theorem dX6_words_15 : decode cX6_words 15 = .ok (.iload_n 1, 1) := by decide +kernel
theorem dX6_words_16 : decode cX6_words 16 = .ok (.isub, 1) := by decide +kernel
theorem dX6_words_17 : decode cX6_words 17 = .ok (.iconst 0, 1) := by decide +kernel
theorem dX6_words_18 : decode cX6_words 18 = .ok (.invokevirtual 305, 3) := by decide +kernel
theorem dX6_words_21 : decode cX6_words 21 = .ok (.istore_n 2, 1) := by decide +kernel
theorem dX6_words_22 : decode cX6_words 22 = .ok (.iload_n 2, 1) := by decide +kernel
theorem dX6_words_23 : decode cX6_words 23 = .ok (.iconst (-1), 1) := by decide +kernel
theorem dX6_words_24 : decode cX6_words 24 = .ok (.if_icmp .eq 5, 3) := by decide +kernel
theorem dX6_words_27 : decode cX6_words 27 = .ok (.iload_n 2, 1) := by decide +kernel
theorem dX6_words_28 : decode cX6_words 28 = .ok (.ireturn, 1) := by decide +kernel
theorem dX6_words_29 : decode cX6_words 29 = .ok (.iconst 0, 1) := by decide +kernel
theorem dX6_words_30 : decode cX6_words 30 = .ok (.istore_n 3, 1) := by decide +kernel
theorem dX6_words_31 : decode cX6_words 31 = .ok (.iload_n 3, 1) := by decide +kernel
theorem dX6_words_32 : decode cX6_words 32 = .ok (.aload_n 0, 1) := by decide +kernel
theorem dX6_words_33 : decode cX6_words 33 = .ok (.getfield 270, 3) := by decide +kernel
theorem dX6_words_36 : decode cX6_words 36 = .ok (.if_icmp .ge 69, 3) := by decide +kernel
theorem dX6_words_39 : decode cX6_words 39 = .ok (.aload_n 0, 1) := by decide +kernel
theorem dX6_words_40 : decode cX6_words 40 = .ok (.getfield 28, 3) := by decide +kernel
theorem dX6_words_43 : decode cX6_words 43 = .ok (.iload_n 1, 1) := by decide +kernel
theorem dX6_words_44 : decode cX6_words 44 = .ok (.iload_n 3, 1) := by decide +kernel
theorem dX6_words_45 : decode cX6_words 45 = .ok (.iadd, 1) := by decide +kernel
theorem dX6_words_46 : decode cX6_words 46 = .ok (.aload_n 0, 1) := by decide +kernel
theorem dX6_words_47 : decode cX6_words 47 = .ok (.getfield 61, 3) := by decide +kernel
theorem dX6_words_50 : decode cX6_words 50 = .ok (.iload_n 3, 1) := by decide +kernel
theorem dX6_words_51 : decode cX6_words 51 = .ok (.iaload, 1) := by decide +kernel
theorem dX6_words_52 : decode cX6_words 52 = .ok (.iastore, 1) := by decide +kernel
theorem dX6_words_53 : decode cX6_words 53 = .ok (.iconst 0, 1) := by decide +kernel
theorem dX6_words_54 : decode cX6_words 54 = .ok (.istore 4, 2) := by decide +kernel
theorem dX6_words_56 : decode cX6_words 56 = .ok (.iload 4, 2) := by decide +kernel
theorem dX6_words_58 : decode cX6_words 58 = .ok (.aload_n 0, 1) := by decide +kernel
theorem dX6_words_59 : decode cX6_words 59 = .ok (.getfield 61, 3) := by decide +kernel
theorem dX6_words_62 : decode cX6_words 62 = .ok (.iload_n 3, 1) := by decide +kernel
theorem dX6_words_63 : decode cX6_words 63 = .ok (.iaload, 1) := by decide +kernel
theorem dX6_words_64 : decode cX6_words 64 = .ok (.if_icmp .ge 35, 3) := by decide +kernel
theorem dX6_words_67 : decode cX6_words 67 = .ok (.aload_n 0, 1) := by decide +kernel
theorem dX6_words_68 : decode cX6_words 68 = .ok (.getfield 25, 3) := by decide +kernel
theorem dX6_words_71 : decode cX6_words 71 = .ok (.bipush 60, 2) := by decide +kernel
theorem dX6_words_73 : decode cX6_words 73 = .ok (.iload_n 1, 1) := by decide +kernel
theorem dX6_words_74 : decode cX6_words 74 = .ok (.iload_n 3, 1) := by decide +kernel
theorem dX6_words_75 : decode cX6_words 75 = .ok (.iadd, 1) := by decide +kernel
theorem dX6_words_76 : decode cX6_words 76 = .ok (.imul, 1) := by decide +kernel
theorem dX6_words_77 : decode cX6_words 77 = .ok (.iload 4, 2) := by decide +kernel
theorem dX6_words_79 : decode cX6_words 79 = .ok (.iadd, 1) := by decide +kernel
theorem dX6_words_80 : decode cX6_words 80 = .ok (.aload_n 0, 1) := by decide +kernel
theorem dX6_words_81 : decode cX6_words 81 = .ok (.getfield 58, 3) := by decide +kernel
theorem dX6_words_84 : decode cX6_words 84 = .ok (.bipush 60, 2) := by decide +kernel
theorem dX6_words_86 : decode cX6_words 86 = .ok (.iload_n 3, 1) := by decide +kernel
theorem dX6_words_87 : decode cX6_words 87 = .ok (.imul, 1) := by decide +kernel
theorem dX6_words_88 : decode cX6_words 88 = .ok (.iload 4, 2) := by decide +kernel
theorem dX6_words_90 : decode cX6_words 90 = .ok (.iadd, 1) := by decide +kernel
theorem dX6_words_91 : decode cX6_words 91 = .ok (.iaload, 1) := by decide +kernel
theorem dX6_words_92 : decode cX6_words 92 = .ok (.iastore, 1) := by decide +kernel
theorem dX6_words_93 : decode cX6_words 93 = .ok (.iinc 4 1, 3) := by decide +kernel
theorem dX6_words_96 : decode cX6_words 96 = .ok (.goto (-40), 3) := by decide +kernel
theorem dX6_words_99 : decode cX6_words 99 = .ok (.iinc 3 1, 3) := by decide +kernel
theorem dX6_words_102 : decode cX6_words 102 = .ok (.goto (-71), 3) := by decide +kernel
theorem dX6_words_105 : decode cX6_words 105 = .ok (.aload_n 0, 1) := by decide +kernel
theorem dX6_words_106 : decode cX6_words 106 = .ok (.getfield 270, 3) := by decide +kernel
theorem dX6_words_109 : decode cX6_words 109 = .ok (.ireturn, 1) := by decide +kernel
theorem dX6_lettersOfAll_0 : decode cX6_lettersOfAll 0 = .ok (.iconst 0, 1) := by decide +kernel
theorem dX6_lettersOfAll_1 : decode cX6_lettersOfAll 1 = .ok (.istore_n 1, 1) := by decide +kernel
theorem dX6_lettersOfAll_2 : decode cX6_lettersOfAll 2 = .ok (.iconst 0, 1) := by decide +kernel
theorem dX6_lettersOfAll_3 : decode cX6_lettersOfAll 3 = .ok (.istore_n 2, 1) := by decide +kernel
theorem dX6_lettersOfAll_4 : decode cX6_lettersOfAll 4 = .ok (.iload_n 2, 1) := by decide +kernel
theorem dX6_lettersOfAll_5 : decode cX6_lettersOfAll 5 = .ok (.bipush 6, 2) := by decide +kernel
theorem dX6_lettersOfAll_7 : decode cX6_lettersOfAll 7 = .ok (.if_icmp .ge 18, 3) := by decide +kernel
theorem dX6_lettersOfAll_10 : decode cX6_lettersOfAll 10 = .ok (.iload_n 1, 1) := by decide +kernel
theorem dX6_lettersOfAll_11 : decode cX6_lettersOfAll 11 = .ok (.aload_n 0, 1) := by decide +kernel
theorem dX6_lettersOfAll_12 : decode cX6_lettersOfAll 12 = .ok (.getfield 28, 3) := by decide +kernel
theorem dX6_lettersOfAll_15 : decode cX6_lettersOfAll 15 = .ok (.iload_n 2, 1) := by decide +kernel
theorem dX6_lettersOfAll_16 : decode cX6_lettersOfAll 16 = .ok (.iaload, 1) := by decide +kernel
theorem dX6_lettersOfAll_17 : decode cX6_lettersOfAll 17 = .ok (.iadd, 1) := by decide +kernel
theorem dX6_lettersOfAll_18 : decode cX6_lettersOfAll 18 = .ok (.istore_n 1, 1) := by decide +kernel
theorem dX6_lettersOfAll_19 : decode cX6_lettersOfAll 19 = .ok (.iinc 2 1, 3) := by decide +kernel
theorem dX6_lettersOfAll_22 : decode cX6_lettersOfAll 22 = .ok (.goto (-18), 3) := by decide +kernel
theorem dX6_lettersOfAll_25 : decode cX6_lettersOfAll 25 = .ok (.iload_n 1, 1) := by decide +kernel
theorem dX6_lettersOfAll_26 : decode cX6_lettersOfAll 26 = .ok (.ireturn, 1) := by decide +kernel
theorem dX6_toldOf_0 : decode cX6_toldOf 0 = .ok (.iload_n 1, 1) := by decide +kernel
theorem dX6_toldOf_1 : decode cX6_toldOf 1 = .ok (.tableswitch 60 3 7 #[35, 40, 45, 50, 55], 35) := by decide +kernel
theorem dX6_toldOf_36 : decode cX6_toldOf 36 = .ok (.aload_n 0, 1) := by decide +kernel
theorem dX6_toldOf_37 : decode cX6_toldOf 37 = .ok (.getfield 255, 3) := by decide +kernel
theorem dX6_toldOf_40 : decode cX6_toldOf 40 = .ok (.ireturn, 1) := by decide +kernel
theorem dX6_toldOf_41 : decode cX6_toldOf 41 = .ok (.aload_n 0, 1) := by decide +kernel
theorem dX6_toldOf_42 : decode cX6_toldOf 42 = .ok (.getfield 109, 3) := by decide +kernel
theorem dX6_toldOf_45 : decode cX6_toldOf 45 = .ok (.ireturn, 1) := by decide +kernel
theorem dX6_toldOf_46 : decode cX6_toldOf 46 = .ok (.aload_n 0, 1) := by decide +kernel
theorem dX6_toldOf_47 : decode cX6_toldOf 47 = .ok (.getfield 98, 3) := by decide +kernel
theorem dX6_toldOf_50 : decode cX6_toldOf 50 = .ok (.ireturn, 1) := by decide +kernel
theorem dX6_toldOf_51 : decode cX6_toldOf 51 = .ok (.aload_n 0, 1) := by decide +kernel
theorem dX6_toldOf_52 : decode cX6_toldOf 52 = .ok (.getfield 153, 3) := by decide +kernel
theorem dX6_toldOf_55 : decode cX6_toldOf 55 = .ok (.ireturn, 1) := by decide +kernel
theorem dX6_toldOf_56 : decode cX6_toldOf 56 = .ok (.aload_n 0, 1) := by decide +kernel
theorem dX6_toldOf_57 : decode cX6_toldOf 57 = .ok (.invokevirtual 312, 3) := by decide +kernel
theorem dX6_toldOf_60 : decode cX6_toldOf 60 = .ok (.ireturn, 1) := by decide +kernel
theorem dX6_toldOf_61 : decode cX6_toldOf 61 = .ok (.aload_n 0, 1) := by decide +kernel
theorem dX6_toldOf_62 : decode cX6_toldOf 62 = .ok (.getfield 31, 3) := by decide +kernel
theorem dX6_toldOf_65 : decode cX6_toldOf 65 = .ok (.iload_n 1, 1) := by decide +kernel
theorem dX6_toldOf_66 : decode cX6_toldOf 66 = .ok (.iaload, 1) := by decide +kernel
theorem dX6_toldOf_67 : decode cX6_toldOf 67 = .ok (.ireturn, 1) := by decide +kernel
theorem dX6_told_0 : decode cX6_told 0 = .ok (.iload_n 1, 1) := by decide +kernel
theorem dX6_told_1 : decode cX6_told 1 = .ok (.i2l, 1) := by decide +kernel
theorem dX6_told_2 : decode cX6_told 2 = .ok (.lconst 0, 1) := by decide +kernel
theorem dX6_told_3 : decode cX6_told 3 = .ok (.ldc2_w 70, 3) := by decide +kernel
theorem dX6_told_6 : decode cX6_told 6 = .ok (.invokestatic 66, 3) := by decide +kernel
theorem dX6_told_9 : decode cX6_told 9 = .ok (.ifCond .eq 11, 3) := by decide +kernel
theorem dX6_told_12 : decode cX6_told 12 = .ok (.aload_n 0, 1) := by decide +kernel
theorem dX6_told_13 : decode cX6_told 13 = .ok (.iload_n 1, 1) := by decide +kernel
theorem dX6_told_14 : decode cX6_told 14 = .ok (.invokevirtual 315, 3) := by decide +kernel
theorem dX6_told_17 : decode cX6_told 17 = .ok (.goto 7, 3) := by decide +kernel
theorem dX6_told_20 : decode cX6_told 20 = .ok (.aload_n 0, 1) := by decide +kernel
theorem dX6_told_21 : decode cX6_told 21 = .ok (.invokevirtual 133, 3) := by decide +kernel
theorem dX6_told_24 : decode cX6_told 24 = .ok (.ireturn, 1) := by decide +kernel
theorem dX6_sums_0 : decode cX6_sums 0 = .ok (.ldc2_w 318, 3) := by decide +kernel
theorem dX6_sums_3 : decode cX6_sums 3 = .ok (.lload_n 0, 1) := by decide +kernel
theorem dX6_sums_4 : decode cX6_sums 4 = .ok (.lmul, 1) := by decide +kernel
theorem dX6_sums_5 : decode cX6_sums 5 = .ok (.iload 4, 2) := by decide +kernel
theorem dX6_sums_7 : decode cX6_sums 7 = .ok (.i2l, 1) := by decide +kernel
theorem dX6_sums_8 : decode cX6_sums 8 = .ok (.ladd, 1) := by decide +kernel
theorem dX6_sums_9 : decode cX6_sums 9 = .ok (.lstore 5, 2) := by decide +kernel
theorem dX6_sums_11 : decode cX6_sums 11 = .ok (.iconst 0, 1) := by decide +kernel
theorem dX6_sums_12 : decode cX6_sums 12 = .ok (.istore 7, 2) := by decide +kernel
theorem dX6_sums_14 : decode cX6_sums 14 = .ok (.iload 7, 2) := by decide +kernel
theorem dX6_sums_16 : decode cX6_sums 16 = .ok (.iload 4, 2) := by decide +kernel
theorem dX6_sums_18 : decode cX6_sums 18 = .ok (.if_icmp .ge 25, 3) := by decide +kernel
theorem dX6_sums_21 : decode cX6_sums 21 = .ok (.ldc2_w 318, 3) := by decide +kernel
theorem dX6_sums_24 : decode cX6_sums 24 = .ok (.lload 5, 2) := by decide +kernel
theorem dX6_sums_26 : decode cX6_sums 26 = .ok (.lmul, 1) := by decide +kernel
theorem dX6_sums_27 : decode cX6_sums 27 = .ok (.aload_n 2, 1) := by decide +kernel
theorem dX6_sums_28 : decode cX6_sums 28 = .ok (.iload_n 3, 1) := by decide +kernel
theorem dX6_sums_29 : decode cX6_sums 29 = .ok (.iload 7, 2) := by decide +kernel
theorem dX6_sums_31 : decode cX6_sums 31 = .ok (.iadd, 1) := by decide +kernel
theorem dX6_sums_32 : decode cX6_sums 32 = .ok (.iaload, 1) := by decide +kernel
theorem dX6_sums_33 : decode cX6_sums 33 = .ok (.i2l, 1) := by decide +kernel
theorem dX6_sums_34 : decode cX6_sums 34 = .ok (.ladd, 1) := by decide +kernel
theorem dX6_sums_35 : decode cX6_sums 35 = .ok (.lstore 5, 2) := by decide +kernel
theorem dX6_sums_37 : decode cX6_sums 37 = .ok (.iinc 7 1, 3) := by decide +kernel
theorem dX6_sums_40 : decode cX6_sums 40 = .ok (.goto (-26), 3) := by decide +kernel
theorem dX6_sums_43 : decode cX6_sums 43 = .ok (.lload 5, 2) := by decide +kernel
theorem dX6_sums_45 : decode cX6_sums 45 = .ok (.lreturn, 1) := by decide +kernel
theorem dX6_digest_0 : decode cX6_digest 0 = .ok (.ldc2_w 320, 3) := by decide +kernel
theorem dX6_digest_3 : decode cX6_digest 3 = .ok (.lstore_n 1, 1) := by decide +kernel
theorem dX6_digest_4 : decode cX6_digest 4 = .ok (.iconst 0, 1) := by decide +kernel
theorem dX6_digest_5 : decode cX6_digest 5 = .ok (.istore_n 3, 1) := by decide +kernel
theorem dX6_digest_6 : decode cX6_digest 6 = .ok (.iload_n 3, 1) := by decide +kernel
theorem dX6_digest_7 : decode cX6_digest 7 = .ok (.bipush 8, 2) := by decide +kernel
theorem dX6_digest_9 : decode cX6_digest 9 = .ok (.if_icmp .ge 22, 3) := by decide +kernel
theorem dX6_digest_12 : decode cX6_digest 12 = .ok (.ldc2_w 318, 3) := by decide +kernel
theorem dX6_digest_15 : decode cX6_digest 15 = .ok (.lload_n 1, 1) := by decide +kernel
theorem dX6_digest_16 : decode cX6_digest 16 = .ok (.lmul, 1) := by decide +kernel
theorem dX6_digest_17 : decode cX6_digest 17 = .ok (.aload_n 0, 1) := by decide +kernel
theorem dX6_digest_18 : decode cX6_digest 18 = .ok (.iload_n 3, 1) := by decide +kernel
theorem dX6_digest_19 : decode cX6_digest 19 = .ok (.invokevirtual 315, 3) := by decide +kernel
theorem dX6_digest_22 : decode cX6_digest 22 = .ok (.i2l, 1) := by decide +kernel
theorem dX6_digest_23 : decode cX6_digest 23 = .ok (.ladd, 1) := by decide +kernel
theorem dX6_digest_24 : decode cX6_digest 24 = .ok (.lstore_n 1, 1) := by decide +kernel
theorem dX6_digest_25 : decode cX6_digest 25 = .ok (.iinc 3 1, 3) := by decide +kernel
theorem dX6_digest_28 : decode cX6_digest 28 = .ok (.goto (-22), 3) := by decide +kernel
theorem dX6_digest_31 : decode cX6_digest 31 = .ok (.iconst 0, 1) := by decide +kernel
theorem dX6_digest_32 : decode cX6_digest 32 = .ok (.istore_n 3, 1) := by decide +kernel
theorem dX6_digest_33 : decode cX6_digest 33 = .ok (.iload_n 3, 1) := by decide +kernel
theorem dX6_digest_34 : decode cX6_digest 34 = .ok (.aload_n 0, 1) := by decide +kernel
theorem dX6_digest_35 : decode cX6_digest 35 = .ok (.getfield 109, 3) := by decide +kernel
theorem dX6_digest_38 : decode cX6_digest 38 = .ok (.if_icmp .ge 28, 3) := by decide +kernel
theorem dX6_digest_41 : decode cX6_digest 41 = .ok (.lload_n 1, 1) := by decide +kernel
theorem dX6_digest_42 : decode cX6_digest 42 = .ok (.aload_n 0, 1) := by decide +kernel
theorem dX6_digest_43 : decode cX6_digest 43 = .ok (.getfield 7, 3) := by decide +kernel
theorem dX6_digest_46 : decode cX6_digest 46 = .ok (.bipush 14, 2) := by decide +kernel
theorem dX6_digest_48 : decode cX6_digest 48 = .ok (.iload_n 3, 1) := by decide +kernel
theorem dX6_digest_49 : decode cX6_digest 49 = .ok (.imul, 1) := by decide +kernel
theorem dX6_digest_50 : decode cX6_digest 50 = .ok (.aload_n 0, 1) := by decide +kernel
theorem dX6_digest_51 : decode cX6_digest 51 = .ok (.getfield 13, 3) := by decide +kernel
theorem dX6_digest_54 : decode cX6_digest 54 = .ok (.iload_n 3, 1) := by decide +kernel
theorem dX6_digest_55 : decode cX6_digest 55 = .ok (.iaload, 1) := by decide +kernel
theorem dX6_digest_56 : decode cX6_digest 56 = .ok (.invokestatic 322, 3) := by decide +kernel
theorem dX6_digest_59 : decode cX6_digest 59 = .ok (.lstore_n 1, 1) := by decide +kernel
theorem dX6_digest_60 : decode cX6_digest 60 = .ok (.iinc 3 1, 3) := by decide +kernel
theorem dX6_digest_63 : decode cX6_digest 63 = .ok (.goto (-30), 3) := by decide +kernel
theorem dX6_digest_66 : decode cX6_digest 66 = .ok (.iconst 0, 1) := by decide +kernel
theorem dX6_digest_67 : decode cX6_digest 67 = .ok (.istore_n 3, 1) := by decide +kernel
theorem dX6_digest_68 : decode cX6_digest 68 = .ok (.iload_n 3, 1) := by decide +kernel
theorem dX6_digest_69 : decode cX6_digest 69 = .ok (.bipush 6, 2) := by decide +kernel
theorem dX6_digest_71 : decode cX6_digest 71 = .ok (.if_icmp .ge 28, 3) := by decide +kernel
theorem dX6_digest_74 : decode cX6_digest 74 = .ok (.lload_n 1, 1) := by decide +kernel
theorem dX6_digest_75 : decode cX6_digest 75 = .ok (.aload_n 0, 1) := by decide +kernel
theorem dX6_digest_76 : decode cX6_digest 76 = .ok (.getfield 25, 3) := by decide +kernel
theorem dX6_digest_79 : decode cX6_digest 79 = .ok (.bipush 60, 2) := by decide +kernel
theorem dX6_digest_81 : decode cX6_digest 81 = .ok (.iload_n 3, 1) := by decide +kernel
theorem dX6_digest_82 : decode cX6_digest 82 = .ok (.imul, 1) := by decide +kernel
theorem dX6_digest_83 : decode cX6_digest 83 = .ok (.aload_n 0, 1) := by decide +kernel
theorem dX6_digest_84 : decode cX6_digest 84 = .ok (.getfield 28, 3) := by decide +kernel
theorem dX6_digest_87 : decode cX6_digest 87 = .ok (.iload_n 3, 1) := by decide +kernel
theorem dX6_digest_88 : decode cX6_digest 88 = .ok (.iaload, 1) := by decide +kernel
theorem dX6_digest_89 : decode cX6_digest 89 = .ok (.invokestatic 322, 3) := by decide +kernel
theorem dX6_digest_92 : decode cX6_digest 92 = .ok (.lstore_n 1, 1) := by decide +kernel
theorem dX6_digest_93 : decode cX6_digest 93 = .ok (.iinc 3 1, 3) := by decide +kernel
theorem dX6_digest_96 : decode cX6_digest 96 = .ok (.goto (-28), 3) := by decide +kernel
theorem dX6_digest_99 : decode cX6_digest 99 = .ok (.lload_n 1, 1) := by decide +kernel
theorem dX6_digest_100 : decode cX6_digest 100 = .ok (.lreturn, 1) := by decide +kernel
