theorem dX2_init_0 : decode cX2_init 0 = .ok (.aload_n 0, 1) := by decide +kernel
theorem dX2_init_1 : decode cX2_init 1 = .ok (.invokespecial 3, 3) := by decide +kernel
theorem dX2_init_4 : decode cX2_init 4 = .ok (.aload_n 0, 1) := by decide +kernel
theorem dX2_init_5 : decode cX2_init 5 = .ok (.iconst 0, 1) := by decide +kernel
theorem dX2_init_6 : decode cX2_init 6 = .ok (.iload_n 1, 1) := by decide +kernel
theorem dX2_init_7 : decode cX2_init 7 = .ok (.invokestatic 9, 3) := by decide +kernel
theorem dX2_init_10 : decode cX2_init 10 = .ok (.newarray .int, 2) := by decide +kernel
theorem dX2_init_12 : decode cX2_init 12 = .ok (.putfield 15, 3) := by decide +kernel
theorem dX2_init_15 : decode cX2_init 15 = .ok (.return_, 1) := by decide +kernel
theorem dX2_at_0 : decode cX2_at 0 = .ok (.iload_n 1, 1) := by decide +kernel
theorem dX2_at_1 : decode cX2_at 1 = .ok (.ifCond .lt 29, 3) := by decide +kernel
theorem dX2_at_4 : decode cX2_at 4 = .ok (.iload_n 1, 1) := by decide +kernel
theorem dX2_at_5 : decode cX2_at 5 = .ok (.aload_n 0, 1) := by decide +kernel
theorem dX2_at_6 : decode cX2_at 6 = .ok (.getfield 21, 3) := by decide +kernel
theorem dX2_at_9 : decode cX2_at 9 = .ok (.if_icmp .ge 21, 3) := by decide +kernel
theorem dX2_at_12 : decode cX2_at 12 = .ok (.iload_n 1, 1) := by decide +kernel
theorem dX2_at_13 : decode cX2_at 13 = .ok (.aload_n 0, 1) := by decide +kernel
theorem dX2_at_14 : decode cX2_at 14 = .ok (.getfield 15, 3) := by decide +kernel
theorem dX2_at_17 : decode cX2_at 17 = .ok (.arraylength, 1) := by decide +kernel
theorem dX2_at_18 : decode cX2_at 18 = .ok (.if_icmp .ge 12, 3) := by decide +kernel
theorem dX2_at_21 : decode cX2_at 21 = .ok (.aload_n 0, 1) := by decide +kernel
theorem dX2_at_22 : decode cX2_at 22 = .ok (.getfield 15, 3) := by decide +kernel
theorem dX2_at_25 : decode cX2_at 25 = .ok (.iload_n 1, 1) := by decide +kernel
theorem dX2_at_26 : decode cX2_at 26 = .ok (.iaload, 1) := by decide +kernel
theorem dX2_at_27 : decode cX2_at 27 = .ok (.goto 4, 3) := by decide +kernel
theorem dX2_at_30 : decode cX2_at 30 = .ok (.iconst (-1), 1) := by decide +kernel
theorem dX2_at_31 : decode cX2_at 31 = .ok (.ireturn, 1) := by decide +kernel
theorem dX2_wipe_0 : decode cX2_wipe 0 = .ok (.aload_n 0, 1) := by decide +kernel
theorem dX2_wipe_1 : decode cX2_wipe 1 = .ok (.iconst 0, 1) := by decide +kernel
theorem dX2_wipe_2 : decode cX2_wipe 2 = .ok (.putfield 21, 3) := by decide +kernel
theorem dX2_wipe_5 : decode cX2_wipe 5 = .ok (.return_, 1) := by decide +kernel
theorem dX2_put_0 : decode cX2_put 0 = .ok (.iload_n 1, 1) := by decide +kernel
theorem dX2_put_1 : decode cX2_put 1 = .ok (.ifCond .lt 9, 3) := by decide +kernel
theorem dX2_put_4 : decode cX2_put 4 = .ok (.iload_n 1, 1) := by decide +kernel
theorem dX2_put_5 : decode cX2_put 5 = .ok (.bipush 8, 2) := by decide +kernel
theorem dX2_put_7 : decode cX2_put 7 = .ok (.if_icmp .lt 4, 3) := by decide +kernel
theorem dX2_put_10 : decode cX2_put 10 = .ok (.return_, 1) := by decide +kernel
theorem dX2_put_11 : decode cX2_put 11 = .ok (.aload_n 0, 1) := by decide +kernel
theorem dX2_put_12 : decode cX2_put 12 = .ok (.getfield 21, 3) := by decide +kernel
theorem dX2_put_15 : decode cX2_put 15 = .ok (.ifCond .le 33, 3) := by decide +kernel
theorem dX2_put_18 : decode cX2_put 18 = .ok (.aload_n 0, 1) := by decide +kernel
theorem dX2_put_19 : decode cX2_put 19 = .ok (.aload_n 0, 1) := by decide +kernel
theorem dX2_put_20 : decode cX2_put 20 = .ok (.getfield 21, 3) := by decide +kernel
theorem dX2_put_23 : decode cX2_put 23 = .ok (.iconst 1, 1) := by decide +kernel
theorem dX2_put_24 : decode cX2_put 24 = .ok (.isub, 1) := by decide +kernel
theorem dX2_put_25 : decode cX2_put 25 = .ok (.invokevirtual 25, 3) := by decide +kernel
theorem dX2_put_28 : decode cX2_put 28 = .ok (.iload_n 1, 1) := by decide +kernel
theorem dX2_put_29 : decode cX2_put 29 = .ok (.invokestatic 29, 3) := by decide +kernel
theorem dX2_put_32 : decode cX2_put 32 = .ok (.if_icmp .ne 16, 3) := by decide +kernel
theorem dX2_put_35 : decode cX2_put 35 = .ok (.aload_n 0, 1) := by decide +kernel
theorem dX2_put_36 : decode cX2_put 36 = .ok (.dup, 1) := by decide +kernel
theorem dX2_put_37 : decode cX2_put 37 = .ok (.getfield 21, 3) := by decide +kernel
theorem dX2_put_40 : decode cX2_put 40 = .ok (.iconst 1, 1) := by decide +kernel
theorem dX2_put_41 : decode cX2_put 41 = .ok (.isub, 1) := by decide +kernel
theorem dX2_put_42 : decode cX2_put 42 = .ok (.putfield 21, 3) := by decide +kernel
theorem dX2_put_45 : decode cX2_put 45 = .ok (.goto 35, 3) := by decide +kernel
theorem dX2_put_48 : decode cX2_put 48 = .ok (.aload_n 0, 1) := by decide +kernel
theorem dX2_put_49 : decode cX2_put 49 = .ok (.getfield 21, 3) := by decide +kernel
theorem dX2_put_52 : decode cX2_put 52 = .ok (.aload_n 0, 1) := by decide +kernel
theorem dX2_put_53 : decode cX2_put 53 = .ok (.getfield 15, 3) := by decide +kernel
theorem dX2_put_56 : decode cX2_put 56 = .ok (.arraylength, 1) := by decide +kernel
theorem dX2_put_57 : decode cX2_put 57 = .ok (.if_icmp .ge 23, 3) := by decide +kernel
theorem dX2_put_60 : decode cX2_put 60 = .ok (.aload_n 0, 1) := by decide +kernel
theorem dX2_put_61 : decode cX2_put 61 = .ok (.getfield 15, 3) := by decide +kernel
theorem dX2_put_64 : decode cX2_put 64 = .ok (.aload_n 0, 1) := by decide +kernel
theorem dX2_put_65 : decode cX2_put 65 = .ok (.getfield 21, 3) := by decide +kernel
theorem dX2_put_68 : decode cX2_put 68 = .ok (.iload_n 1, 1) := by decide +kernel
theorem dX2_put_69 : decode cX2_put 69 = .ok (.iastore, 1) := by decide +kernel
theorem dX2_put_70 : decode cX2_put 70 = .ok (.aload_n 0, 1) := by decide +kernel
theorem dX2_put_71 : decode cX2_put 71 = .ok (.dup, 1) := by decide +kernel
theorem dX2_put_72 : decode cX2_put 72 = .ok (.getfield 21, 3) := by decide +kernel
theorem dX2_put_75 : decode cX2_put 75 = .ok (.iconst 1, 1) := by decide +kernel
theorem dX2_put_76 : decode cX2_put 76 = .ok (.iadd, 1) := by decide +kernel
theorem dX2_put_77 : decode cX2_put 77 = .ok (.putfield 21, 3) := by decide +kernel
theorem dX2_put_80 : decode cX2_put 80 = .ok (.return_, 1) := by decide +kernel
theorem dX2_copy_0 : decode cX2_copy 0 = .ok (.aload_n 1, 1) := by decide +kernel
theorem dX2_copy_1 : decode cX2_copy 1 = .ok (.getfield 21, 3) := by decide +kernel
theorem dX2_copy_4 : decode cX2_copy 4 = .ok (.aload_n 1, 1) := by decide +kernel
theorem dX2_copy_5 : decode cX2_copy 5 = .ok (.getfield 15, 3) := by decide +kernel
theorem dX2_copy_8 : decode cX2_copy 8 = .ok (.arraylength, 1) := by decide +kernel
theorem dX2_copy_9 : decode cX2_copy 9 = .ok (.aload_n 0, 1) := by decide +kernel
theorem dX2_copy_10 : decode cX2_copy 10 = .ok (.getfield 15, 3) := by decide +kernel
theorem dX2_copy_13 : decode cX2_copy 13 = .ok (.arraylength, 1) := by decide +kernel
theorem dX2_copy_14 : decode cX2_copy 14 = .ok (.invokestatic 32, 3) := by decide +kernel
theorem dX2_copy_17 : decode cX2_copy 17 = .ok (.invokestatic 32, 3) := by decide +kernel
theorem dX2_copy_20 : decode cX2_copy 20 = .ok (.istore_n 2, 1) := by decide +kernel
theorem dX2_copy_21 : decode cX2_copy 21 = .ok (.iconst 0, 1) := by decide +kernel
theorem dX2_copy_22 : decode cX2_copy 22 = .ok (.istore_n 3, 1) := by decide +kernel
theorem dX2_copy_23 : decode cX2_copy 23 = .ok (.iload_n 3, 1) := by decide +kernel
theorem dX2_copy_24 : decode cX2_copy 24 = .ok (.iload_n 2, 1) := by decide +kernel
theorem dX2_copy_25 : decode cX2_copy 25 = .ok (.if_icmp .ge 21, 3) := by decide +kernel
theorem dX2_copy_28 : decode cX2_copy 28 = .ok (.aload_n 0, 1) := by decide +kernel
theorem dX2_copy_29 : decode cX2_copy 29 = .ok (.getfield 15, 3) := by decide +kernel
theorem dX2_copy_32 : decode cX2_copy 32 = .ok (.iload_n 3, 1) := by decide +kernel
theorem dX2_copy_33 : decode cX2_copy 33 = .ok (.aload_n 1, 1) := by decide +kernel
theorem dX2_copy_34 : decode cX2_copy 34 = .ok (.getfield 15, 3) := by decide +kernel
theorem dX2_copy_37 : decode cX2_copy 37 = .ok (.iload_n 3, 1) := by decide +kernel
theorem dX2_copy_38 : decode cX2_copy 38 = .ok (.iaload, 1) := by decide +kernel
theorem dX2_copy_39 : decode cX2_copy 39 = .ok (.iastore, 1) := by decide +kernel
theorem dX2_copy_40 : decode cX2_copy 40 = .ok (.iinc 3 1, 3) := by decide +kernel
theorem dX2_copy_43 : decode cX2_copy 43 = .ok (.goto (-20), 3) := by decide +kernel
theorem dX2_copy_46 : decode cX2_copy 46 = .ok (.aload_n 0, 1) := by decide +kernel
theorem dX2_copy_47 : decode cX2_copy 47 = .ok (.iload_n 2, 1) := by decide +kernel
theorem dX2_copy_48 : decode cX2_copy 48 = .ok (.putfield 21, 3) := by decide +kernel
theorem dX2_copy_51 : decode cX2_copy 51 = .ok (.return_, 1) := by decide +kernel
theorem dX2_putRow_0 : decode cX2_putRow 0 = .ok (.aload_n 0, 1) := by decide +kernel
theorem dX2_putRow_1 : decode cX2_putRow 1 = .ok (.aload_n 1, 1) := by decide +kernel
theorem dX2_putRow_2 : decode cX2_putRow 2 = .ok (.iconst 0, 1) := by decide +kernel
theorem dX2_putRow_3 : decode cX2_putRow 3 = .ok (.aload_n 1, 1) := by decide +kernel
theorem dX2_putRow_4 : decode cX2_putRow 4 = .ok (.getfield 21, 3) := by decide +kernel
theorem dX2_putRow_7 : decode cX2_putRow 7 = .ok (.invokevirtual 35, 3) := by decide +kernel
theorem dX2_putRow_10 : decode cX2_putRow 10 = .ok (.return_, 1) := by decide +kernel
theorem dX2_putPart_0 : decode cX2_putPart 0 = .ok (.iload_n 2, 1) := by decide +kernel
theorem dX2_putPart_1 : decode cX2_putPart 1 = .ok (.istore 4, 2) := by decide +kernel
theorem dX2_putPart_3 : decode cX2_putPart 3 = .ok (.iload 4, 2) := by decide +kernel
theorem dX2_putPart_5 : decode cX2_putPart 5 = .ok (.iload_n 3, 1) := by decide +kernel
theorem dX2_putPart_6 : decode cX2_putPart 6 = .ok (.if_icmp .ge 19, 3) := by decide +kernel
theorem dX2_putPart_9 : decode cX2_putPart 9 = .ok (.aload_n 0, 1) := by decide +kernel
theorem dX2_putPart_10 : decode cX2_putPart 10 = .ok (.aload_n 1, 1) := by decide +kernel
theorem dX2_putPart_11 : decode cX2_putPart 11 = .ok (.iload 4, 2) := by decide +kernel
theorem dX2_putPart_13 : decode cX2_putPart 13 = .ok (.invokevirtual 25, 3) := by decide +kernel
theorem dX2_putPart_16 : decode cX2_putPart 16 = .ok (.invokevirtual 39, 3) := by decide +kernel
theorem dX2_putPart_19 : decode cX2_putPart 19 = .ok (.iinc 4 1, 3) := by decide +kernel
theorem dX2_putPart_22 : decode cX2_putPart 22 = .ok (.goto (-19), 3) := by decide +kernel
theorem dX2_putPart_25 : decode cX2_putPart 25 = .ok (.return_, 1) := by decide +kernel
theorem dX2_putInverse_0 : decode cX2_putInverse 0 = .ok (.aload_n 1, 1) := by decide +kernel
theorem dX2_putInverse_1 : decode cX2_putInverse 1 = .ok (.getfield 21, 3) := by decide +kernel
theorem dX2_putInverse_4 : decode cX2_putInverse 4 = .ok (.iconst 1, 1) := by decide +kernel
theorem dX2_putInverse_5 : decode cX2_putInverse 5 = .ok (.isub, 1) := by decide +kernel
theorem dX2_putInverse_6 : decode cX2_putInverse 6 = .ok (.istore_n 2, 1) := by decide +kernel
theorem dX2_putInverse_7 : decode cX2_putInverse 7 = .ok (.iload_n 2, 1) := by decide +kernel
theorem dX2_putInverse_8 : decode cX2_putInverse 8 = .ok (.ifCond .lt 21, 3) := by decide +kernel
theorem dX2_putInverse_11 : decode cX2_putInverse 11 = .ok (.aload_n 0, 1) := by decide +kernel
theorem dX2_putInverse_12 : decode cX2_putInverse 12 = .ok (.aload_n 1, 1) := by decide +kernel
theorem dX2_putInverse_13 : decode cX2_putInverse 13 = .ok (.iload_n 2, 1) := by decide +kernel
theorem dX2_putInverse_14 : decode cX2_putInverse 14 = .ok (.invokevirtual 25, 3) := by decide +kernel
theorem dX2_putInverse_17 : decode cX2_putInverse 17 = .ok (.invokestatic 29, 3) := by decide +kernel
theorem dX2_putInverse_20 : decode cX2_putInverse 20 = .ok (.invokevirtual 39, 3) := by decide +kernel
theorem dX2_putInverse_23 : decode cX2_putInverse 23 = .ok (.iinc 2 (-1), 3) := by decide +kernel
theorem dX2_putInverse_26 : decode cX2_putInverse 26 = .ok (.goto (-19), 3) := by decide +kernel
theorem dX2_putInverse_29 : decode cX2_putInverse 29 = .ok (.return_, 1) := by decide +kernel
theorem dX2_putTurn_0 : decode cX2_putTurn 0 = .ok (.aload_n 0, 1) := by decide +kernel
theorem dX2_putTurn_1 : decode cX2_putTurn 1 = .ok (.aload_n 1, 1) := by decide +kernel
theorem dX2_putTurn_2 : decode cX2_putTurn 2 = .ok (.iload_n 2, 1) := by decide +kernel
theorem dX2_putTurn_3 : decode cX2_putTurn 3 = .ok (.aload_n 1, 1) := by decide +kernel
theorem dX2_putTurn_4 : decode cX2_putTurn 4 = .ok (.getfield 21, 3) := by decide +kernel
theorem dX2_putTurn_7 : decode cX2_putTurn 7 = .ok (.invokevirtual 35, 3) := by decide +kernel
theorem dX2_putTurn_10 : decode cX2_putTurn 10 = .ok (.aload_n 0, 1) := by decide +kernel
theorem dX2_putTurn_11 : decode cX2_putTurn 11 = .ok (.aload_n 1, 1) := by decide +kernel
theorem dX2_putTurn_12 : decode cX2_putTurn 12 = .ok (.iconst 0, 1) := by decide +kernel
theorem dX2_putTurn_13 : decode cX2_putTurn 13 = .ok (.iload_n 2, 1) := by decide +kernel
theorem dX2_putTurn_14 : decode cX2_putTurn 14 = .ok (.aload_n 1, 1) := by decide +kernel
theorem dX2_putTurn_15 : decode cX2_putTurn 15 = .ok (.getfield 21, 3) := by decide +kernel
theorem dX2_putTurn_18 : decode cX2_putTurn 18 = .ok (.invokestatic 32, 3) := by decide +kernel
theorem dX2_putTurn_21 : decode cX2_putTurn 21 = .ok (.invokevirtual 35, 3) := by decide +kernel
theorem dX2_putTurn_24 : decode cX2_putTurn 24 = .ok (.return_, 1) := by decide +kernel
theorem dX2_cutToRing_0 : decode cX2_cutToRing 0 = .ok (.iconst 0, 1) := by decide +kernel
theorem dX2_cutToRing_1 : decode cX2_cutToRing 1 = .ok (.istore_n 1, 1) := by decide +kernel
theorem dX2_cutToRing_2 : decode cX2_cutToRing 2 = .ok (.iconst 2, 1) := by decide +kernel
theorem dX2_cutToRing_3 : decode cX2_cutToRing 3 = .ok (.iload_n 1, 1) := by decide +kernel
theorem dX2_cutToRing_4 : decode cX2_cutToRing 4 = .ok (.imul, 1) := by decide +kernel
theorem dX2_cutToRing_5 : decode cX2_cutToRing 5 = .ok (.iconst 1, 1) := by decide +kernel
theorem dX2_cutToRing_6 : decode cX2_cutToRing 6 = .ok (.iadd, 1) := by decide +kernel
theorem dX2_cutToRing_7 : decode cX2_cutToRing 7 = .ok (.aload_n 0, 1) := by decide +kernel
theorem dX2_cutToRing_8 : decode cX2_cutToRing 8 = .ok (.getfield 21, 3) := by decide +kernel
theorem dX2_cutToRing_11 : decode cX2_cutToRing 11 = .ok (.if_icmp .ge 32, 3) := by decide +kernel
theorem dX2_cutToRing_14 : decode cX2_cutToRing 14 = .ok (.aload_n 0, 1) := by decide +kernel
theorem dX2_cutToRing_15 : decode cX2_cutToRing 15 = .ok (.iload_n 1, 1) := by decide +kernel
theorem dX2_cutToRing_16 : decode cX2_cutToRing 16 = .ok (.invokevirtual 25, 3) := by decide +kernel
theorem dX2_cutToRing_19 : decode cX2_cutToRing 19 = .ok (.aload_n 0, 1) := by decide +kernel
theorem dX2_cutToRing_20 : decode cX2_cutToRing 20 = .ok (.aload_n 0, 1) := by decide +kernel
theorem dX2_cutToRing_21 : decode cX2_cutToRing 21 = .ok (.getfield 21, 3) := by decide +kernel
theorem dX2_cutToRing_24 : decode cX2_cutToRing 24 = .ok (.iconst 1, 1) := by decide +kernel
theorem dX2_cutToRing_25 : decode cX2_cutToRing 25 = .ok (.isub, 1) := by decide +kernel
theorem dX2_cutToRing_26 : decode cX2_cutToRing 26 = .ok (.iload_n 1, 1) := by decide +kernel
theorem dX2_cutToRing_27 : decode cX2_cutToRing 27 = .ok (.isub, 1) := by decide +kernel
theorem dX2_cutToRing_28 : decode cX2_cutToRing 28 = .ok (.invokevirtual 25, 3) := by decide +kernel
theorem dX2_cutToRing_31 : decode cX2_cutToRing 31 = .ok (.invokestatic 29, 3) := by decide +kernel
theorem dX2_cutToRing_34 : decode cX2_cutToRing 34 = .ok (.if_icmp .ne 9, 3) := by decide +kernel
theorem dX2_cutToRing_37 : decode cX2_cutToRing 37 = .ok (.iinc 1 1, 3) := by decide +kernel
theorem dX2_cutToRing_40 : decode cX2_cutToRing 40 = .ok (.goto (-38), 3) := by decide +kernel
theorem dX2_cutToRing_43 : decode cX2_cutToRing 43 = .ok (.aload_n 0, 1) := by decide +kernel
theorem dX2_cutToRing_44 : decode cX2_cutToRing 44 = .ok (.getfield 21, 3) := by decide +kernel
theorem dX2_cutToRing_47 : decode cX2_cutToRing 47 = .ok (.iconst 2, 1) := by decide +kernel
theorem dX2_cutToRing_48 : decode cX2_cutToRing 48 = .ok (.iload_n 1, 1) := by decide +kernel
theorem dX2_cutToRing_49 : decode cX2_cutToRing 49 = .ok (.imul, 1) := by decide +kernel
theorem dX2_cutToRing_50 : decode cX2_cutToRing 50 = .ok (.isub, 1) := by decide +kernel
theorem dX2_cutToRing_51 : decode cX2_cutToRing 51 = .ok (.istore_n 2, 1) := by decide +kernel
theorem dX2_cutToRing_52 : decode cX2_cutToRing 52 = .ok (.iconst 0, 1) := by decide +kernel
theorem dX2_cutToRing_53 : decode cX2_cutToRing 53 = .ok (.istore_n 3, 1) := by decide +kernel
theorem dX2_cutToRing_54 : decode cX2_cutToRing 54 = .ok (.iload_n 3, 1) := by decide +kernel
theorem dX2_cutToRing_55 : decode cX2_cutToRing 55 = .ok (.iload_n 2, 1) := by decide +kernel
theorem dX2_cutToRing_56 : decode cX2_cutToRing 56 = .ok (.if_icmp .ge 34, 3) := by decide +kernel
theorem dX2_cutToRing_59 : decode cX2_cutToRing 59 = .ok (.iload_n 3, 1) := by decide +kernel
theorem dX2_cutToRing_60 : decode cX2_cutToRing 60 = .ok (.iload_n 1, 1) := by decide +kernel
theorem dX2_cutToRing_61 : decode cX2_cutToRing 61 = .ok (.iadd, 1) := by decide +kernel
theorem dX2_cutToRing_62 : decode cX2_cutToRing 62 = .ok (.aload_n 0, 1) := by decide +kernel
theorem dX2_cutToRing_63 : decode cX2_cutToRing 63 = .ok (.getfield 15, 3) := by decide +kernel
theorem dX2_cutToRing_66 : decode cX2_cutToRing 66 = .ok (.arraylength, 1) := by decide +kernel
theorem dX2_cutToRing_67 : decode cX2_cutToRing 67 = .ok (.if_icmp .ge 23, 3) := by decide +kernel
theorem dX2_cutToRing_70 : decode cX2_cutToRing 70 = .ok (.aload_n 0, 1) := by decide +kernel
theorem dX2_cutToRing_71 : decode cX2_cutToRing 71 = .ok (.getfield 15, 3) := by decide +kernel
theorem dX2_cutToRing_74 : decode cX2_cutToRing 74 = .ok (.iload_n 3, 1) := by decide +kernel
theorem dX2_cutToRing_75 : decode cX2_cutToRing 75 = .ok (.aload_n 0, 1) := by decide +kernel
theorem dX2_cutToRing_76 : decode cX2_cutToRing 76 = .ok (.getfield 15, 3) := by decide +kernel
theorem dX2_cutToRing_79 : decode cX2_cutToRing 79 = .ok (.iload_n 3, 1) := by decide +kernel
theorem dX2_cutToRing_80 : decode cX2_cutToRing 80 = .ok (.iload_n 1, 1) := by decide +kernel
theorem dX2_cutToRing_81 : decode cX2_cutToRing 81 = .ok (.iadd, 1) := by decide +kernel
theorem dX2_cutToRing_82 : decode cX2_cutToRing 82 = .ok (.iaload, 1) := by decide +kernel
theorem dX2_cutToRing_83 : decode cX2_cutToRing 83 = .ok (.iastore, 1) := by decide +kernel
theorem dX2_cutToRing_84 : decode cX2_cutToRing 84 = .ok (.iinc 3 1, 3) := by decide +kernel
theorem dX2_cutToRing_87 : decode cX2_cutToRing 87 = .ok (.goto (-33), 3) := by decide +kernel
theorem dX2_cutToRing_90 : decode cX2_cutToRing 90 = .ok (.aload_n 0, 1) := by decide +kernel
theorem dX2_cutToRing_91 : decode cX2_cutToRing 91 = .ok (.iload_n 2, 1) := by decide +kernel
theorem dX2_cutToRing_92 : decode cX2_cutToRing 92 = .ok (.putfield 21, 3) := by decide +kernel
theorem dX2_cutToRing_95 : decode cX2_cutToRing 95 = .ok (.return_, 1) := by decide +kernel
theorem dX2_likeFrom_0 : decode cX2_likeFrom 0 = .ok (.iload_n 1, 1) := by decide +kernel
theorem dX2_likeFrom_1 : decode cX2_likeFrom 1 = .ok (.ifCond .ge 5, 3) := by decide +kernel
theorem dX2_likeFrom_4 : decode cX2_likeFrom 4 = .ok (.iconst 0, 1) := by decide +kernel
theorem dX2_likeFrom_5 : decode cX2_likeFrom 5 = .ok (.ireturn, 1) := by decide +kernel
theorem dX2_likeFrom_6 : decode cX2_likeFrom 6 = .ok (.aload_n 0, 1) := by decide +kernel
theorem dX2_likeFrom_7 : decode cX2_likeFrom 7 = .ok (.getfield 21, 3) := by decide +kernel
theorem dX2_likeFrom_10 : decode cX2_likeFrom 10 = .ok (.iload_n 1, 1) := by decide +kernel
theorem dX2_likeFrom_11 : decode cX2_likeFrom 11 = .ok (.isub, 1) := by decide +kernel
theorem dX2_likeFrom_12 : decode cX2_likeFrom 12 = .ok (.aload_n 2, 1) := by decide +kernel
theorem dX2_likeFrom_13 : decode cX2_likeFrom 13 = .ok (.getfield 21, 3) := by decide +kernel
theorem dX2_likeFrom_16 : decode cX2_likeFrom 16 = .ok (.invokestatic 32, 3) := by decide +kernel
theorem dX2_likeFrom_19 : decode cX2_likeFrom 19 = .ok (.istore_n 3, 1) := by decide +kernel
theorem dX2_likeFrom_20 : decode cX2_likeFrom 20 = .ok (.iconst 0, 1) := by decide +kernel
theorem dX2_likeFrom_21 : decode cX2_likeFrom 21 = .ok (.istore 4, 2) := by decide +kernel
theorem dX2_likeFrom_23 : decode cX2_likeFrom 23 = .ok (.iload 4, 2) := by decide +kernel
theorem dX2_likeFrom_25 : decode cX2_likeFrom 25 = .ok (.iload_n 3, 1) := by decide +kernel
theorem dX2_likeFrom_26 : decode cX2_likeFrom 26 = .ok (.if_icmp .ge 26, 3) := by decide +kernel
theorem dX2_likeFrom_29 : decode cX2_likeFrom 29 = .ok (.aload_n 0, 1) := by decide +kernel
theorem dX2_likeFrom_30 : decode cX2_likeFrom 30 = .ok (.iload_n 1, 1) := by decide +kernel
theorem dX2_likeFrom_31 : decode cX2_likeFrom 31 = .ok (.iload 4, 2) := by decide +kernel
theorem dX2_likeFrom_33 : decode cX2_likeFrom 33 = .ok (.iadd, 1) := by decide +kernel
theorem dX2_likeFrom_34 : decode cX2_likeFrom 34 = .ok (.invokevirtual 25, 3) := by decide +kernel
theorem dX2_likeFrom_37 : decode cX2_likeFrom 37 = .ok (.aload_n 2, 1) := by decide +kernel
theorem dX2_likeFrom_38 : decode cX2_likeFrom 38 = .ok (.iload 4, 2) := by decide +kernel
theorem dX2_likeFrom_40 : decode cX2_likeFrom 40 = .ok (.invokevirtual 25, 3) := by decide +kernel
theorem dX2_likeFrom_43 : decode cX2_likeFrom 43 = .ok (.if_icmp .ne 9, 3) := by decide +kernel
theorem dX2_likeFrom_46 : decode cX2_likeFrom 46 = .ok (.iinc 4 1, 3) := by decide +kernel
theorem dX2_likeFrom_49 : decode cX2_likeFrom 49 = .ok (.goto (-26), 3) := by decide +kernel
theorem dX2_likeFrom_52 : decode cX2_likeFrom 52 = .ok (.iload 4, 2) := by decide +kernel
theorem dX2_likeFrom_54 : decode cX2_likeFrom 54 = .ok (.ireturn, 1) := by decide +kernel
theorem dX2_surplusOf_0 : decode cX2_surplusOf 0 = .ok (.iconst 0, 1) := by decide +kernel
theorem dX2_surplusOf_1 : decode cX2_surplusOf 1 = .ok (.istore_n 2, 1) := by decide +kernel
theorem dX2_surplusOf_2 : decode cX2_surplusOf 2 = .ok (.iconst 0, 1) := by decide +kernel
theorem dX2_surplusOf_3 : decode cX2_surplusOf 3 = .ok (.istore_n 3, 1) := by decide +kernel
theorem dX2_surplusOf_4 : decode cX2_surplusOf 4 = .ok (.iload_n 3, 1) := by decide +kernel
theorem dX2_surplusOf_5 : decode cX2_surplusOf 5 = .ok (.aload_n 0, 1) := by decide +kernel
theorem dX2_surplusOf_6 : decode cX2_surplusOf 6 = .ok (.getfield 21, 3) := by decide +kernel
theorem dX2_surplusOf_9 : decode cX2_surplusOf 9 = .ok (.if_icmp .ge 39, 3) := by decide +kernel
theorem dX2_surplusOf_12 : decode cX2_surplusOf 12 = .ok (.aload_n 0, 1) := by decide +kernel
theorem dX2_surplusOf_13 : decode cX2_surplusOf 13 = .ok (.iload_n 3, 1) := by decide +kernel
theorem dX2_surplusOf_14 : decode cX2_surplusOf 14 = .ok (.invokevirtual 25, 3) := by decide +kernel
theorem dX2_surplusOf_17 : decode cX2_surplusOf 17 = .ok (.iload_n 1, 1) := by decide +kernel
theorem dX2_surplusOf_18 : decode cX2_surplusOf 18 = .ok (.if_icmp .ne 9, 3) := by decide +kernel
theorem dX2_surplusOf_21 : decode cX2_surplusOf 21 = .ok (.iinc 2 1, 3) := by decide +kernel
theorem dX2_surplusOf_24 : decode cX2_surplusOf 24 = .ok (.goto 18, 3) := by decide +kernel
theorem dX2_surplusOf_27 : decode cX2_surplusOf 27 = .ok (.aload_n 0, 1) := by decide +kernel
theorem dX2_surplusOf_28 : decode cX2_surplusOf 28 = .ok (.iload_n 3, 1) := by decide +kernel
theorem dX2_surplusOf_29 : decode cX2_surplusOf 29 = .ok (.invokevirtual 25, 3) := by decide +kernel
theorem dX2_surplusOf_32 : decode cX2_surplusOf 32 = .ok (.iload_n 1, 1) := by decide +kernel
theorem dX2_surplusOf_33 : decode cX2_surplusOf 33 = .ok (.invokestatic 29, 3) := by decide +kernel
theorem dX2_surplusOf_36 : decode cX2_surplusOf 36 = .ok (.if_icmp .ne 6, 3) := by decide +kernel
theorem dX2_surplusOf_39 : decode cX2_surplusOf 39 = .ok (.iinc 2 (-1), 3) := by decide +kernel
theorem dX2_surplusOf_42 : decode cX2_surplusOf 42 = .ok (.iinc 3 1, 3) := by decide +kernel
theorem dX2_surplusOf_45 : decode cX2_surplusOf 45 = .ok (.goto (-41), 3) := by decide +kernel
theorem dX2_surplusOf_48 : decode cX2_surplusOf 48 = .ok (.iload_n 2, 1) := by decide +kernel
theorem dX2_surplusOf_49 : decode cX2_surplusOf 49 = .ok (.ireturn, 1) := by decide +kernel
theorem dX4_init_0 : decode cX4_init 0 = .ok (.aload_n 0, 1) := by decide +kernel
theorem dX4_init_1 : decode cX4_init 1 = .ok (.invokespecial 3, 3) := by decide +kernel
theorem dX4_init_4 : decode cX4_init 4 = .ok (.aload_n 0, 1) := by decide +kernel
theorem dX4_init_5 : decode cX4_init 5 = .ok (.bipush 100, 2) := by decide +kernel
theorem dX4_init_7 : decode cX4_init 7 = .ok (.newarray .int, 2) := by decide +kernel
theorem dX4_init_9 : decode cX4_init 9 = .ok (.putfield 9, 3) := by decide +kernel
theorem dX4_init_12 : decode cX4_init 12 = .ok (.return_, 1) := by decide +kernel
theorem dX4_accept_0 : decode cX4_accept 0 = .ok (.aload_n 0, 1) := by decide +kernel
theorem dX4_accept_1 : decode cX4_accept 1 = .ok (.getfield 15, 3) := by decide +kernel
theorem dX4_accept_4 : decode cX4_accept 4 = .ok (.aload_n 0, 1) := by decide +kernel
theorem dX4_accept_5 : decode cX4_accept 5 = .ok (.getfield 9, 3) := by decide +kernel
theorem dX4_accept_8 : decode cX4_accept 8 = .ok (.arraylength, 1) := by decide +kernel
theorem dX4_accept_9 : decode cX4_accept 9 = .ok (.if_icmp .lt 5, 3) := by decide +kernel
theorem dX4_accept_12 : decode cX4_accept 12 = .ok (.iconst 0, 1) := by decide +kernel
theorem dX4_accept_13 : decode cX4_accept 13 = .ok (.ireturn, 1) := by decide +kernel
theorem dX4_accept_14 : decode cX4_accept 14 = .ok (.aload_n 0, 1) := by decide +kernel
theorem dX4_accept_15 : decode cX4_accept 15 = .ok (.getfield 9, 3) := by decide +kernel
theorem dX4_accept_18 : decode cX4_accept 18 = .ok (.aload_n 0, 1) := by decide +kernel
theorem dX4_accept_19 : decode cX4_accept 19 = .ok (.getfield 15, 3) := by decide +kernel
theorem dX4_accept_22 : decode cX4_accept 22 = .ok (.iload_n 1, 1) := by decide +kernel
theorem dX4_accept_23 : decode cX4_accept 23 = .ok (.iastore, 1) := by decide +kernel
theorem dX4_accept_24 : decode cX4_accept 24 = .ok (.aload_n 0, 1) := by decide +kernel
theorem dX4_accept_25 : decode cX4_accept 25 = .ok (.dup, 1) := by decide +kernel
theorem dX4_accept_26 : decode cX4_accept 26 = .ok (.getfield 15, 3) := by decide +kernel
theorem dX4_accept_29 : decode cX4_accept 29 = .ok (.iconst 1, 1) := by decide +kernel
theorem dX4_accept_30 : decode cX4_accept 30 = .ok (.iadd, 1) := by decide +kernel
theorem dX4_accept_31 : decode cX4_accept 31 = .ok (.putfield 15, 3) := by decide +kernel
theorem dX4_accept_34 : decode cX4_accept 34 = .ok (.iconst 1, 1) := by decide +kernel
theorem dX4_accept_35 : decode cX4_accept 35 = .ok (.ireturn, 1) := by decide +kernel
theorem dX4_byteAt_0 : decode cX4_byteAt 0 = .ok (.iload_n 1, 1) := by decide +kernel
theorem dX4_byteAt_1 : decode cX4_byteAt 1 = .ok (.ifCond .lt 29, 3) := by decide +kernel
theorem dX4_byteAt_4 : decode cX4_byteAt 4 = .ok (.iload_n 1, 1) := by decide +kernel
theorem dX4_byteAt_5 : decode cX4_byteAt 5 = .ok (.aload_n 0, 1) := by decide +kernel
theorem dX4_byteAt_6 : decode cX4_byteAt 6 = .ok (.getfield 15, 3) := by decide +kernel
theorem dX4_byteAt_9 : decode cX4_byteAt 9 = .ok (.if_icmp .ge 21, 3) := by decide +kernel
theorem dX4_byteAt_12 : decode cX4_byteAt 12 = .ok (.iload_n 1, 1) := by decide +kernel
theorem dX4_byteAt_13 : decode cX4_byteAt 13 = .ok (.aload_n 0, 1) := by decide +kernel
theorem dX4_byteAt_14 : decode cX4_byteAt 14 = .ok (.getfield 9, 3) := by decide +kernel
theorem dX4_byteAt_17 : decode cX4_byteAt 17 = .ok (.arraylength, 1) := by decide +kernel
theorem dX4_byteAt_18 : decode cX4_byteAt 18 = .ok (.if_icmp .ge 12, 3) := by decide +kernel
theorem dX4_byteAt_21 : decode cX4_byteAt 21 = .ok (.aload_n 0, 1) := by decide +kernel
theorem dX4_byteAt_22 : decode cX4_byteAt 22 = .ok (.getfield 9, 3) := by decide +kernel
theorem dX4_byteAt_25 : decode cX4_byteAt 25 = .ok (.iload_n 1, 1) := by decide +kernel
theorem dX4_byteAt_26 : decode cX4_byteAt 26 = .ok (.iaload, 1) := by decide +kernel
theorem dX4_byteAt_27 : decode cX4_byteAt 27 = .ok (.goto 4, 3) := by decide +kernel
theorem dX4_byteAt_30 : decode cX4_byteAt 30 = .ok (.iconst (-1), 1) := by decide +kernel
theorem dX4_byteAt_31 : decode cX4_byteAt 31 = .ok (.ireturn, 1) := by decide +kernel
theorem dX4_wrongPlace_0 : decode cX4_wrongPlace 0 = .ok (.aload_n 0, 1) := by decide +kernel
theorem dX4_wrongPlace_1 : decode cX4_wrongPlace 1 = .ok (.iconst 0, 1) := by decide +kernel
theorem dX4_wrongPlace_2 : decode cX4_wrongPlace 2 = .ok (.putfield 19, 3) := by decide +kernel
theorem dX4_wrongPlace_5 : decode cX4_wrongPlace 5 = .ok (.aload_n 0, 1) := by decide +kernel
theorem dX4_wrongPlace_6 : decode cX4_wrongPlace 6 = .ok (.iconst 0, 1) := by decide +kernel
theorem dX4_wrongPlace_7 : decode cX4_wrongPlace 7 = .ok (.putfield 22, 3) := by decide +kernel
theorem dX4_wrongPlace_10 : decode cX4_wrongPlace 10 = .ok (.aload_n 0, 1) := by decide +kernel
theorem dX4_wrongPlace_11 : decode cX4_wrongPlace 11 = .ok (.iconst 0, 1) := by decide +kernel
theorem dX4_wrongPlace_12 : decode cX4_wrongPlace 12 = .ok (.putfield 26, 3) := by decide +kernel
theorem dX4_wrongPlace_15 : decode cX4_wrongPlace 15 = .ok (.aload_n 0, 1) := by decide +kernel
theorem dX4_wrongPlace_16 : decode cX4_wrongPlace 16 = .ok (.iconst 0, 1) := by decide +kernel
theorem dX4_wrongPlace_17 : decode cX4_wrongPlace 17 = .ok (.putfield 29, 3) := by decide +kernel
theorem dX4_wrongPlace_20 : decode cX4_wrongPlace 20 = .ok (.iconst 0, 1) := by decide +kernel
theorem dX4_wrongPlace_21 : decode cX4_wrongPlace 21 = .ok (.istore_n 1, 1) := by decide +kernel
theorem dX4_wrongPlace_22 : decode cX4_wrongPlace 22 = .ok (.iload_n 1, 1) := by decide +kernel
theorem dX4_wrongPlace_23 : decode cX4_wrongPlace 23 = .ok (.aload_n 0, 1) := by decide +kernel
theorem dX4_wrongPlace_24 : decode cX4_wrongPlace 24 = .ok (.getfield 15, 3) := by decide +kernel
theorem dX4_wrongPlace_27 : decode cX4_wrongPlace 27 = .ok (.if_icmp .ge 23, 3) := by decide +kernel
theorem dX4_wrongPlace_30 : decode cX4_wrongPlace 30 = .ok (.aload_n 0, 1) := by decide +kernel
theorem dX4_wrongPlace_31 : decode cX4_wrongPlace 31 = .ok (.aload_n 0, 1) := by decide +kernel
theorem dX4_wrongPlace_32 : decode cX4_wrongPlace 32 = .ok (.iload_n 1, 1) := by decide +kernel
theorem dX4_wrongPlace_33 : decode cX4_wrongPlace 33 = .ok (.invokevirtual 32, 3) := by decide +kernel
theorem dX4_wrongPlace_36 : decode cX4_wrongPlace 36 = .ok (.invokevirtual 36, 3) := by decide +kernel
theorem dX4_wrongPlace_39 : decode cX4_wrongPlace 39 = .ok (.ifCond .ne 5, 3) := by decide +kernel
theorem dX4_wrongPlace_42 : decode cX4_wrongPlace 42 = .ok (.iload_n 1, 1) := by decide +kernel
theorem dX4_wrongPlace_43 : decode cX4_wrongPlace 43 = .ok (.ireturn, 1) := by decide +kernel
theorem dX4_wrongPlace_44 : decode cX4_wrongPlace 44 = .ok (.iinc 1 1, 3) := by decide +kernel
theorem dX4_wrongPlace_47 : decode cX4_wrongPlace 47 = .ok (.goto (-25), 3) := by decide +kernel
theorem dX4_wrongPlace_50 : decode cX4_wrongPlace 50 = .ok (.aload_n 0, 1) := by decide +kernel
theorem dX4_wrongPlace_51 : decode cX4_wrongPlace 51 = .ok (.getfield 29, 3) := by decide +kernel
theorem dX4_wrongPlace_54 : decode cX4_wrongPlace 54 = .ok (.ifCond .eq 21, 3) := by decide +kernel
theorem dX4_wrongPlace_57 : decode cX4_wrongPlace 57 = .ok (.aload_n 0, 1) := by decide +kernel
theorem dX4_wrongPlace_58 : decode cX4_wrongPlace 58 = .ok (.getfield 19, 3) := by decide +kernel
theorem dX4_wrongPlace_61 : decode cX4_wrongPlace 61 = .ok (.ifCond .ne 14, 3) := by decide +kernel
theorem dX4_wrongPlace_64 : decode cX4_wrongPlace 64 = .ok (.aload_n 0, 1) := by decide +kernel
theorem dX4_wrongPlace_65 : decode cX4_wrongPlace 65 = .ok (.getfield 22, 3) := by decide +kernel
theorem dX4_wrongPlace_68 : decode cX4_wrongPlace 68 = .ok (.ifCond .ne 7, 3) := by decide +kernel
theorem dX4_wrongPlace_71 : decode cX4_wrongPlace 71 = .ok (.iconst (-1), 1) := by decide +kernel
theorem dX4_wrongPlace_72 : decode cX4_wrongPlace 72 = .ok (.goto 7, 3) := by decide +kernel
theorem dX4_wrongPlace_75 : decode cX4_wrongPlace 75 = .ok (.aload_n 0, 1) := by decide +kernel
theorem dX4_wrongPlace_76 : decode cX4_wrongPlace 76 = .ok (.getfield 15, 3) := by decide +kernel
theorem dX4_wrongPlace_79 : decode cX4_wrongPlace 79 = .ok (.ireturn, 1) := by decide +kernel
theorem dX4_standsNext_0 : decode cX4_standsNext 0 = .ok (.aload_n 0, 1) := by decide +kernel
theorem dX4_standsNext_1 : decode cX4_standsNext 1 = .ok (.getfield 26, 3) := by decide +kernel
theorem dX4_standsNext_4 : decode cX4_standsNext 4 = .ok (.istore_n 2, 1) := by decide +kernel
theorem dX4_standsNext_5 : decode cX4_standsNext 5 = .ok (.aload_n 0, 1) := by decide +kernel
theorem dX4_standsNext_6 : decode cX4_standsNext 6 = .ok (.iconst 0, 1) := by decide +kernel
theorem dX4_standsNext_7 : decode cX4_standsNext 7 = .ok (.putfield 26, 3) := by decide +kernel
theorem dX4_standsNext_10 : decode cX4_standsNext 10 = .ok (.iload_n 1, 1) := by decide +kernel
theorem dX4_standsNext_11 : decode cX4_standsNext 11 = .ok (.bipush 32, 2) := by decide +kernel
theorem dX4_standsNext_13 : decode cX4_standsNext 13 = .ok (.if_icmp .ne 5, 3) := by decide +kernel
theorem dX4_standsNext_16 : decode cX4_standsNext 16 = .ok (.iconst 1, 1) := by decide +kernel
theorem dX4_standsNext_17 : decode cX4_standsNext 17 = .ok (.ireturn, 1) := by decide +kernel
theorem dX4_standsNext_18 : decode cX4_standsNext 18 = .ok (.iload_n 1, 1) := by decide +kernel
theorem dX4_standsNext_19 : decode cX4_standsNext 19 = .ok (.invokestatic 40, 3) := by decide +kernel
theorem dX4_standsNext_22 : decode cX4_standsNext 22 = .ok (.iconst (-1), 1) := by decide +kernel
theorem dX4_standsNext_23 : decode cX4_standsNext 23 = .ok (.if_icmp .eq 5, 3) := by decide +kernel
theorem dX4_standsNext_26 : decode cX4_standsNext 26 = .ok (.iload_n 2, 1) := by decide +kernel
theorem dX4_standsNext_27 : decode cX4_standsNext 27 = .ok (.ireturn, 1) := by decide +kernel
theorem dX4_standsNext_28 : decode cX4_standsNext 28 = .ok (.iload_n 1, 1) := by decide +kernel
theorem dX4_standsNext_29 : decode cX4_standsNext 29 = .ok (.invokestatic 43, 3) := by decide +kernel
theorem dX4_standsNext_32 : decode cX4_standsNext 32 = .ok (.iconst (-1), 1) := by decide +kernel
theorem dX4_standsNext_33 : decode cX4_standsNext 33 = .ok (.if_icmp .eq 8, 3) := by decide +kernel
theorem dX4_standsNext_36 : decode cX4_standsNext 36 = .ok (.aload_n 0, 1) := by decide +kernel
theorem dX4_standsNext_37 : decode cX4_standsNext 37 = .ok (.invokevirtual 46, 3) := by decide +kernel
theorem dX4_standsNext_40 : decode cX4_standsNext 40 = .ok (.ireturn, 1) := by decide +kernel
theorem dX4_standsNext_41 : decode cX4_standsNext 41 = .ok (.iload_n 1, 1) := by decide +kernel
theorem dX4_standsNext_42 : decode cX4_standsNext 42 = .ok (.lookupswitch 49 #[(40, 34), (41, 39), (59, 44)], 34) := by decide +kernel
theorem dX4_standsNext_76 : decode cX4_standsNext 76 = .ok (.aload_n 0, 1) := by decide +kernel
theorem dX4_standsNext_77 : decode cX4_standsNext 77 = .ok (.invokevirtual 50, 3) := by decide +kernel
theorem dX4_standsNext_80 : decode cX4_standsNext 80 = .ok (.ireturn, 1) := by decide +kernel
theorem dX4_standsNext_81 : decode cX4_standsNext 81 = .ok (.aload_n 0, 1) := by decide +kernel
theorem dX4_standsNext_82 : decode cX4_standsNext 82 = .ok (.invokevirtual 53, 3) := by decide +kernel
theorem dX4_standsNext_85 : decode cX4_standsNext 85 = .ok (.ireturn, 1) := by decide +kernel
theorem dX4_standsNext_86 : decode cX4_standsNext 86 = .ok (.aload_n 0, 1) := by decide +kernel
theorem dX4_standsNext_87 : decode cX4_standsNext 87 = .ok (.invokevirtual 56, 3) := by decide +kernel
theorem dX4_standsNext_90 : decode cX4_standsNext 90 = .ok (.ireturn, 1) := by decide +kernel
theorem dX4_standsNext_91 : decode cX4_standsNext 91 = .ok (.iconst 0, 1) := by decide +kernel
theorem dX4_standsNext_92 : decode cX4_standsNext 92 = .ok (.ireturn, 1) := by decide +kernel
theorem dX4_factorEnds_0 : decode cX4_factorEnds 0 = .ok (.aload_n 0, 1) := by decide +kernel
theorem dX4_factorEnds_1 : decode cX4_factorEnds 1 = .ok (.iconst 1, 1) := by decide +kernel
theorem dX4_factorEnds_2 : decode cX4_factorEnds 2 = .ok (.putfield 22, 3) := by decide +kernel
theorem dX4_factorEnds_5 : decode cX4_factorEnds 5 = .ok (.aload_n 0, 1) := by decide +kernel
theorem dX4_factorEnds_6 : decode cX4_factorEnds 6 = .ok (.iconst 1, 1) := by decide +kernel
theorem dX4_factorEnds_7 : decode cX4_factorEnds 7 = .ok (.putfield 26, 3) := by decide +kernel
theorem dX4_factorEnds_10 : decode cX4_factorEnds 10 = .ok (.iconst 1, 1) := by decide +kernel
theorem dX4_factorEnds_11 : decode cX4_factorEnds 11 = .ok (.ireturn, 1) := by decide +kernel
theorem dX4_bracketOpens_0 : decode cX4_bracketOpens 0 = .ok (.aload_n 0, 1) := by decide +kernel
theorem dX4_bracketOpens_1 : decode cX4_bracketOpens 1 = .ok (.getfield 19, 3) := by decide +kernel
theorem dX4_bracketOpens_4 : decode cX4_bracketOpens 4 = .ok (.iconst 4, 1) := by decide +kernel
theorem dX4_bracketOpens_5 : decode cX4_bracketOpens 5 = .ok (.if_icmp .lt 5, 3) := by decide +kernel
theorem dX4_bracketOpens_8 : decode cX4_bracketOpens 8 = .ok (.iconst 0, 1) := by decide +kernel
theorem dX4_bracketOpens_9 : decode cX4_bracketOpens 9 = .ok (.ireturn, 1) := by decide +kernel
theorem dX4_bracketOpens_10 : decode cX4_bracketOpens 10 = .ok (.aload_n 0, 1) := by decide +kernel
theorem dX4_bracketOpens_11 : decode cX4_bracketOpens 11 = .ok (.dup, 1) := by decide +kernel
theorem dX4_bracketOpens_12 : decode cX4_bracketOpens 12 = .ok (.getfield 19, 3) := by decide +kernel
theorem dX4_bracketOpens_15 : decode cX4_bracketOpens 15 = .ok (.iconst 1, 1) := by decide +kernel
theorem dX4_bracketOpens_16 : decode cX4_bracketOpens 16 = .ok (.iadd, 1) := by decide +kernel
theorem dX4_bracketOpens_17 : decode cX4_bracketOpens 17 = .ok (.putfield 19, 3) := by decide +kernel
theorem dX4_bracketOpens_20 : decode cX4_bracketOpens 20 = .ok (.aload_n 0, 1) := by decide +kernel
theorem dX4_bracketOpens_21 : decode cX4_bracketOpens 21 = .ok (.iconst 0, 1) := by decide +kernel
theorem dX4_bracketOpens_22 : decode cX4_bracketOpens 22 = .ok (.putfield 22, 3) := by decide +kernel
theorem dX4_bracketOpens_25 : decode cX4_bracketOpens 25 = .ok (.iconst 1, 1) := by decide +kernel
theorem dX4_bracketOpens_26 : decode cX4_bracketOpens 26 = .ok (.ireturn, 1) := by decide +kernel
theorem dX4_bracketCloses_0 : decode cX4_bracketCloses 0 = .ok (.aload_n 0, 1) := by decide +kernel
theorem dX4_bracketCloses_1 : decode cX4_bracketCloses 1 = .ok (.getfield 19, 3) := by decide +kernel
theorem dX4_bracketCloses_4 : decode cX4_bracketCloses 4 = .ok (.ifCond .eq 10, 3) := by decide +kernel
theorem dX4_bracketCloses_7 : decode cX4_bracketCloses 7 = .ok (.aload_n 0, 1) := by decide +kernel
theorem dX4_bracketCloses_8 : decode cX4_bracketCloses 8 = .ok (.getfield 22, 3) := by decide +kernel
theorem dX4_bracketCloses_11 : decode cX4_bracketCloses 11 = .ok (.ifCond .ne 5, 3) := by decide +kernel
theorem dX4_bracketCloses_14 : decode cX4_bracketCloses 14 = .ok (.iconst 0, 1) := by decide +kernel
theorem dX4_bracketCloses_15 : decode cX4_bracketCloses 15 = .ok (.ireturn, 1) := by decide +kernel
theorem dX4_bracketCloses_16 : decode cX4_bracketCloses 16 = .ok (.aload_n 0, 1) := by decide +kernel
theorem dX4_bracketCloses_17 : decode cX4_bracketCloses 17 = .ok (.dup, 1) := by decide +kernel
theorem dX4_bracketCloses_18 : decode cX4_bracketCloses 18 = .ok (.getfield 19, 3) := by decide +kernel
theorem dX4_bracketCloses_21 : decode cX4_bracketCloses 21 = .ok (.iconst 1, 1) := by decide +kernel
theorem dX4_bracketCloses_22 : decode cX4_bracketCloses 22 = .ok (.isub, 1) := by decide +kernel
theorem dX4_bracketCloses_23 : decode cX4_bracketCloses 23 = .ok (.putfield 19, 3) := by decide +kernel
theorem dX4_bracketCloses_26 : decode cX4_bracketCloses 26 = .ok (.aload_n 0, 1) := by decide +kernel
theorem dX4_bracketCloses_27 : decode cX4_bracketCloses 27 = .ok (.invokevirtual 46, 3) := by decide +kernel
theorem dX4_bracketCloses_30 : decode cX4_bracketCloses 30 = .ok (.ireturn, 1) := by decide +kernel
theorem dX4_wordEnds_0 : decode cX4_wordEnds 0 = .ok (.aload_n 0, 1) := by decide +kernel
theorem dX4_wordEnds_1 : decode cX4_wordEnds 1 = .ok (.getfield 19, 3) := by decide +kernel
theorem dX4_wordEnds_4 : decode cX4_wordEnds 4 = .ok (.ifCond .gt 10, 3) := by decide +kernel
theorem dX4_wordEnds_7 : decode cX4_wordEnds 7 = .ok (.aload_n 0, 1) := by decide +kernel
theorem dX4_wordEnds_8 : decode cX4_wordEnds 8 = .ok (.getfield 22, 3) := by decide +kernel
theorem dX4_wordEnds_11 : decode cX4_wordEnds 11 = .ok (.ifCond .ne 5, 3) := by decide +kernel
theorem dX4_wordEnds_14 : decode cX4_wordEnds 14 = .ok (.iconst 0, 1) := by decide +kernel
theorem dX4_wordEnds_15 : decode cX4_wordEnds 15 = .ok (.ireturn, 1) := by decide +kernel
theorem dX4_wordEnds_16 : decode cX4_wordEnds 16 = .ok (.aload_n 0, 1) := by decide +kernel
theorem dX4_wordEnds_17 : decode cX4_wordEnds 17 = .ok (.iconst 0, 1) := by decide +kernel
theorem dX4_wordEnds_18 : decode cX4_wordEnds 18 = .ok (.putfield 22, 3) := by decide +kernel
theorem dX4_wordEnds_21 : decode cX4_wordEnds 21 = .ok (.aload_n 0, 1) := by decide +kernel
theorem dX4_wordEnds_22 : decode cX4_wordEnds 22 = .ok (.iconst 1, 1) := by decide +kernel
theorem dX4_wordEnds_23 : decode cX4_wordEnds 23 = .ok (.putfield 29, 3) := by decide +kernel
theorem dX4_wordEnds_26 : decode cX4_wordEnds 26 = .ok (.iconst 1, 1) := by decide +kernel
theorem dX4_wordEnds_27 : decode cX4_wordEnds 27 = .ok (.ireturn, 1) := by decide +kernel
theorem dX4_letterFor_0 : decode cX4_letterFor 0 = .ok (.iload_n 0, 1) := by decide +kernel
theorem dX4_letterFor_1 : decode cX4_letterFor 1 = .ok (.bipush 97, 2) := by decide +kernel
theorem dX4_letterFor_3 : decode cX4_letterFor 3 = .ok (.if_icmp .lt 14, 3) := by decide +kernel
theorem dX4_letterFor_6 : decode cX4_letterFor 6 = .ok (.iload_n 0, 1) := by decide +kernel
theorem dX4_letterFor_7 : decode cX4_letterFor 7 = .ok (.bipush 100, 2) := by decide +kernel
theorem dX4_letterFor_9 : decode cX4_letterFor 9 = .ok (.if_icmp .gt 8, 3) := by decide +kernel
theorem dX4_letterFor_12 : decode cX4_letterFor 12 = .ok (.iload_n 0, 1) := by decide +kernel
theorem dX4_letterFor_13 : decode cX4_letterFor 13 = .ok (.bipush 97, 2) := by decide +kernel
theorem dX4_letterFor_15 : decode cX4_letterFor 15 = .ok (.isub, 1) := by decide +kernel
theorem dX4_letterFor_16 : decode cX4_letterFor 16 = .ok (.ireturn, 1) := by decide +kernel
theorem dX4_letterFor_17 : decode cX4_letterFor 17 = .ok (.iload_n 0, 1) := by decide +kernel
theorem dX4_letterFor_18 : decode cX4_letterFor 18 = .ok (.bipush 65, 2) := by decide +kernel
theorem dX4_letterFor_20 : decode cX4_letterFor 20 = .ok (.if_icmp .lt 18, 3) := by decide +kernel
theorem dX4_letterFor_23 : decode cX4_letterFor 23 = .ok (.iload_n 0, 1) := by decide +kernel
theorem dX4_letterFor_24 : decode cX4_letterFor 24 = .ok (.bipush 68, 2) := by decide +kernel
theorem dX4_letterFor_26 : decode cX4_letterFor 26 = .ok (.if_icmp .gt 12, 3) := by decide +kernel
theorem dX4_letterFor_29 : decode cX4_letterFor 29 = .ok (.iload_n 0, 1) := by decide +kernel
theorem dX4_letterFor_30 : decode cX4_letterFor 30 = .ok (.bipush 65, 2) := by decide +kernel
theorem dX4_letterFor_32 : decode cX4_letterFor 32 = .ok (.isub, 1) := by decide +kernel
theorem dX4_letterFor_33 : decode cX4_letterFor 33 = .ok (.iconst 4, 1) := by decide +kernel
theorem dX4_letterFor_34 : decode cX4_letterFor 34 = .ok (.iadd, 1) := by decide +kernel
theorem dX4_letterFor_35 : decode cX4_letterFor 35 = .ok (.goto 4, 3) := by decide +kernel
theorem dX4_letterFor_38 : decode cX4_letterFor 38 = .ok (.iconst (-1), 1) := by decide +kernel
theorem dX4_letterFor_39 : decode cX4_letterFor 39 = .ok (.ireturn, 1) := by decide +kernel
theorem dX4_figureFor_0 : decode cX4_figureFor 0 = .ok (.iload_n 0, 1) := by decide +kernel
theorem dX4_figureFor_1 : decode cX4_figureFor 1 = .ok (.bipush 49, 2) := by decide +kernel
theorem dX4_figureFor_3 : decode cX4_figureFor 3 = .ok (.if_icmp .lt 16, 3) := by decide +kernel
theorem dX4_figureFor_6 : decode cX4_figureFor 6 = .ok (.iload_n 0, 1) := by decide +kernel
theorem dX4_figureFor_7 : decode cX4_figureFor 7 = .ok (.bipush 57, 2) := by decide +kernel
theorem dX4_figureFor_9 : decode cX4_figureFor 9 = .ok (.if_icmp .gt 10, 3) := by decide +kernel
theorem dX4_figureFor_12 : decode cX4_figureFor 12 = .ok (.iload_n 0, 1) := by decide +kernel
theorem dX4_figureFor_13 : decode cX4_figureFor 13 = .ok (.bipush 48, 2) := by decide +kernel
theorem dX4_figureFor_15 : decode cX4_figureFor 15 = .ok (.isub, 1) := by decide +kernel
theorem dX4_figureFor_16 : decode cX4_figureFor 16 = .ok (.goto 4, 3) := by decide +kernel
theorem dX4_figureFor_19 : decode cX4_figureFor 19 = .ok (.iconst (-1), 1) := by decide +kernel
theorem dX4_figureFor_20 : decode cX4_figureFor 20 = .ok (.ireturn, 1) := by decide +kernel
theorem dX3_init_0 : decode cX3_init 0 = .ok (.aload_n 0, 1) := by decide +kernel
theorem dX3_init_1 : decode cX3_init 1 = .ok (.invokespecial 3, 3) := by decide +kernel
theorem dX3_init_4 : decode cX3_init 4 = .ok (.aload_n 0, 1) := by decide +kernel
theorem dX3_init_5 : decode cX3_init 5 = .ok (.new 9, 3) := by decide +kernel
theorem dX3_init_8 : decode cX3_init 8 = .ok (.dup, 1) := by decide +kernel
theorem dX3_init_9 : decode cX3_init 9 = .ok (.bipush 60, 2) := by decide +kernel
theorem dX3_init_11 : decode cX3_init 11 = .ok (.invokespecial 11, 3) := by decide +kernel
theorem dX3_init_14 : decode cX3_init 14 = .ok (.putfield 14, 3) := by decide +kernel
theorem dX3_init_17 : decode cX3_init 17 = .ok (.aload_n 0, 1) := by decide +kernel
theorem dX3_init_18 : decode cX3_init 18 = .ok (.iconst 0, 1) := by decide +kernel
theorem dX3_init_19 : decode cX3_init 19 = .ok (.putfield 20, 3) := by decide +kernel
theorem dX3_init_22 : decode cX3_init 22 = .ok (.aload_n 0, 1) := by decide +kernel
theorem dX3_init_23 : decode cX3_init 23 = .ok (.aload_n 1, 1) := by decide +kernel
theorem dX3_init_24 : decode cX3_init 24 = .ok (.putfield 24, 3) := by decide +kernel
theorem dX3_init_27 : decode cX3_init 27 = .ok (.return_, 1) := by decide +kernel
theorem dX3_seek_0 : decode cX3_seek 0 = .ok (.iconst 0, 1) := by decide +kernel
theorem dX3_seek_1 : decode cX3_seek 1 = .ok (.istore_n 2, 1) := by decide +kernel
theorem dX3_seek_2 : decode cX3_seek 2 = .ok (.iconst 0, 1) := by decide +kernel
theorem dX3_seek_3 : decode cX3_seek 3 = .ok (.istore_n 3, 1) := by decide +kernel
theorem dX3_seek_4 : decode cX3_seek 4 = .ok (.iload_n 3, 1) := by decide +kernel
theorem dX3_seek_5 : decode cX3_seek 5 = .ok (.aload_n 1, 1) := by decide +kernel
theorem dX3_seek_6 : decode cX3_seek 6 = .ok (.getfield 28, 3) := by decide +kernel
theorem dX3_seek_9 : decode cX3_seek 9 = .ok (.if_icmp .ge 136, 3) := by decide +kernel
theorem dX3_seek_12 : decode cX3_seek 12 = .ok (.iconst 2, 1) := by decide +kernel
theorem dX3_seek_13 : decode cX3_seek 13 = .ok (.aload_n 1, 1) := by decide +kernel
theorem dX3_seek_14 : decode cX3_seek 14 = .ok (.getfield 28, 3) := by decide +kernel
theorem dX3_seek_17 : decode cX3_seek 17 = .ok (.iload_n 3, 1) := by decide +kernel
theorem dX3_seek_18 : decode cX3_seek 18 = .ok (.isub, 1) := by decide +kernel
theorem dX3_seek_19 : decode cX3_seek 19 = .ok (.imul, 1) := by decide +kernel
theorem dX3_seek_20 : decode cX3_seek 20 = .ok (.aload_n 0, 1) := by decide +kernel
theorem dX3_seek_21 : decode cX3_seek 21 = .ok (.getfield 24, 3) := by decide +kernel
theorem dX3_seek_24 : decode cX3_seek 24 = .ok (.getfield 31, 3) := by decide +kernel
theorem dX3_seek_27 : decode cX3_seek 27 = .ok (.if_icmp .le 118, 3) := by decide +kernel
theorem dX3_seek_30 : decode cX3_seek 30 = .ok (.aload_n 1, 1) := by decide +kernel
theorem dX3_seek_31 : decode cX3_seek 31 = .ok (.iload_n 3, 1) := by decide +kernel
theorem dX3_seek_32 : decode cX3_seek 32 = .ok (.invokevirtual 36, 3) := by decide +kernel
theorem dX3_seek_35 : decode cX3_seek 35 = .ok (.istore 4, 2) := by decide +kernel
theorem dX3_seek_37 : decode cX3_seek 37 = .ok (.aload_n 0, 1) := by decide +kernel
theorem dX3_seek_38 : decode cX3_seek 38 = .ok (.getfield 24, 3) := by decide +kernel
theorem dX3_seek_41 : decode cX3_seek 41 = .ok (.iload 4, 2) := by decide +kernel
theorem dX3_seek_43 : decode cX3_seek 43 = .ok (.invokevirtual 40, 3) := by decide +kernel
theorem dX3_seek_46 : decode cX3_seek 46 = .ok (.istore 5, 2) := by decide +kernel
theorem dX3_seek_48 : decode cX3_seek 48 = .ok (.iconst 0, 1) := by decide +kernel
theorem dX3_seek_49 : decode cX3_seek 49 = .ok (.istore 6, 2) := by decide +kernel
theorem dX3_seek_51 : decode cX3_seek 51 = .ok (.iload 6, 2) := by decide +kernel
theorem dX3_seek_53 : decode cX3_seek 53 = .ok (.iload 5, 2) := by decide +kernel
theorem dX3_seek_55 : decode cX3_seek 55 = .ok (.if_icmp .ge 84, 3) := by decide +kernel
theorem dX3_seek_58 : decode cX3_seek 58 = .ok (.aload_n 0, 1) := by decide +kernel
theorem dX3_seek_59 : decode cX3_seek 59 = .ok (.getfield 24, 3) := by decide +kernel
theorem dX3_seek_62 : decode cX3_seek 62 = .ok (.iload 4, 2) := by decide +kernel
theorem dX3_seek_64 : decode cX3_seek 64 = .ok (.iload 6, 2) := by decide +kernel
theorem dX3_seek_66 : decode cX3_seek 66 = .ok (.invokevirtual 43, 3) := by decide +kernel
theorem dX3_seek_69 : decode cX3_seek 69 = .ok (.istore 7, 2) := by decide +kernel
theorem dX3_seek_71 : decode cX3_seek 71 = .ok (.aload_n 0, 1) := by decide +kernel
theorem dX3_seek_72 : decode cX3_seek 72 = .ok (.getfield 24, 3) := by decide +kernel
theorem dX3_seek_75 : decode cX3_seek 75 = .ok (.aload_n 1, 1) := by decide +kernel
theorem dX3_seek_76 : decode cX3_seek 76 = .ok (.iload_n 3, 1) := by decide +kernel
theorem dX3_seek_77 : decode cX3_seek 77 = .ok (.iload 7, 2) := by decide +kernel
theorem dX3_seek_79 : decode cX3_seek 79 = .ok (.invokevirtual 47, 3) := by decide +kernel
theorem dX3_seek_82 : decode cX3_seek 82 = .ok (.istore 8, 2) := by decide +kernel
theorem dX3_seek_84 : decode cX3_seek 84 = .ok (.iconst 2, 1) := by decide +kernel
theorem dX3_seek_85 : decode cX3_seek 85 = .ok (.iload 8, 2) := by decide +kernel
theorem dX3_seek_87 : decode cX3_seek 87 = .ok (.imul, 1) := by decide +kernel
theorem dX3_seek_88 : decode cX3_seek 88 = .ok (.aload_n 0, 1) := by decide +kernel
theorem dX3_seek_89 : decode cX3_seek 89 = .ok (.getfield 24, 3) := by decide +kernel
theorem dX3_seek_92 : decode cX3_seek 92 = .ok (.iload 7, 2) := by decide +kernel
theorem dX3_seek_94 : decode cX3_seek 94 = .ok (.invokevirtual 51, 3) := by decide +kernel
theorem dX3_seek_97 : decode cX3_seek 97 = .ok (.isub, 1) := by decide +kernel
theorem dX3_seek_98 : decode cX3_seek 98 = .ok (.istore 9, 2) := by decide +kernel
theorem dX3_seek_100 : decode cX3_seek 100 = .ok (.iload 9, 2) := by decide +kernel
theorem dX3_seek_102 : decode cX3_seek 102 = .ok (.ifCond .le 31, 3) := by decide +kernel
theorem dX3_seek_105 : decode cX3_seek 105 = .ok (.iload_n 2, 1) := by decide +kernel
theorem dX3_seek_106 : decode cX3_seek 106 = .ok (.ifCond .eq 15, 3) := by decide +kernel
theorem dX3_seek_109 : decode cX3_seek 109 = .ok (.aload_n 0, 1) := by decide +kernel
theorem dX3_seek_110 : decode cX3_seek 110 = .ok (.iload_n 3, 1) := by decide +kernel
theorem dX3_seek_111 : decode cX3_seek 111 = .ok (.iload 8, 2) := by decide +kernel
theorem dX3_seek_113 : decode cX3_seek 113 = .ok (.iload 9, 2) := by decide +kernel
theorem dX3_seek_115 : decode cX3_seek 115 = .ok (.invokevirtual 54, 3) := by decide +kernel
theorem dX3_seek_118 : decode cX3_seek 118 = .ok (.ifCond .eq 12, 3) := by decide +kernel
theorem dX3_seek_121 : decode cX3_seek 121 = .ok (.aload_n 0, 1) := by decide +kernel
theorem dX3_seek_122 : decode cX3_seek 122 = .ok (.iload_n 3, 1) := by decide +kernel
theorem dX3_seek_123 : decode cX3_seek 123 = .ok (.iload 7, 2) := by decide +kernel
theorem dX3_seek_125 : decode cX3_seek 125 = .ok (.iload 8, 2) := by decide +kernel
theorem dX3_seek_127 : decode cX3_seek 127 = .ok (.invokevirtual 58, 3) := by decide +kernel
theorem dX3_seek_130 : decode cX3_seek 130 = .ok (.iinc 2 1, 3) := by decide +kernel
theorem dX3_seek_133 : decode cX3_seek 133 = .ok (.iinc 6 1, 3) := by decide +kernel
theorem dX3_seek_136 : decode cX3_seek 136 = .ok (.goto (-85), 3) := by decide +kernel
theorem dX3_seek_139 : decode cX3_seek 139 = .ok (.iinc 3 1, 3) := by decide +kernel
theorem dX3_seek_142 : decode cX3_seek 142 = .ok (.goto (-138), 3) := by decide +kernel
theorem dX3_seek_145 : decode cX3_seek 145 = .ok (.iload_n 2, 1) := by decide +kernel
theorem dX3_seek_146 : decode cX3_seek 146 = .ok (.ireturn, 1) := by decide +kernel
theorem dX3_isBetter_0 : decode cX3_isBetter 0 = .ok (.aload_n 0, 1) := by decide +kernel
theorem dX3_isBetter_1 : decode cX3_isBetter 1 = .ok (.getfield 20, 3) := by decide +kernel
theorem dX3_isBetter_4 : decode cX3_isBetter 4 = .ok (.tableswitch 96 1 4 #[32, 54, 68, 82], 32) := by decide +kernel
theorem dX3_isBetter_36 : decode cX3_isBetter 36 = .ok (.iload_n 1, 1) := by decide +kernel
theorem dX3_isBetter_37 : decode cX3_isBetter 37 = .ok (.aload_n 0, 1) := by decide +kernel
theorem dX3_isBetter_38 : decode cX3_isBetter 38 = .ok (.getfield 62, 3) := by decide +kernel
theorem dX3_isBetter_41 : decode cX3_isBetter 41 = .ok (.if_icmp .gt 11, 3) := by decide +kernel
theorem dX3_isBetter_44 : decode cX3_isBetter 44 = .ok (.iload_n 2, 1) := by decide +kernel
theorem dX3_isBetter_45 : decode cX3_isBetter 45 = .ok (.aload_n 0, 1) := by decide +kernel
theorem dX3_isBetter_46 : decode cX3_isBetter 46 = .ok (.getfield 65, 3) := by decide +kernel
theorem dX3_isBetter_49 : decode cX3_isBetter 49 = .ok (.if_icmp .le 7, 3) := by decide +kernel
theorem dX3_isBetter_52 : decode cX3_isBetter 52 = .ok (.iconst 1, 1) := by decide +kernel
theorem dX3_isBetter_53 : decode cX3_isBetter 53 = .ok (.goto 4, 3) := by decide +kernel
theorem dX3_isBetter_56 : decode cX3_isBetter 56 = .ok (.iconst 0, 1) := by decide +kernel
theorem dX3_isBetter_57 : decode cX3_isBetter 57 = .ok (.ireturn, 1) := by decide +kernel
theorem dX3_isBetter_58 : decode cX3_isBetter 58 = .ok (.iload_n 3, 1) := by decide +kernel
theorem dX3_isBetter_59 : decode cX3_isBetter 59 = .ok (.aload_n 0, 1) := by decide +kernel
theorem dX3_isBetter_60 : decode cX3_isBetter 60 = .ok (.getfield 68, 3) := by decide +kernel
theorem dX3_isBetter_63 : decode cX3_isBetter 63 = .ok (.if_icmp .le 7, 3) := by decide +kernel
theorem dX3_isBetter_66 : decode cX3_isBetter 66 = .ok (.iconst 1, 1) := by decide +kernel
theorem dX3_isBetter_67 : decode cX3_isBetter 67 = .ok (.goto 4, 3) := by decide +kernel
theorem dX3_isBetter_70 : decode cX3_isBetter 70 = .ok (.iconst 0, 1) := by decide +kernel
theorem dX3_isBetter_71 : decode cX3_isBetter 71 = .ok (.ireturn, 1) := by decide +kernel
theorem dX3_isBetter_72 : decode cX3_isBetter 72 = .ok (.iload_n 3, 1) := by decide +kernel
theorem dX3_isBetter_73 : decode cX3_isBetter 73 = .ok (.aload_n 0, 1) := by decide +kernel
theorem dX3_isBetter_74 : decode cX3_isBetter 74 = .ok (.getfield 68, 3) := by decide +kernel
theorem dX3_isBetter_77 : decode cX3_isBetter 77 = .ok (.if_icmp .ge 7, 3) := by decide +kernel
theorem dX3_isBetter_80 : decode cX3_isBetter 80 = .ok (.iconst 1, 1) := by decide +kernel
theorem dX3_isBetter_81 : decode cX3_isBetter 81 = .ok (.goto 4, 3) := by decide +kernel
theorem dX3_isBetter_84 : decode cX3_isBetter 84 = .ok (.iconst 0, 1) := by decide +kernel
theorem dX3_isBetter_85 : decode cX3_isBetter 85 = .ok (.ireturn, 1) := by decide +kernel
theorem dX3_isBetter_86 : decode cX3_isBetter 86 = .ok (.iload_n 2, 1) := by decide +kernel
theorem dX3_isBetter_87 : decode cX3_isBetter 87 = .ok (.aload_n 0, 1) := by decide +kernel
theorem dX3_isBetter_88 : decode cX3_isBetter 88 = .ok (.getfield 65, 3) := by decide +kernel
theorem dX3_isBetter_91 : decode cX3_isBetter 91 = .ok (.if_icmp .le 7, 3) := by decide +kernel
theorem dX3_isBetter_94 : decode cX3_isBetter 94 = .ok (.iconst 1, 1) := by decide +kernel
theorem dX3_isBetter_95 : decode cX3_isBetter 95 = .ok (.goto 4, 3) := by decide +kernel
theorem dX3_isBetter_98 : decode cX3_isBetter 98 = .ok (.iconst 0, 1) := by decide +kernel
theorem dX3_isBetter_99 : decode cX3_isBetter 99 = .ok (.ireturn, 1) := by decide +kernel
theorem dX3_isBetter_100 : decode cX3_isBetter 100 = .ok (.iload_n 1, 1) := by decide +kernel
theorem dX3_isBetter_101 : decode cX3_isBetter 101 = .ok (.aload_n 0, 1) := by decide +kernel
theorem dX3_isBetter_102 : decode cX3_isBetter 102 = .ok (.getfield 62, 3) := by decide +kernel
theorem dX3_isBetter_105 : decode cX3_isBetter 105 = .ok (.if_icmp .ne 15, 3) := by decide +kernel
theorem dX3_isBetter_108 : decode cX3_isBetter 108 = .ok (.iload_n 2, 1) := by decide +kernel
theorem dX3_isBetter_109 : decode cX3_isBetter 109 = .ok (.aload_n 0, 1) := by decide +kernel
theorem dX3_isBetter_110 : decode cX3_isBetter 110 = .ok (.getfield 65, 3) := by decide +kernel
theorem dX3_isBetter_113 : decode cX3_isBetter 113 = .ok (.if_icmp .le 7, 3) := by decide +kernel
theorem dX3_isBetter_116 : decode cX3_isBetter 116 = .ok (.iconst 1, 1) := by decide +kernel
theorem dX3_isBetter_117 : decode cX3_isBetter 117 = .ok (.goto 4, 3) := by decide +kernel
theorem dX3_isBetter_120 : decode cX3_isBetter 120 = .ok (.iconst 0, 1) := by decide +kernel
theorem dX3_isBetter_121 : decode cX3_isBetter 121 = .ok (.ireturn, 1) := by decide +kernel
theorem dX3_take_0 : decode cX3_take 0 = .ok (.aload_n 0, 1) := by decide +kernel
theorem dX3_take_1 : decode cX3_take 1 = .ok (.iload_n 1, 1) := by decide +kernel
theorem dX3_take_2 : decode cX3_take 2 = .ok (.putfield 62, 3) := by decide +kernel
theorem dX3_take_5 : decode cX3_take 5 = .ok (.aload_n 0, 1) := by decide +kernel
theorem dX3_take_6 : decode cX3_take 6 = .ok (.iload_n 2, 1) := by decide +kernel
theorem dX3_take_7 : decode cX3_take 7 = .ok (.putfield 71, 3) := by decide +kernel
theorem dX3_take_10 : decode cX3_take 10 = .ok (.aload_n 0, 1) := by decide +kernel
theorem dX3_take_11 : decode cX3_take 11 = .ok (.iload_n 3, 1) := by decide +kernel
theorem dX3_take_12 : decode cX3_take 12 = .ok (.putfield 65, 3) := by decide +kernel
theorem dX3_take_15 : decode cX3_take 15 = .ok (.aload_n 0, 1) := by decide +kernel
theorem dX3_take_16 : decode cX3_take 16 = .ok (.iconst 2, 1) := by decide +kernel
theorem dX3_take_17 : decode cX3_take 17 = .ok (.iload_n 3, 1) := by decide +kernel
theorem dX3_take_18 : decode cX3_take 18 = .ok (.imul, 1) := by decide +kernel
theorem dX3_take_19 : decode cX3_take 19 = .ok (.aload_n 0, 1) := by decide +kernel
theorem dX3_take_20 : decode cX3_take 20 = .ok (.getfield 24, 3) := by decide +kernel
theorem dX3_take_23 : decode cX3_take 23 = .ok (.iload_n 2, 1) := by decide +kernel
theorem dX3_take_24 : decode cX3_take 24 = .ok (.invokevirtual 51, 3) := by decide +kernel
theorem dX3_take_27 : decode cX3_take 27 = .ok (.isub, 1) := by decide +kernel
theorem dX3_take_28 : decode cX3_take 28 = .ok (.putfield 68, 3) := by decide +kernel
theorem dX3_take_31 : decode cX3_take 31 = .ok (.return_, 1) := by decide +kernel
theorem dX3_doCut_0 : decode cX3_doCut 0 = .ok (.aload_n 0, 1) := by decide +kernel
theorem dX3_doCut_1 : decode cX3_doCut 1 = .ok (.getfield 14, 3) := by decide +kernel
theorem dX3_doCut_4 : decode cX3_doCut 4 = .ok (.invokevirtual 74, 3) := by decide +kernel
theorem dX3_doCut_7 : decode cX3_doCut 7 = .ok (.aload_n 0, 1) := by decide +kernel
theorem dX3_doCut_8 : decode cX3_doCut 8 = .ok (.getfield 14, 3) := by decide +kernel
theorem dX3_doCut_11 : decode cX3_doCut 11 = .ok (.aload_n 1, 1) := by decide +kernel
theorem dX3_doCut_12 : decode cX3_doCut 12 = .ok (.iconst 0, 1) := by decide +kernel
theorem dX3_doCut_13 : decode cX3_doCut 13 = .ok (.aload_n 0, 1) := by decide +kernel
theorem dX3_doCut_14 : decode cX3_doCut 14 = .ok (.getfield 62, 3) := by decide +kernel
theorem dX3_doCut_17 : decode cX3_doCut 17 = .ok (.invokevirtual 77, 3) := by decide +kernel
theorem dX3_doCut_20 : decode cX3_doCut 20 = .ok (.aload_n 0, 1) := by decide +kernel
theorem dX3_doCut_21 : decode cX3_doCut 21 = .ok (.getfield 24, 3) := by decide +kernel
theorem dX3_doCut_24 : decode cX3_doCut 24 = .ok (.aload_n 0, 1) := by decide +kernel
theorem dX3_doCut_25 : decode cX3_doCut 25 = .ok (.getfield 71, 3) := by decide +kernel
theorem dX3_doCut_28 : decode cX3_doCut 28 = .ok (.invokevirtual 51, 3) := by decide +kernel
theorem dX3_doCut_31 : decode cX3_doCut 31 = .ok (.iconst 1, 1) := by decide +kernel
theorem dX3_doCut_32 : decode cX3_doCut 32 = .ok (.isub, 1) := by decide +kernel
theorem dX3_doCut_33 : decode cX3_doCut 33 = .ok (.istore_n 2, 1) := by decide +kernel
theorem dX3_doCut_34 : decode cX3_doCut 34 = .ok (.iload_n 2, 1) := by decide +kernel
theorem dX3_doCut_35 : decode cX3_doCut 35 = .ok (.aload_n 0, 1) := by decide +kernel
theorem dX3_doCut_36 : decode cX3_doCut 36 = .ok (.getfield 65, 3) := by decide +kernel
theorem dX3_doCut_39 : decode cX3_doCut 39 = .ok (.if_icmp .lt 31, 3) := by decide +kernel
theorem dX3_doCut_42 : decode cX3_doCut 42 = .ok (.aload_n 0, 1) := by decide +kernel
theorem dX3_doCut_43 : decode cX3_doCut 43 = .ok (.getfield 14, 3) := by decide +kernel
theorem dX3_doCut_46 : decode cX3_doCut 46 = .ok (.aload_n 0, 1) := by decide +kernel
theorem dX3_doCut_47 : decode cX3_doCut 47 = .ok (.getfield 24, 3) := by decide +kernel
theorem dX3_doCut_50 : decode cX3_doCut 50 = .ok (.aload_n 0, 1) := by decide +kernel
theorem dX3_doCut_51 : decode cX3_doCut 51 = .ok (.getfield 71, 3) := by decide +kernel
theorem dX3_doCut_54 : decode cX3_doCut 54 = .ok (.iload_n 2, 1) := by decide +kernel
theorem dX3_doCut_55 : decode cX3_doCut 55 = .ok (.invokevirtual 81, 3) := by decide +kernel
theorem dX3_doCut_58 : decode cX3_doCut 58 = .ok (.invokestatic 84, 3) := by decide +kernel
theorem dX3_doCut_61 : decode cX3_doCut 61 = .ok (.invokevirtual 87, 3) := by decide +kernel
theorem dX3_doCut_64 : decode cX3_doCut 64 = .ok (.iinc 2 (-1), 3) := by decide +kernel
theorem dX3_doCut_67 : decode cX3_doCut 67 = .ok (.goto (-33), 3) := by decide +kernel
theorem dX3_doCut_70 : decode cX3_doCut 70 = .ok (.aload_n 0, 1) := by decide +kernel
theorem dX3_doCut_71 : decode cX3_doCut 71 = .ok (.getfield 14, 3) := by decide +kernel
theorem dX3_doCut_74 : decode cX3_doCut 74 = .ok (.aload_n 1, 1) := by decide +kernel
theorem dX3_doCut_75 : decode cX3_doCut 75 = .ok (.aload_n 0, 1) := by decide +kernel
theorem dX3_doCut_76 : decode cX3_doCut 76 = .ok (.getfield 62, 3) := by decide +kernel
theorem dX3_doCut_79 : decode cX3_doCut 79 = .ok (.aload_n 0, 1) := by decide +kernel
theorem dX3_doCut_80 : decode cX3_doCut 80 = .ok (.getfield 65, 3) := by decide +kernel
theorem dX3_doCut_83 : decode cX3_doCut 83 = .ok (.iadd, 1) := by decide +kernel
theorem dX3_doCut_84 : decode cX3_doCut 84 = .ok (.aload_n 1, 1) := by decide +kernel
theorem dX3_doCut_85 : decode cX3_doCut 85 = .ok (.getfield 28, 3) := by decide +kernel
theorem dX3_doCut_88 : decode cX3_doCut 88 = .ok (.invokevirtual 77, 3) := by decide +kernel
theorem dX3_doCut_91 : decode cX3_doCut 91 = .ok (.aload_n 1, 1) := by decide +kernel
theorem dX3_doCut_92 : decode cX3_doCut 92 = .ok (.aload_n 0, 1) := by decide +kernel
theorem dX3_doCut_93 : decode cX3_doCut 93 = .ok (.getfield 14, 3) := by decide +kernel
theorem dX3_doCut_96 : decode cX3_doCut 96 = .ok (.invokevirtual 90, 3) := by decide +kernel
theorem dX3_doCut_99 : decode cX3_doCut 99 = .ok (.return_, 1) := by decide +kernel
theorem dX3_doAll_0 : decode cX3_doAll 0 = .ok (.iconst 0, 1) := by decide +kernel
theorem dX3_doAll_1 : decode cX3_doAll 1 = .ok (.istore_n 2, 1) := by decide +kernel
theorem dX3_doAll_2 : decode cX3_doAll 2 = .ok (.iload_n 2, 1) := by decide +kernel
theorem dX3_doAll_3 : decode cX3_doAll 3 = .ok (.bipush 60, 2) := by decide +kernel
theorem dX3_doAll_5 : decode cX3_doAll 5 = .ok (.if_icmp .ge 24, 3) := by decide +kernel
theorem dX3_doAll_8 : decode cX3_doAll 8 = .ok (.aload_n 0, 1) := by decide +kernel
theorem dX3_doAll_9 : decode cX3_doAll 9 = .ok (.aload_n 1, 1) := by decide +kernel
theorem dX3_doAll_10 : decode cX3_doAll 10 = .ok (.invokevirtual 94, 3) := by decide +kernel
theorem dX3_doAll_13 : decode cX3_doAll 13 = .ok (.ifCond .ne 5, 3) := by decide +kernel
theorem dX3_doAll_16 : decode cX3_doAll 16 = .ok (.iload_n 2, 1) := by decide +kernel
theorem dX3_doAll_17 : decode cX3_doAll 17 = .ok (.ireturn, 1) := by decide +kernel
theorem dX3_doAll_18 : decode cX3_doAll 18 = .ok (.aload_n 0, 1) := by decide +kernel
theorem dX3_doAll_19 : decode cX3_doAll 19 = .ok (.aload_n 1, 1) := by decide +kernel
theorem dX3_doAll_20 : decode cX3_doAll 20 = .ok (.invokevirtual 98, 3) := by decide +kernel
theorem dX3_doAll_23 : decode cX3_doAll 23 = .ok (.iinc 2 1, 3) := by decide +kernel
theorem dX3_doAll_26 : decode cX3_doAll 26 = .ok (.goto (-24), 3) := by decide +kernel
theorem dX3_doAll_29 : decode cX3_doAll 29 = .ok (.bipush 60, 2) := by decide +kernel
theorem dX3_doAll_31 : decode cX3_doAll 31 = .ok (.ireturn, 1) := by decide +kernel
theorem dX3_doThrough_0 : decode cX3_doThrough 0 = .ok (.iload_n 2, 1) := by decide +kernel
theorem dX3_doThrough_1 : decode cX3_doThrough 1 = .ok (.bipush 60, 2) := by decide +kernel
theorem dX3_doThrough_3 : decode cX3_doThrough 3 = .ok (.if_icmp .lt 5, 3) := by decide +kernel
theorem dX3_doThrough_6 : decode cX3_doThrough 6 = .ok (.iconst 0, 1) := by decide +kernel
theorem dX3_doThrough_7 : decode cX3_doThrough 7 = .ok (.ireturn, 1) := by decide +kernel
theorem dX3_doThrough_8 : decode cX3_doThrough 8 = .ok (.iconst 0, 1) := by decide +kernel
theorem dX3_doThrough_9 : decode cX3_doThrough 9 = .ok (.istore_n 3, 1) := by decide +kernel
theorem dX3_doThrough_10 : decode cX3_doThrough 10 = .ok (.iload_n 3, 1) := by decide +kernel
theorem dX3_doThrough_11 : decode cX3_doThrough 11 = .ok (.iload_n 2, 1) := by decide +kernel
theorem dX3_doThrough_12 : decode cX3_doThrough 12 = .ok (.if_icmp .gt 24, 3) := by decide +kernel
theorem dX3_doThrough_15 : decode cX3_doThrough 15 = .ok (.aload_n 0, 1) := by decide +kernel
theorem dX3_doThrough_16 : decode cX3_doThrough 16 = .ok (.aload_n 1, 1) := by decide +kernel
theorem dX3_doThrough_17 : decode cX3_doThrough 17 = .ok (.invokevirtual 94, 3) := by decide +kernel
theorem dX3_doThrough_20 : decode cX3_doThrough 20 = .ok (.ifCond .ne 5, 3) := by decide +kernel
theorem dX3_doThrough_23 : decode cX3_doThrough 23 = .ok (.iconst 0, 1) := by decide +kernel
theorem dX3_doThrough_24 : decode cX3_doThrough 24 = .ok (.ireturn, 1) := by decide +kernel
theorem dX3_doThrough_25 : decode cX3_doThrough 25 = .ok (.aload_n 0, 1) := by decide +kernel
theorem dX3_doThrough_26 : decode cX3_doThrough 26 = .ok (.aload_n 1, 1) := by decide +kernel
theorem dX3_doThrough_27 : decode cX3_doThrough 27 = .ok (.invokevirtual 98, 3) := by decide +kernel
theorem dX3_doThrough_30 : decode cX3_doThrough 30 = .ok (.iinc 3 1, 3) := by decide +kernel
theorem dX3_doThrough_33 : decode cX3_doThrough 33 = .ok (.goto (-23), 3) := by decide +kernel
theorem dX3_doThrough_36 : decode cX3_doThrough 36 = .ok (.iconst 1, 1) := by decide +kernel
theorem dX3_doThrough_37 : decode cX3_doThrough 37 = .ok (.ireturn, 1) := by decide +kernel
