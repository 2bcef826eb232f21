theorem dX0_init_0 : decode cX0_init 0 = .ok (.aload_n 0, 1) := by decide +kernel
theorem dX0_init_1 : decode cX0_init 1 = .ok (.invokespecial 3, 3) := by decide +kernel
theorem dX0_init_4 : decode cX0_init 4 = .ok (.aload_n 0, 1) := by decide +kernel
theorem dX0_init_5 : decode cX0_init 5 = .ok (.iconst 0, 1) := by decide +kernel
theorem dX0_init_6 : decode cX0_init 6 = .ok (.putfield 9, 3) := by decide +kernel
theorem dX0_init_9 : decode cX0_init 9 = .ok (.aload_n 0, 1) := by decide +kernel
theorem dX0_init_10 : decode cX0_init 10 = .ok (.bipush 8, 2) := by decide +kernel
theorem dX0_init_12 : decode cX0_init 12 = .ok (.newarray .int, 2) := by decide +kernel
theorem dX0_init_14 : decode cX0_init 14 = .ok (.putfield 15, 3) := by decide +kernel
theorem dX0_init_17 : decode cX0_init 17 = .ok (.aload_n 0, 1) := by decide +kernel
theorem dX0_init_18 : decode cX0_init 18 = .ok (.bipush 8, 2) := by decide +kernel
theorem dX0_init_20 : decode cX0_init 20 = .ok (.newarray .int, 2) := by decide +kernel
theorem dX0_init_22 : decode cX0_init 22 = .ok (.putfield 19, 3) := by decide +kernel
theorem dX0_init_25 : decode cX0_init 25 = .ok (.aload_n 0, 1) := by decide +kernel
theorem dX0_init_26 : decode cX0_init 26 = .ok (.sipush 256, 3) := by decide +kernel
theorem dX0_init_29 : decode cX0_init 29 = .ok (.newarray .boolean, 2) := by decide +kernel
theorem dX0_init_31 : decode cX0_init 31 = .ok (.putfield 22, 3) := by decide +kernel
theorem dX0_init_34 : decode cX0_init 34 = .ok (.return_, 1) := by decide +kernel
theorem dX0_begin_0 : decode cX0_begin 0 = .ok (.aload_n 0, 1) := by decide +kernel
theorem dX0_begin_1 : decode cX0_begin 1 = .ok (.iconst 0, 1) := by decide +kernel
theorem dX0_begin_2 : decode cX0_begin 2 = .ok (.putfield 9, 3) := by decide +kernel
theorem dX0_begin_5 : decode cX0_begin 5 = .ok (.return_, 1) := by decide +kernel
theorem dX0_ask_0 : decode cX0_ask 0 = .ok (.aload_n 0, 1) := by decide +kernel
theorem dX0_ask_1 : decode cX0_ask 1 = .ok (.getfield 9, 3) := by decide +kernel
theorem dX0_ask_4 : decode cX0_ask 4 = .ok (.bipush 8, 2) := by decide +kernel
theorem dX0_ask_6 : decode cX0_ask 6 = .ok (.if_icmp .lt 4, 3) := by decide +kernel
theorem dX0_ask_9 : decode cX0_ask 9 = .ok (.return_, 1) := by decide +kernel
theorem dX0_ask_10 : decode cX0_ask 10 = .ok (.aload_n 0, 1) := by decide +kernel
theorem dX0_ask_11 : decode cX0_ask 11 = .ok (.getfield 19, 3) := by decide +kernel
theorem dX0_ask_14 : decode cX0_ask 14 = .ok (.aload_n 0, 1) := by decide +kernel
theorem dX0_ask_15 : decode cX0_ask 15 = .ok (.getfield 9, 3) := by decide +kernel
theorem dX0_ask_18 : decode cX0_ask 18 = .ok (.iload_n 1, 1) := by decide +kernel
theorem dX0_ask_19 : decode cX0_ask 19 = .ok (.iastore, 1) := by decide +kernel
theorem dX0_ask_20 : decode cX0_ask 20 = .ok (.aload_n 0, 1) := by decide +kernel
theorem dX0_ask_21 : decode cX0_ask 21 = .ok (.dup, 1) := by decide +kernel
theorem dX0_ask_22 : decode cX0_ask 22 = .ok (.getfield 9, 3) := by decide +kernel
theorem dX0_ask_25 : decode cX0_ask 25 = .ok (.iconst 1, 1) := by decide +kernel
theorem dX0_ask_26 : decode cX0_ask 26 = .ok (.iadd, 1) := by decide +kernel
theorem dX0_ask_27 : decode cX0_ask 27 = .ok (.putfield 9, 3) := by decide +kernel
theorem dX0_ask_30 : decode cX0_ask 30 = .ok (.return_, 1) := by decide +kernel
theorem dX0_isMade_0 : decode cX0_isMade 0 = .ok (.iconst 1, 1) := by decide +kernel
theorem dX0_isMade_1 : decode cX0_isMade 1 = .ok (.iload_n 1, 1) := by decide +kernel
theorem dX0_isMade_2 : decode cX0_isMade 2 = .ok (.ishl, 1) := by decide +kernel
theorem dX0_isMade_3 : decode cX0_isMade 3 = .ok (.iconst 1, 1) := by decide +kernel
theorem dX0_isMade_4 : decode cX0_isMade 4 = .ok (.isub, 1) := by decide +kernel
theorem dX0_isMade_5 : decode cX0_isMade 5 = .ok (.istore_n 2, 1) := by decide +kernel
theorem dX0_isMade_6 : decode cX0_isMade 6 = .ok (.iload_n 2, 1) := by decide +kernel
theorem dX0_isMade_7 : decode cX0_isMade 7 = .ok (.ifCond .lt 44, 3) := by decide +kernel
theorem dX0_isMade_10 : decode cX0_isMade 10 = .ok (.iload_n 2, 1) := by decide +kernel
theorem dX0_isMade_11 : decode cX0_isMade 11 = .ok (.invokestatic 26, 3) := by decide +kernel
theorem dX0_isMade_14 : decode cX0_isMade 14 = .ok (.istore_n 3, 1) := by decide +kernel
theorem dX0_isMade_15 : decode cX0_isMade 15 = .ok (.aload_n 0, 1) := by decide +kernel
theorem dX0_isMade_16 : decode cX0_isMade 16 = .ok (.getfield 22, 3) := by decide +kernel
theorem dX0_isMade_19 : decode cX0_isMade 19 = .ok (.iload_n 2, 1) := by decide +kernel
theorem dX0_isMade_20 : decode cX0_isMade 20 = .ok (.iload_n 3, 1) := by decide +kernel
theorem dX0_isMade_21 : decode cX0_isMade 21 = .ok (.aload_n 0, 1) := by decide +kernel
theorem dX0_isMade_22 : decode cX0_isMade 22 = .ok (.getfield 9, 3) := by decide +kernel
theorem dX0_isMade_25 : decode cX0_isMade 25 = .ok (.if_icmp .ge 14, 3) := by decide +kernel
theorem dX0_isMade_28 : decode cX0_isMade 28 = .ok (.aload_n 0, 1) := by decide +kernel
theorem dX0_isMade_29 : decode cX0_isMade 29 = .ok (.iload_n 3, 1) := by decide +kernel
theorem dX0_isMade_30 : decode cX0_isMade 30 = .ok (.iload_n 2, 1) := by decide +kernel
theorem dX0_isMade_31 : decode cX0_isMade 31 = .ok (.iload_n 1, 1) := by decide +kernel
theorem dX0_isMade_32 : decode cX0_isMade 32 = .ok (.invokevirtual 32, 3) := by decide +kernel
theorem dX0_isMade_35 : decode cX0_isMade 35 = .ok (.iconst (-1), 1) := by decide +kernel
theorem dX0_isMade_36 : decode cX0_isMade 36 = .ok (.if_icmp .eq 7, 3) := by decide +kernel
theorem dX0_isMade_39 : decode cX0_isMade 39 = .ok (.iconst 1, 1) := by decide +kernel
theorem dX0_isMade_40 : decode cX0_isMade 40 = .ok (.goto 4, 3) := by decide +kernel
theorem dX0_isMade_43 : decode cX0_isMade 43 = .ok (.iconst 0, 1) := by decide +kernel
theorem dX0_isMade_44 : decode cX0_isMade 44 = .ok (.bastore, 1) := by decide +kernel
theorem dX0_isMade_45 : decode cX0_isMade 45 = .ok (.iinc 2 (-1), 3) := by decide +kernel
theorem dX0_isMade_48 : decode cX0_isMade 48 = .ok (.goto (-42), 3) := by decide +kernel
theorem dX0_isMade_51 : decode cX0_isMade 51 = .ok (.aload_n 0, 1) := by decide +kernel
theorem dX0_isMade_52 : decode cX0_isMade 52 = .ok (.getfield 22, 3) := by decide +kernel
theorem dX0_isMade_55 : decode cX0_isMade 55 = .ok (.iconst 0, 1) := by decide +kernel
theorem dX0_isMade_56 : decode cX0_isMade 56 = .ok (.baload, 1) := by decide +kernel
theorem dX0_isMade_57 : decode cX0_isMade 57 = .ok (.ifCond .ne 5, 3) := by decide +kernel
theorem dX0_isMade_60 : decode cX0_isMade 60 = .ok (.iconst 0, 1) := by decide +kernel
theorem dX0_isMade_61 : decode cX0_isMade 61 = .ok (.ireturn, 1) := by decide +kernel
theorem dX0_isMade_62 : decode cX0_isMade 62 = .ok (.iconst 0, 1) := by decide +kernel
theorem dX0_isMade_63 : decode cX0_isMade 63 = .ok (.istore_n 2, 1) := by decide +kernel
theorem dX0_isMade_64 : decode cX0_isMade 64 = .ok (.iconst 0, 1) := by decide +kernel
theorem dX0_isMade_65 : decode cX0_isMade 65 = .ok (.istore_n 3, 1) := by decide +kernel
theorem dX0_isMade_66 : decode cX0_isMade 66 = .ok (.iload_n 3, 1) := by decide +kernel
theorem dX0_isMade_67 : decode cX0_isMade 67 = .ok (.aload_n 0, 1) := by decide +kernel
theorem dX0_isMade_68 : decode cX0_isMade 68 = .ok (.getfield 9, 3) := by decide +kernel
theorem dX0_isMade_71 : decode cX0_isMade 71 = .ok (.if_icmp .ge 41, 3) := by decide +kernel
theorem dX0_isMade_74 : decode cX0_isMade 74 = .ok (.aload_n 0, 1) := by decide +kernel
theorem dX0_isMade_75 : decode cX0_isMade 75 = .ok (.iload_n 3, 1) := by decide +kernel
theorem dX0_isMade_76 : decode cX0_isMade 76 = .ok (.iload_n 2, 1) := by decide +kernel
theorem dX0_isMade_77 : decode cX0_isMade 77 = .ok (.iload_n 1, 1) := by decide +kernel
theorem dX0_isMade_78 : decode cX0_isMade 78 = .ok (.invokevirtual 32, 3) := by decide +kernel
theorem dX0_isMade_81 : decode cX0_isMade 81 = .ok (.istore 4, 2) := by decide +kernel
theorem dX0_isMade_83 : decode cX0_isMade 83 = .ok (.iload 4, 2) := by decide +kernel
theorem dX0_isMade_85 : decode cX0_isMade 85 = .ok (.iconst (-1), 1) := by decide +kernel
theorem dX0_isMade_86 : decode cX0_isMade 86 = .ok (.if_icmp .ne 5, 3) := by decide +kernel
theorem dX0_isMade_89 : decode cX0_isMade 89 = .ok (.iconst 0, 1) := by decide +kernel
theorem dX0_isMade_90 : decode cX0_isMade 90 = .ok (.ireturn, 1) := by decide +kernel
theorem dX0_isMade_91 : decode cX0_isMade 91 = .ok (.aload_n 0, 1) := by decide +kernel
theorem dX0_isMade_92 : decode cX0_isMade 92 = .ok (.getfield 15, 3) := by decide +kernel
theorem dX0_isMade_95 : decode cX0_isMade 95 = .ok (.iload_n 3, 1) := by decide +kernel
theorem dX0_isMade_96 : decode cX0_isMade 96 = .ok (.iload 4, 2) := by decide +kernel
theorem dX0_isMade_98 : decode cX0_isMade 98 = .ok (.iastore, 1) := by decide +kernel
theorem dX0_isMade_99 : decode cX0_isMade 99 = .ok (.iload_n 2, 1) := by decide +kernel
theorem dX0_isMade_100 : decode cX0_isMade 100 = .ok (.iconst 1, 1) := by decide +kernel
theorem dX0_isMade_101 : decode cX0_isMade 101 = .ok (.iload 4, 2) := by decide +kernel
theorem dX0_isMade_103 : decode cX0_isMade 103 = .ok (.ishl, 1) := by decide +kernel
theorem dX0_isMade_104 : decode cX0_isMade 104 = .ok (.ior, 1) := by decide +kernel
theorem dX0_isMade_105 : decode cX0_isMade 105 = .ok (.istore_n 2, 1) := by decide +kernel
theorem dX0_isMade_106 : decode cX0_isMade 106 = .ok (.iinc 3 1, 3) := by decide +kernel
theorem dX0_isMade_109 : decode cX0_isMade 109 = .ok (.goto (-43), 3) := by decide +kernel
theorem dX0_isMade_112 : decode cX0_isMade 112 = .ok (.iconst 1, 1) := by decide +kernel
theorem dX0_isMade_113 : decode cX0_isMade 113 = .ok (.ireturn, 1) := by decide +kernel
theorem dX0_leastOption_0 : decode cX0_leastOption 0 = .ok (.iconst 0, 1) := by decide +kernel
theorem dX0_leastOption_1 : decode cX0_leastOption 1 = .ok (.istore 4, 2) := by decide +kernel
theorem dX0_leastOption_3 : decode cX0_leastOption 3 = .ok (.iload 4, 2) := by decide +kernel
theorem dX0_leastOption_5 : decode cX0_leastOption 5 = .ok (.iload_n 3, 1) := by decide +kernel
theorem dX0_leastOption_6 : decode cX0_leastOption 6 = .ok (.if_icmp .ge 44, 3) := by decide +kernel
theorem dX0_leastOption_9 : decode cX0_leastOption 9 = .ok (.aload_n 0, 1) := by decide +kernel
theorem dX0_leastOption_10 : decode cX0_leastOption 10 = .ok (.getfield 19, 3) := by decide +kernel
theorem dX0_leastOption_13 : decode cX0_leastOption 13 = .ok (.iload_n 1, 1) := by decide +kernel
theorem dX0_leastOption_14 : decode cX0_leastOption 14 = .ok (.iaload, 1) := by decide +kernel
theorem dX0_leastOption_15 : decode cX0_leastOption 15 = .ok (.iload_n 2, 1) := by decide +kernel
theorem dX0_leastOption_16 : decode cX0_leastOption 16 = .ok (.iconst (-1), 1) := by decide +kernel
theorem dX0_leastOption_17 : decode cX0_leastOption 17 = .ok (.ixor, 1) := by decide +kernel
theorem dX0_leastOption_18 : decode cX0_leastOption 18 = .ok (.iand, 1) := by decide +kernel
theorem dX0_leastOption_19 : decode cX0_leastOption 19 = .ok (.iload 4, 2) := by decide +kernel
theorem dX0_leastOption_21 : decode cX0_leastOption 21 = .ok (.invokestatic 36, 3) := by decide +kernel
theorem dX0_leastOption_24 : decode cX0_leastOption 24 = .ok (.ifCond .eq 20, 3) := by decide +kernel
theorem dX0_leastOption_27 : decode cX0_leastOption 27 = .ok (.aload_n 0, 1) := by decide +kernel
theorem dX0_leastOption_28 : decode cX0_leastOption 28 = .ok (.getfield 22, 3) := by decide +kernel
theorem dX0_leastOption_31 : decode cX0_leastOption 31 = .ok (.iload_n 2, 1) := by decide +kernel
theorem dX0_leastOption_32 : decode cX0_leastOption 32 = .ok (.iconst 1, 1) := by decide +kernel
theorem dX0_leastOption_33 : decode cX0_leastOption 33 = .ok (.iload 4, 2) := by decide +kernel
theorem dX0_leastOption_35 : decode cX0_leastOption 35 = .ok (.ishl, 1) := by decide +kernel
theorem dX0_leastOption_36 : decode cX0_leastOption 36 = .ok (.ior, 1) := by decide +kernel
theorem dX0_leastOption_37 : decode cX0_leastOption 37 = .ok (.baload, 1) := by decide +kernel
theorem dX0_leastOption_38 : decode cX0_leastOption 38 = .ok (.ifCond .eq 6, 3) := by decide +kernel
theorem dX0_leastOption_41 : decode cX0_leastOption 41 = .ok (.iload 4, 2) := by decide +kernel
theorem dX0_leastOption_43 : decode cX0_leastOption 43 = .ok (.ireturn, 1) := by decide +kernel
theorem dX0_leastOption_44 : decode cX0_leastOption 44 = .ok (.iinc 4 1, 3) := by decide +kernel
theorem dX0_leastOption_47 : decode cX0_leastOption 47 = .ok (.goto (-44), 3) := by decide +kernel
theorem dX0_leastOption_50 : decode cX0_leastOption 50 = .ok (.iconst (-1), 1) := by decide +kernel
theorem dX0_leastOption_51 : decode cX0_leastOption 51 = .ok (.ireturn, 1) := by decide +kernel
theorem dX1_init_0 : decode cX1_init 0 = .ok (.aload_n 0, 1) := by decide +kernel
theorem dX1_init_1 : decode cX1_init 1 = .ok (.invokespecial 3, 3) := by decide +kernel
theorem dX1_init_4 : decode cX1_init 4 = .ok (.aload_n 0, 1) := by decide +kernel
theorem dX1_init_5 : decode cX1_init 5 = .ok (.iconst 4, 1) := by decide +kernel
theorem dX1_init_6 : decode cX1_init 6 = .ok (.newarray .long, 2) := by decide +kernel
theorem dX1_init_8 : decode cX1_init 8 = .ok (.putfield 11, 3) := by decide +kernel
theorem dX1_init_11 : decode cX1_init 11 = .ok (.aload_n 0, 1) := by decide +kernel
theorem dX1_init_12 : decode cX1_init 12 = .ok (.iconst 4, 1) := by decide +kernel
theorem dX1_init_13 : decode cX1_init 13 = .ok (.newarray .long, 2) := by decide +kernel
theorem dX1_init_15 : decode cX1_init 15 = .ok (.putfield 15, 3) := by decide +kernel
theorem dX1_init_18 : decode cX1_init 18 = .ok (.return_, 1) := by decide +kernel
theorem dX1_begin_0 : decode cX1_begin 0 = .ok (.aload_n 0, 1) := by decide +kernel
theorem dX1_begin_1 : decode cX1_begin 1 = .ok (.getfield 11, 3) := by decide +kernel
theorem dX1_begin_4 : decode cX1_begin 4 = .ok (.iconst 0, 1) := by decide +kernel
theorem dX1_begin_5 : decode cX1_begin 5 = .ok (.lconst 1, 1) := by decide +kernel
theorem dX1_begin_6 : decode cX1_begin 6 = .ok (.lastore, 1) := by decide +kernel
theorem dX1_begin_7 : decode cX1_begin 7 = .ok (.iconst 1, 1) := by decide +kernel
theorem dX1_begin_8 : decode cX1_begin 8 = .ok (.istore_n 1, 1) := by decide +kernel
theorem dX1_begin_9 : decode cX1_begin 9 = .ok (.iload_n 1, 1) := by decide +kernel
theorem dX1_begin_10 : decode cX1_begin 10 = .ok (.iconst 4, 1) := by decide +kernel
theorem dX1_begin_11 : decode cX1_begin 11 = .ok (.if_icmp .ge 16, 3) := by decide +kernel
theorem dX1_begin_14 : decode cX1_begin 14 = .ok (.aload_n 0, 1) := by decide +kernel
theorem dX1_begin_15 : decode cX1_begin 15 = .ok (.getfield 11, 3) := by decide +kernel
theorem dX1_begin_18 : decode cX1_begin 18 = .ok (.iload_n 1, 1) := by decide +kernel
theorem dX1_begin_19 : decode cX1_begin 19 = .ok (.lconst 0, 1) := by decide +kernel
theorem dX1_begin_20 : decode cX1_begin 20 = .ok (.lastore, 1) := by decide +kernel
theorem dX1_begin_21 : decode cX1_begin 21 = .ok (.iinc 1 1, 3) := by decide +kernel
theorem dX1_begin_24 : decode cX1_begin 24 = .ok (.goto (-15), 3) := by decide +kernel
theorem dX1_begin_27 : decode cX1_begin 27 = .ok (.return_, 1) := by decide +kernel
theorem dX1_join_0 : decode cX1_join 0 = .ok (.iconst 0, 1) := by decide +kernel
theorem dX1_join_1 : decode cX1_join 1 = .ok (.istore_n 2, 1) := by decide +kernel
theorem dX1_join_2 : decode cX1_join 2 = .ok (.iload_n 2, 1) := by decide +kernel
theorem dX1_join_3 : decode cX1_join 3 = .ok (.iconst 4, 1) := by decide +kernel
theorem dX1_join_4 : decode cX1_join 4 = .ok (.if_icmp .ge 21, 3) := by decide +kernel
theorem dX1_join_7 : decode cX1_join 7 = .ok (.aload_n 0, 1) := by decide +kernel
theorem dX1_join_8 : decode cX1_join 8 = .ok (.getfield 15, 3) := by decide +kernel
theorem dX1_join_11 : decode cX1_join 11 = .ok (.iload_n 2, 1) := by decide +kernel
theorem dX1_join_12 : decode cX1_join 12 = .ok (.aload_n 0, 1) := by decide +kernel
theorem dX1_join_13 : decode cX1_join 13 = .ok (.getfield 11, 3) := by decide +kernel
theorem dX1_join_16 : decode cX1_join 16 = .ok (.iload_n 2, 1) := by decide +kernel
theorem dX1_join_17 : decode cX1_join 17 = .ok (.laload, 1) := by decide +kernel
theorem dX1_join_18 : decode cX1_join 18 = .ok (.lastore, 1) := by decide +kernel
theorem dX1_join_19 : decode cX1_join 19 = .ok (.iinc 2 1, 3) := by decide +kernel
theorem dX1_join_22 : decode cX1_join 22 = .ok (.goto (-20), 3) := by decide +kernel
theorem dX1_join_25 : decode cX1_join 25 = .ok (.iconst 0, 1) := by decide +kernel
theorem dX1_join_26 : decode cX1_join 26 = .ok (.istore_n 2, 1) := by decide +kernel
theorem dX1_join_27 : decode cX1_join 27 = .ok (.iload_n 2, 1) := by decide +kernel
theorem dX1_join_28 : decode cX1_join 28 = .ok (.bipush 8, 2) := by decide +kernel
theorem dX1_join_30 : decode cX1_join 30 = .ok (.if_icmp .ge 22, 3) := by decide +kernel
theorem dX1_join_33 : decode cX1_join 33 = .ok (.iload_n 1, 1) := by decide +kernel
theorem dX1_join_34 : decode cX1_join 34 = .ok (.iload_n 2, 1) := by decide +kernel
theorem dX1_join_35 : decode cX1_join 35 = .ok (.invokestatic 18, 3) := by decide +kernel
theorem dX1_join_38 : decode cX1_join 38 = .ok (.ifCond .eq 8, 3) := by decide +kernel
theorem dX1_join_41 : decode cX1_join 41 = .ok (.aload_n 0, 1) := by decide +kernel
theorem dX1_join_42 : decode cX1_join 42 = .ok (.iload_n 2, 1) := by decide +kernel
theorem dX1_join_43 : decode cX1_join 43 = .ok (.invokevirtual 22, 3) := by decide +kernel
theorem dX1_join_46 : decode cX1_join 46 = .ok (.iinc 2 1, 3) := by decide +kernel
theorem dX1_join_49 : decode cX1_join 49 = .ok (.goto (-22), 3) := by decide +kernel
theorem dX1_join_52 : decode cX1_join 52 = .ok (.return_, 1) := by decide +kernel
theorem dX1_spread_0 : decode cX1_spread 0 = .ok (.iload_n 1, 1) := by decide +kernel
theorem dX1_spread_1 : decode cX1_spread 1 = .ok (.bipush 6, 2) := by decide +kernel
theorem dX1_spread_3 : decode cX1_spread 3 = .ok (.if_icmp .ge 42, 3) := by decide +kernel
theorem dX1_spread_6 : decode cX1_spread 6 = .ok (.iconst 0, 1) := by decide +kernel
theorem dX1_spread_7 : decode cX1_spread 7 = .ok (.istore_n 2, 1) := by decide +kernel
theorem dX1_spread_8 : decode cX1_spread 8 = .ok (.iload_n 2, 1) := by decide +kernel
theorem dX1_spread_9 : decode cX1_spread 9 = .ok (.iconst 4, 1) := by decide +kernel
theorem dX1_spread_10 : decode cX1_spread 10 = .ok (.if_icmp .ge 34, 3) := by decide +kernel
theorem dX1_spread_13 : decode cX1_spread 13 = .ok (.aload_n 0, 1) := by decide +kernel
theorem dX1_spread_14 : decode cX1_spread 14 = .ok (.getfield 11, 3) := by decide +kernel
theorem dX1_spread_17 : decode cX1_spread 17 = .ok (.iload_n 2, 1) := by decide +kernel
theorem dX1_spread_18 : decode cX1_spread 18 = .ok (.dup2, 1) := by decide +kernel
theorem dX1_spread_19 : decode cX1_spread 19 = .ok (.laload, 1) := by decide +kernel
theorem dX1_spread_20 : decode cX1_spread 20 = .ok (.aload_n 0, 1) := by decide +kernel
theorem dX1_spread_21 : decode cX1_spread 21 = .ok (.getfield 15, 3) := by decide +kernel
theorem dX1_spread_24 : decode cX1_spread 24 = .ok (.iload_n 2, 1) := by decide +kernel
theorem dX1_spread_25 : decode cX1_spread 25 = .ok (.laload, 1) := by decide +kernel
theorem dX1_spread_26 : decode cX1_spread 26 = .ok (.getstatic 26, 3) := by decide +kernel
theorem dX1_spread_29 : decode cX1_spread 29 = .ok (.iload_n 1, 1) := by decide +kernel
theorem dX1_spread_30 : decode cX1_spread 30 = .ok (.laload, 1) := by decide +kernel
theorem dX1_spread_31 : decode cX1_spread 31 = .ok (.land, 1) := by decide +kernel
theorem dX1_spread_32 : decode cX1_spread 32 = .ok (.iconst 1, 1) := by decide +kernel
theorem dX1_spread_33 : decode cX1_spread 33 = .ok (.iload_n 1, 1) := by decide +kernel
theorem dX1_spread_34 : decode cX1_spread 34 = .ok (.ishl, 1) := by decide +kernel
theorem dX1_spread_35 : decode cX1_spread 35 = .ok (.lshl, 1) := by decide +kernel
theorem dX1_spread_36 : decode cX1_spread 36 = .ok (.lor, 1) := by decide +kernel
theorem dX1_spread_37 : decode cX1_spread 37 = .ok (.lastore, 1) := by decide +kernel
theorem dX1_spread_38 : decode cX1_spread 38 = .ok (.iinc 2 1, 3) := by decide +kernel
theorem dX1_spread_41 : decode cX1_spread 41 = .ok (.goto (-33), 3) := by decide +kernel
theorem dX1_spread_44 : decode cX1_spread 44 = .ok (.return_, 1) := by decide +kernel
theorem dX1_spread_45 : decode cX1_spread 45 = .ok (.iconst 1, 1) := by decide +kernel
theorem dX1_spread_46 : decode cX1_spread 46 = .ok (.iload_n 1, 1) := by decide +kernel
theorem dX1_spread_47 : decode cX1_spread 47 = .ok (.bipush 6, 2) := by decide +kernel
theorem dX1_spread_49 : decode cX1_spread 49 = .ok (.isub, 1) := by decide +kernel
theorem dX1_spread_50 : decode cX1_spread 50 = .ok (.ishl, 1) := by decide +kernel
theorem dX1_spread_51 : decode cX1_spread 51 = .ok (.istore_n 2, 1) := by decide +kernel
theorem dX1_spread_52 : decode cX1_spread 52 = .ok (.iconst 0, 1) := by decide +kernel
theorem dX1_spread_53 : decode cX1_spread 53 = .ok (.istore_n 3, 1) := by decide +kernel
theorem dX1_spread_54 : decode cX1_spread 54 = .ok (.iload_n 3, 1) := by decide +kernel
theorem dX1_spread_55 : decode cX1_spread 55 = .ok (.iload_n 2, 1) := by decide +kernel
theorem dX1_spread_56 : decode cX1_spread 56 = .ok (.iadd, 1) := by decide +kernel
theorem dX1_spread_57 : decode cX1_spread 57 = .ok (.iconst 4, 1) := by decide +kernel
theorem dX1_spread_58 : decode cX1_spread 58 = .ok (.if_icmp .ge 32, 3) := by decide +kernel
theorem dX1_spread_61 : decode cX1_spread 61 = .ok (.iload_n 3, 1) := by decide +kernel
theorem dX1_spread_62 : decode cX1_spread 62 = .ok (.iload_n 2, 1) := by decide +kernel
theorem dX1_spread_63 : decode cX1_spread 63 = .ok (.iand, 1) := by decide +kernel
theorem dX1_spread_64 : decode cX1_spread 64 = .ok (.ifCond .ne 20, 3) := by decide +kernel
theorem dX1_spread_67 : decode cX1_spread 67 = .ok (.aload_n 0, 1) := by decide +kernel
theorem dX1_spread_68 : decode cX1_spread 68 = .ok (.getfield 11, 3) := by decide +kernel
theorem dX1_spread_71 : decode cX1_spread 71 = .ok (.iload_n 3, 1) := by decide +kernel
theorem dX1_spread_72 : decode cX1_spread 72 = .ok (.iload_n 2, 1) := by decide +kernel
theorem dX1_spread_73 : decode cX1_spread 73 = .ok (.iadd, 1) := by decide +kernel
theorem dX1_spread_74 : decode cX1_spread 74 = .ok (.dup2, 1) := by decide +kernel
theorem dX1_spread_75 : decode cX1_spread 75 = .ok (.laload, 1) := by decide +kernel
theorem dX1_spread_76 : decode cX1_spread 76 = .ok (.aload_n 0, 1) := by decide +kernel
theorem dX1_spread_77 : decode cX1_spread 77 = .ok (.getfield 15, 3) := by decide +kernel
theorem dX1_spread_80 : decode cX1_spread 80 = .ok (.iload_n 3, 1) := by decide +kernel
theorem dX1_spread_81 : decode cX1_spread 81 = .ok (.laload, 1) := by decide +kernel
theorem dX1_spread_82 : decode cX1_spread 82 = .ok (.lor, 1) := by decide +kernel
theorem dX1_spread_83 : decode cX1_spread 83 = .ok (.lastore, 1) := by decide +kernel
theorem dX1_spread_84 : decode cX1_spread 84 = .ok (.iinc 3 1, 3) := by decide +kernel
theorem dX1_spread_87 : decode cX1_spread 87 = .ok (.goto (-33), 3) := by decide +kernel
theorem dX1_spread_90 : decode cX1_spread 90 = .ok (.return_, 1) := by decide +kernel
theorem dX1_holds_0 : decode cX1_holds 0 = .ok (.aload_n 0, 1) := by decide +kernel
theorem dX1_holds_1 : decode cX1_holds 1 = .ok (.getfield 11, 3) := by decide +kernel
theorem dX1_holds_4 : decode cX1_holds 4 = .ok (.iload_n 1, 1) := by decide +kernel
theorem dX1_holds_5 : decode cX1_holds 5 = .ok (.bipush 6, 2) := by decide +kernel
theorem dX1_holds_7 : decode cX1_holds 7 = .ok (.ishr, 1) := by decide +kernel
theorem dX1_holds_8 : decode cX1_holds 8 = .ok (.laload, 1) := by decide +kernel
theorem dX1_holds_9 : decode cX1_holds 9 = .ok (.iload_n 1, 1) := by decide +kernel
theorem dX1_holds_10 : decode cX1_holds 10 = .ok (.bipush 63, 2) := by decide +kernel
theorem dX1_holds_12 : decode cX1_holds 12 = .ok (.iand, 1) := by decide +kernel
theorem dX1_holds_13 : decode cX1_holds 13 = .ok (.lushr, 1) := by decide +kernel
theorem dX1_holds_14 : decode cX1_holds 14 = .ok (.lconst 1, 1) := by decide +kernel
theorem dX1_holds_15 : decode cX1_holds 15 = .ok (.land, 1) := by decide +kernel
theorem dX1_holds_16 : decode cX1_holds 16 = .ok (.lconst 1, 1) := by decide +kernel
theorem dX1_holds_17 : decode cX1_holds 17 = .ok (.lcmp, 1) := by decide +kernel
theorem dX1_holds_18 : decode cX1_holds 18 = .ok (.ifCond .ne 7, 3) := by decide +kernel
theorem dX1_holds_21 : decode cX1_holds 21 = .ok (.iconst 1, 1) := by decide +kernel
theorem dX1_holds_22 : decode cX1_holds 22 = .ok (.goto 4, 3) := by decide +kernel
theorem dX1_holds_25 : decode cX1_holds 25 = .ok (.iconst 0, 1) := by decide +kernel
theorem dX1_holds_26 : decode cX1_holds 26 = .ok (.ireturn, 1) := by decide +kernel
theorem dX1_isLike_0 : decode cX1_isLike 0 = .ok (.iconst 0, 1) := by decide +kernel
theorem dX1_isLike_1 : decode cX1_isLike 1 = .ok (.istore_n 2, 1) := by decide +kernel
theorem dX1_isLike_2 : decode cX1_isLike 2 = .ok (.iload_n 2, 1) := by decide +kernel
theorem dX1_isLike_3 : decode cX1_isLike 3 = .ok (.iconst 4, 1) := by decide +kernel
theorem dX1_isLike_4 : decode cX1_isLike 4 = .ok (.if_icmp .ge 27, 3) := by decide +kernel
theorem dX1_isLike_7 : decode cX1_isLike 7 = .ok (.aload_n 0, 1) := by decide +kernel
theorem dX1_isLike_8 : decode cX1_isLike 8 = .ok (.getfield 11, 3) := by decide +kernel
theorem dX1_isLike_11 : decode cX1_isLike 11 = .ok (.iload_n 2, 1) := by decide +kernel
theorem dX1_isLike_12 : decode cX1_isLike 12 = .ok (.laload, 1) := by decide +kernel
theorem dX1_isLike_13 : decode cX1_isLike 13 = .ok (.aload_n 1, 1) := by decide +kernel
theorem dX1_isLike_14 : decode cX1_isLike 14 = .ok (.getfield 11, 3) := by decide +kernel
theorem dX1_isLike_17 : decode cX1_isLike 17 = .ok (.iload_n 2, 1) := by decide +kernel
theorem dX1_isLike_18 : decode cX1_isLike 18 = .ok (.laload, 1) := by decide +kernel
theorem dX1_isLike_19 : decode cX1_isLike 19 = .ok (.lcmp, 1) := by decide +kernel
theorem dX1_isLike_20 : decode cX1_isLike 20 = .ok (.ifCond .eq 5, 3) := by decide +kernel
theorem dX1_isLike_23 : decode cX1_isLike 23 = .ok (.iconst 0, 1) := by decide +kernel
theorem dX1_isLike_24 : decode cX1_isLike 24 = .ok (.ireturn, 1) := by decide +kernel
theorem dX1_isLike_25 : decode cX1_isLike 25 = .ok (.iinc 2 1, 3) := by decide +kernel
theorem dX1_isLike_28 : decode cX1_isLike 28 = .ok (.goto (-26), 3) := by decide +kernel
theorem dX1_isLike_31 : decode cX1_isLike 31 = .ok (.iconst 1, 1) := by decide +kernel
theorem dX1_isLike_32 : decode cX1_isLike 32 = .ok (.ireturn, 1) := by decide +kernel
theorem dX2_init_0 : decode cX2_init 0 = .ok (.aload_n 0, 1) := by decide +kernel
theorem dX2_init_1 : decode cX2_init 1 = .ok (.invokespecial 3, 3) := by decide +kernel
theorem dX2_init_4 : decode cX2_init 4 = .ok (.aload_n 0, 1) := by decide +kernel
theorem dX2_init_5 : decode cX2_init 5 = .ok (.new 9, 3) := by decide +kernel
theorem dX2_init_8 : decode cX2_init 8 = .ok (.dup, 1) := by decide +kernel
theorem dX2_init_9 : decode cX2_init 9 = .ok (.invokespecial 11, 3) := by decide +kernel
theorem dX2_init_12 : decode cX2_init 12 = .ok (.putfield 12, 3) := by decide +kernel
theorem dX2_init_15 : decode cX2_init 15 = .ok (.aload_n 0, 1) := by decide +kernel
theorem dX2_init_16 : decode cX2_init 16 = .ok (.new 9, 3) := by decide +kernel
theorem dX2_init_19 : decode cX2_init 19 = .ok (.dup, 1) := by decide +kernel
theorem dX2_init_20 : decode cX2_init 20 = .ok (.invokespecial 11, 3) := by decide +kernel
theorem dX2_init_23 : decode cX2_init 23 = .ok (.putfield 18, 3) := by decide +kernel
theorem dX2_init_26 : decode cX2_init 26 = .ok (.aload_n 0, 1) := by decide +kernel
theorem dX2_init_27 : decode cX2_init 27 = .ok (.sipush 256, 3) := by decide +kernel
theorem dX2_init_30 : decode cX2_init 30 = .ok (.newarray .int, 2) := by decide +kernel
theorem dX2_init_32 : decode cX2_init 32 = .ok (.putfield 21, 3) := by decide +kernel
theorem dX2_init_35 : decode cX2_init 35 = .ok (.aload_n 0, 1) := by decide +kernel
theorem dX2_init_36 : decode cX2_init 36 = .ok (.sipush 256, 3) := by decide +kernel
theorem dX2_init_39 : decode cX2_init 39 = .ok (.newarray .int, 2) := by decide +kernel
theorem dX2_init_41 : decode cX2_init 41 = .ok (.putfield 25, 3) := by decide +kernel
theorem dX2_init_44 : decode cX2_init 44 = .ok (.aload_n 0, 1) := by decide +kernel
theorem dX2_init_45 : decode cX2_init 45 = .ok (.iconst 0, 1) := by decide +kernel
theorem dX2_init_46 : decode cX2_init 46 = .ok (.putfield 28, 3) := by decide +kernel
theorem dX2_init_49 : decode cX2_init 49 = .ok (.aload_n 0, 1) := by decide +kernel
theorem dX2_init_50 : decode cX2_init 50 = .ok (.iconst 0, 1) := by decide +kernel
theorem dX2_init_51 : decode cX2_init 51 = .ok (.putfield 32, 3) := by decide +kernel
theorem dX2_init_54 : decode cX2_init 54 = .ok (.aload_n 0, 1) := by decide +kernel
theorem dX2_init_55 : decode cX2_init 55 = .ok (.iconst (-1), 1) := by decide +kernel
theorem dX2_init_56 : decode cX2_init 56 = .ok (.putfield 35, 3) := by decide +kernel
theorem dX2_init_59 : decode cX2_init 59 = .ok (.return_, 1) := by decide +kernel
theorem dX2_refresh_0 : decode cX2_refresh 0 = .ok (.aload_n 0, 1) := by decide +kernel
theorem dX2_refresh_1 : decode cX2_refresh 1 = .ok (.getfield 35, 3) := by decide +kernel
theorem dX2_refresh_4 : decode cX2_refresh 4 = .ok (.aload_n 1, 1) := by decide +kernel
theorem dX2_refresh_5 : decode cX2_refresh 5 = .ok (.getfield 38, 3) := by decide +kernel
theorem dX2_refresh_8 : decode cX2_refresh 8 = .ok (.if_icmp .ne 4, 3) := by decide +kernel
theorem dX2_refresh_11 : decode cX2_refresh 11 = .ok (.return_, 1) := by decide +kernel
theorem dX2_refresh_12 : decode cX2_refresh 12 = .ok (.aload_n 0, 1) := by decide +kernel
theorem dX2_refresh_13 : decode cX2_refresh 13 = .ok (.aload_n 1, 1) := by decide +kernel
theorem dX2_refresh_14 : decode cX2_refresh 14 = .ok (.getfield 43, 3) := by decide +kernel
theorem dX2_refresh_17 : decode cX2_refresh 17 = .ok (.putfield 28, 3) := by decide +kernel
theorem dX2_refresh_20 : decode cX2_refresh 20 = .ok (.aload_n 0, 1) := by decide +kernel
theorem dX2_refresh_21 : decode cX2_refresh 21 = .ok (.aload_n 1, 1) := by decide +kernel
theorem dX2_refresh_22 : decode cX2_refresh 22 = .ok (.invokevirtual 44, 3) := by decide +kernel
theorem dX2_refresh_25 : decode cX2_refresh 25 = .ok (.putfield 32, 3) := by decide +kernel
theorem dX2_refresh_28 : decode cX2_refresh 28 = .ok (.aload_n 0, 1) := by decide +kernel
theorem dX2_refresh_29 : decode cX2_refresh 29 = .ok (.getfield 18, 3) := by decide +kernel
theorem dX2_refresh_32 : decode cX2_refresh 32 = .ok (.invokevirtual 47, 3) := by decide +kernel
theorem dX2_refresh_35 : decode cX2_refresh 35 = .ok (.iconst 0, 1) := by decide +kernel
theorem dX2_refresh_36 : decode cX2_refresh 36 = .ok (.istore_n 2, 1) := by decide +kernel
theorem dX2_refresh_37 : decode cX2_refresh 37 = .ok (.iload_n 2, 1) := by decide +kernel
theorem dX2_refresh_38 : decode cX2_refresh 38 = .ok (.aload_n 1, 1) := by decide +kernel
theorem dX2_refresh_39 : decode cX2_refresh 39 = .ok (.getfield 43, 3) := by decide +kernel
theorem dX2_refresh_42 : decode cX2_refresh 42 = .ok (.if_icmp .ge 37, 3) := by decide +kernel
theorem dX2_refresh_45 : decode cX2_refresh 45 = .ok (.aload_n 1, 1) := by decide +kernel
theorem dX2_refresh_46 : decode cX2_refresh 46 = .ok (.getfield 50, 3) := by decide +kernel
theorem dX2_refresh_49 : decode cX2_refresh 49 = .ok (.iload_n 2, 1) := by decide +kernel
theorem dX2_refresh_50 : decode cX2_refresh 50 = .ok (.invokestatic 53, 3) := by decide +kernel
theorem dX2_refresh_53 : decode cX2_refresh 53 = .ok (.ifCond .ne 20, 3) := by decide +kernel
theorem dX2_refresh_56 : decode cX2_refresh 56 = .ok (.aload_n 0, 1) := by decide +kernel
theorem dX2_refresh_57 : decode cX2_refresh 57 = .ok (.getfield 18, 3) := by decide +kernel
theorem dX2_refresh_60 : decode cX2_refresh 60 = .ok (.aload_n 1, 1) := by decide +kernel
theorem dX2_refresh_61 : decode cX2_refresh 61 = .ok (.getfield 57, 3) := by decide +kernel
theorem dX2_refresh_64 : decode cX2_refresh 64 = .ok (.iload_n 2, 1) := by decide +kernel
theorem dX2_refresh_65 : decode cX2_refresh 65 = .ok (.iaload, 1) := by decide +kernel
theorem dX2_refresh_66 : decode cX2_refresh 66 = .ok (.iconst 1, 1) := by decide +kernel
theorem dX2_refresh_67 : decode cX2_refresh 67 = .ok (.iload_n 2, 1) := by decide +kernel
theorem dX2_refresh_68 : decode cX2_refresh 68 = .ok (.ishl, 1) := by decide +kernel
theorem dX2_refresh_69 : decode cX2_refresh 69 = .ok (.ior, 1) := by decide +kernel
theorem dX2_refresh_70 : decode cX2_refresh 70 = .ok (.invokevirtual 60, 3) := by decide +kernel
theorem dX2_refresh_73 : decode cX2_refresh 73 = .ok (.iinc 2 1, 3) := by decide +kernel
theorem dX2_refresh_76 : decode cX2_refresh 76 = .ok (.goto (-39), 3) := by decide +kernel
theorem dX2_refresh_79 : decode cX2_refresh 79 = .ok (.aload_n 0, 1) := by decide +kernel
theorem dX2_refresh_80 : decode cX2_refresh 80 = .ok (.aload_n 0, 1) := by decide +kernel
theorem dX2_refresh_81 : decode cX2_refresh 81 = .ok (.getfield 21, 3) := by decide +kernel
theorem dX2_refresh_84 : decode cX2_refresh 84 = .ok (.aload_n 0, 1) := by decide +kernel
theorem dX2_refresh_85 : decode cX2_refresh 85 = .ok (.getfield 18, 3) := by decide +kernel
theorem dX2_refresh_88 : decode cX2_refresh 88 = .ok (.invokevirtual 64, 3) := by decide +kernel
theorem dX2_refresh_91 : decode cX2_refresh 91 = .ok (.aload_n 0, 1) := by decide +kernel
theorem dX2_refresh_92 : decode cX2_refresh 92 = .ok (.getfield 12, 3) := by decide +kernel
theorem dX2_refresh_95 : decode cX2_refresh 95 = .ok (.invokevirtual 47, 3) := by decide +kernel
theorem dX2_refresh_98 : decode cX2_refresh 98 = .ok (.iconst 0, 1) := by decide +kernel
theorem dX2_refresh_99 : decode cX2_refresh 99 = .ok (.istore_n 2, 1) := by decide +kernel
theorem dX2_refresh_100 : decode cX2_refresh 100 = .ok (.iload_n 2, 1) := by decide +kernel
theorem dX2_refresh_101 : decode cX2_refresh 101 = .ok (.aload_n 1, 1) := by decide +kernel
theorem dX2_refresh_102 : decode cX2_refresh 102 = .ok (.getfield 68, 3) := by decide +kernel
theorem dX2_refresh_105 : decode cX2_refresh 105 = .ok (.if_icmp .ge 22, 3) := by decide +kernel
theorem dX2_refresh_108 : decode cX2_refresh 108 = .ok (.aload_n 0, 1) := by decide +kernel
theorem dX2_refresh_109 : decode cX2_refresh 109 = .ok (.getfield 12, 3) := by decide +kernel
theorem dX2_refresh_112 : decode cX2_refresh 112 = .ok (.aload_n 1, 1) := by decide +kernel
theorem dX2_refresh_113 : decode cX2_refresh 113 = .ok (.getfield 71, 3) := by decide +kernel
theorem dX2_refresh_116 : decode cX2_refresh 116 = .ok (.iload_n 2, 1) := by decide +kernel
theorem dX2_refresh_117 : decode cX2_refresh 117 = .ok (.iaload, 1) := by decide +kernel
theorem dX2_refresh_118 : decode cX2_refresh 118 = .ok (.invokevirtual 60, 3) := by decide +kernel
theorem dX2_refresh_121 : decode cX2_refresh 121 = .ok (.iinc 2 1, 3) := by decide +kernel
theorem dX2_refresh_124 : decode cX2_refresh 124 = .ok (.goto (-24), 3) := by decide +kernel
theorem dX2_refresh_127 : decode cX2_refresh 127 = .ok (.aload_n 0, 1) := by decide +kernel
theorem dX2_refresh_128 : decode cX2_refresh 128 = .ok (.aload_n 0, 1) := by decide +kernel
theorem dX2_refresh_129 : decode cX2_refresh 129 = .ok (.getfield 25, 3) := by decide +kernel
theorem dX2_refresh_132 : decode cX2_refresh 132 = .ok (.aload_n 0, 1) := by decide +kernel
theorem dX2_refresh_133 : decode cX2_refresh 133 = .ok (.getfield 12, 3) := by decide +kernel
theorem dX2_refresh_136 : decode cX2_refresh 136 = .ok (.invokevirtual 64, 3) := by decide +kernel
theorem dX2_refresh_139 : decode cX2_refresh 139 = .ok (.aload_n 0, 1) := by decide +kernel
theorem dX2_refresh_140 : decode cX2_refresh 140 = .ok (.aload_n 1, 1) := by decide +kernel
theorem dX2_refresh_141 : decode cX2_refresh 141 = .ok (.getfield 38, 3) := by decide +kernel
theorem dX2_refresh_144 : decode cX2_refresh 144 = .ok (.putfield 35, 3) := by decide +kernel
theorem dX2_refresh_147 : decode cX2_refresh 147 = .ok (.return_, 1) := by decide +kernel
theorem dX2_fill_0 : decode cX2_fill 0 = .ok (.iconst 0, 1) := by decide +kernel
theorem dX2_fill_1 : decode cX2_fill 1 = .ok (.istore_n 3, 1) := by decide +kernel
theorem dX2_fill_2 : decode cX2_fill 2 = .ok (.iload_n 3, 1) := by decide +kernel
theorem dX2_fill_3 : decode cX2_fill 3 = .ok (.aload_n 0, 1) := by decide +kernel
theorem dX2_fill_4 : decode cX2_fill 4 = .ok (.getfield 32, 3) := by decide +kernel
theorem dX2_fill_7 : decode cX2_fill 7 = .ok (.if_icmp .gt 33, 3) := by decide +kernel
theorem dX2_fill_10 : decode cX2_fill 10 = .ok (.aload_n 1, 1) := by decide +kernel
theorem dX2_fill_11 : decode cX2_fill 11 = .ok (.iload_n 3, 1) := by decide +kernel
theorem dX2_fill_12 : decode cX2_fill 12 = .ok (.aload_n 2, 1) := by decide +kernel
theorem dX2_fill_13 : decode cX2_fill 13 = .ok (.iload_n 3, 1) := by decide +kernel
theorem dX2_fill_14 : decode cX2_fill 14 = .ok (.invokevirtual 74, 3) := by decide +kernel
theorem dX2_fill_17 : decode cX2_fill 17 = .ok (.ifCond .eq 10, 3) := by decide +kernel
theorem dX2_fill_20 : decode cX2_fill 20 = .ok (.iload_n 3, 1) := by decide +kernel
theorem dX2_fill_21 : decode cX2_fill 21 = .ok (.invokestatic 78, 3) := by decide +kernel
theorem dX2_fill_24 : decode cX2_fill 24 = .ok (.goto 9, 3) := by decide +kernel
theorem dX2_fill_27 : decode cX2_fill 27 = .ok (.aload_n 0, 1) := by decide +kernel
theorem dX2_fill_28 : decode cX2_fill 28 = .ok (.aload_n 1, 1) := by decide +kernel
theorem dX2_fill_29 : decode cX2_fill 29 = .ok (.iload_n 3, 1) := by decide +kernel
theorem dX2_fill_30 : decode cX2_fill 30 = .ok (.invokevirtual 84, 3) := by decide +kernel
theorem dX2_fill_33 : decode cX2_fill 33 = .ok (.iastore, 1) := by decide +kernel
theorem dX2_fill_34 : decode cX2_fill 34 = .ok (.iinc 3 1, 3) := by decide +kernel
theorem dX2_fill_37 : decode cX2_fill 37 = .ok (.goto (-35), 3) := by decide +kernel
theorem dX2_fill_40 : decode cX2_fill 40 = .ok (.return_, 1) := by decide +kernel
theorem dX2_greatestWithin_0 : decode cX2_greatestWithin 0 = .ok (.iconst 0, 1) := by decide +kernel
theorem dX2_greatestWithin_1 : decode cX2_greatestWithin 1 = .ok (.istore_n 3, 1) := by decide +kernel
theorem dX2_greatestWithin_2 : decode cX2_greatestWithin 2 = .ok (.iconst 0, 1) := by decide +kernel
theorem dX2_greatestWithin_3 : decode cX2_greatestWithin 3 = .ok (.istore 4, 2) := by decide +kernel
theorem dX2_greatestWithin_5 : decode cX2_greatestWithin 5 = .ok (.iload 4, 2) := by decide +kernel
theorem dX2_greatestWithin_7 : decode cX2_greatestWithin 7 = .ok (.aload_n 0, 1) := by decide +kernel
theorem dX2_greatestWithin_8 : decode cX2_greatestWithin 8 = .ok (.getfield 28, 3) := by decide +kernel
theorem dX2_greatestWithin_11 : decode cX2_greatestWithin 11 = .ok (.if_icmp .ge 33, 3) := by decide +kernel
theorem dX2_greatestWithin_14 : decode cX2_greatestWithin 14 = .ok (.iload_n 2, 1) := by decide +kernel
theorem dX2_greatestWithin_15 : decode cX2_greatestWithin 15 = .ok (.iload 4, 2) := by decide +kernel
theorem dX2_greatestWithin_17 : decode cX2_greatestWithin 17 = .ok (.invokestatic 53, 3) := by decide +kernel
theorem dX2_greatestWithin_20 : decode cX2_greatestWithin 20 = .ok (.ifCond .eq 18, 3) := by decide +kernel
theorem dX2_greatestWithin_23 : decode cX2_greatestWithin 23 = .ok (.iload_n 3, 1) := by decide +kernel
theorem dX2_greatestWithin_24 : decode cX2_greatestWithin 24 = .ok (.aload_n 1, 1) := by decide +kernel
theorem dX2_greatestWithin_25 : decode cX2_greatestWithin 25 = .ok (.iload_n 2, 1) := by decide +kernel
theorem dX2_greatestWithin_26 : decode cX2_greatestWithin 26 = .ok (.iconst 1, 1) := by decide +kernel
theorem dX2_greatestWithin_27 : decode cX2_greatestWithin 27 = .ok (.iload 4, 2) := by decide +kernel
theorem dX2_greatestWithin_29 : decode cX2_greatestWithin 29 = .ok (.ishl, 1) := by decide +kernel
theorem dX2_greatestWithin_30 : decode cX2_greatestWithin 30 = .ok (.iconst (-1), 1) := by decide +kernel
theorem dX2_greatestWithin_31 : decode cX2_greatestWithin 31 = .ok (.ixor, 1) := by decide +kernel
theorem dX2_greatestWithin_32 : decode cX2_greatestWithin 32 = .ok (.iand, 1) := by decide +kernel
theorem dX2_greatestWithin_33 : decode cX2_greatestWithin 33 = .ok (.iaload, 1) := by decide +kernel
theorem dX2_greatestWithin_34 : decode cX2_greatestWithin 34 = .ok (.invokestatic 88, 3) := by decide +kernel
theorem dX2_greatestWithin_37 : decode cX2_greatestWithin 37 = .ok (.istore_n 3, 1) := by decide +kernel
theorem dX2_greatestWithin_38 : decode cX2_greatestWithin 38 = .ok (.iinc 4 1, 3) := by decide +kernel
theorem dX2_greatestWithin_41 : decode cX2_greatestWithin 41 = .ok (.goto (-36), 3) := by decide +kernel
theorem dX2_greatestWithin_44 : decode cX2_greatestWithin 44 = .ok (.iload_n 3, 1) := by decide +kernel
theorem dX2_greatestWithin_45 : decode cX2_greatestWithin 45 = .ok (.ireturn, 1) := by decide +kernel
theorem dX2_of_0 : decode cX2_of 0 = .ok (.iload_n 1, 1) := by decide +kernel
theorem dX2_of_1 : decode cX2_of 1 = .ok (.ifCond .eq 8, 3) := by decide +kernel
theorem dX2_of_4 : decode cX2_of 4 = .ok (.iload_n 1, 1) := by decide +kernel
theorem dX2_of_5 : decode cX2_of 5 = .ok (.iconst 2, 1) := by decide +kernel
theorem dX2_of_6 : decode cX2_of 6 = .ok (.if_icmp .ne 10, 3) := by decide +kernel
theorem dX2_of_9 : decode cX2_of 9 = .ok (.aload_n 0, 1) := by decide +kernel
theorem dX2_of_10 : decode cX2_of 10 = .ok (.getfield 21, 3) := by decide +kernel
theorem dX2_of_13 : decode cX2_of 13 = .ok (.goto 7, 3) := by decide +kernel
theorem dX2_of_16 : decode cX2_of 16 = .ok (.aload_n 0, 1) := by decide +kernel
theorem dX2_of_17 : decode cX2_of 17 = .ok (.getfield 25, 3) := by decide +kernel
theorem dX2_of_20 : decode cX2_of 20 = .ok (.astore_n 3, 1) := by decide +kernel
theorem dX2_of_21 : decode cX2_of 21 = .ok (.iload_n 1, 1) := by decide +kernel
theorem dX2_of_22 : decode cX2_of 22 = .ok (.iconst 1, 1) := by decide +kernel
theorem dX2_of_23 : decode cX2_of 23 = .ok (.if_icmp .eq 8, 3) := by decide +kernel
theorem dX2_of_26 : decode cX2_of 26 = .ok (.iload_n 1, 1) := by decide +kernel
theorem dX2_of_27 : decode cX2_of 27 = .ok (.iconst 2, 1) := by decide +kernel
theorem dX2_of_28 : decode cX2_of 28 = .ok (.if_icmp .ne 7, 3) := by decide +kernel
theorem dX2_of_31 : decode cX2_of 31 = .ok (.aload_n 3, 1) := by decide +kernel
theorem dX2_of_32 : decode cX2_of 32 = .ok (.iload_n 2, 1) := by decide +kernel
theorem dX2_of_33 : decode cX2_of 33 = .ok (.iaload, 1) := by decide +kernel
theorem dX2_of_34 : decode cX2_of 34 = .ok (.ireturn, 1) := by decide +kernel
theorem dX2_of_35 : decode cX2_of 35 = .ok (.iload_n 2, 1) := by decide +kernel
theorem dX2_of_36 : decode cX2_of 36 = .ok (.invokestatic 78, 3) := by decide +kernel
theorem dX2_of_39 : decode cX2_of 39 = .ok (.aload_n 3, 1) := by decide +kernel
theorem dX2_of_40 : decode cX2_of 40 = .ok (.aload_n 0, 1) := by decide +kernel
theorem dX2_of_41 : decode cX2_of 41 = .ok (.getfield 32, 3) := by decide +kernel
theorem dX2_of_44 : decode cX2_of 44 = .ok (.iload_n 2, 1) := by decide +kernel
theorem dX2_of_45 : decode cX2_of 45 = .ok (.iconst (-1), 1) := by decide +kernel
theorem dX2_of_46 : decode cX2_of 46 = .ok (.ixor, 1) := by decide +kernel
theorem dX2_of_47 : decode cX2_of 47 = .ok (.iand, 1) := by decide +kernel
theorem dX2_of_48 : decode cX2_of 48 = .ok (.iaload, 1) := by decide +kernel
theorem dX2_of_49 : decode cX2_of 49 = .ok (.iadd, 1) := by decide +kernel
theorem dX2_of_50 : decode cX2_of 50 = .ok (.aload_n 3, 1) := by decide +kernel
theorem dX2_of_51 : decode cX2_of 51 = .ok (.aload_n 0, 1) := by decide +kernel
theorem dX2_of_52 : decode cX2_of 52 = .ok (.getfield 32, 3) := by decide +kernel
theorem dX2_of_55 : decode cX2_of 55 = .ok (.iaload, 1) := by decide +kernel
theorem dX2_of_56 : decode cX2_of 56 = .ok (.isub, 1) := by decide +kernel
theorem dX2_of_57 : decode cX2_of 57 = .ok (.ireturn, 1) := by decide +kernel
theorem dX2_isFree_0 : decode cX2_isFree 0 = .ok (.aload_n 0, 1) := by decide +kernel
theorem dX2_isFree_1 : decode cX2_isFree 1 = .ok (.iload_n 1, 1) := by decide +kernel
theorem dX2_isFree_2 : decode cX2_isFree 2 = .ok (.iload_n 2, 1) := by decide +kernel
theorem dX2_isFree_3 : decode cX2_isFree 3 = .ok (.invokevirtual 94, 3) := by decide +kernel
theorem dX2_isFree_6 : decode cX2_isFree 6 = .ok (.iload_n 2, 1) := by decide +kernel
theorem dX2_isFree_7 : decode cX2_isFree 7 = .ok (.invokestatic 78, 3) := by decide +kernel
theorem dX2_isFree_10 : decode cX2_isFree 10 = .ok (.if_icmp .ne 7, 3) := by decide +kernel
theorem dX2_isFree_13 : decode cX2_isFree 13 = .ok (.iconst 1, 1) := by decide +kernel
theorem dX2_isFree_14 : decode cX2_isFree 14 = .ok (.goto 4, 3) := by decide +kernel
theorem dX2_isFree_17 : decode cX2_isFree 17 = .ok (.iconst 0, 1) := by decide +kernel
theorem dX2_isFree_18 : decode cX2_isFree 18 = .ok (.ireturn, 1) := by decide +kernel
theorem dX2_isBase_0 : decode cX2_isBase 0 = .ok (.aload_n 0, 1) := by decide +kernel
theorem dX2_isBase_1 : decode cX2_isBase 1 = .ok (.iload_n 1, 1) := by decide +kernel
theorem dX2_isBase_2 : decode cX2_isBase 2 = .ok (.iload_n 2, 1) := by decide +kernel
theorem dX2_isBase_3 : decode cX2_isBase 3 = .ok (.invokevirtual 97, 3) := by decide +kernel
theorem dX2_isBase_6 : decode cX2_isBase 6 = .ok (.ifCond .eq 25, 3) := by decide +kernel
theorem dX2_isBase_9 : decode cX2_isBase 9 = .ok (.aload_n 0, 1) := by decide +kernel
theorem dX2_isBase_10 : decode cX2_isBase 10 = .ok (.iload_n 1, 1) := by decide +kernel
theorem dX2_isBase_11 : decode cX2_isBase 11 = .ok (.iload_n 2, 1) := by decide +kernel
theorem dX2_isBase_12 : decode cX2_isBase 12 = .ok (.invokevirtual 94, 3) := by decide +kernel
theorem dX2_isBase_15 : decode cX2_isBase 15 = .ok (.aload_n 0, 1) := by decide +kernel
theorem dX2_isBase_16 : decode cX2_isBase 16 = .ok (.iload_n 1, 1) := by decide +kernel
theorem dX2_isBase_17 : decode cX2_isBase 17 = .ok (.aload_n 0, 1) := by decide +kernel
theorem dX2_isBase_18 : decode cX2_isBase 18 = .ok (.getfield 32, 3) := by decide +kernel
theorem dX2_isBase_21 : decode cX2_isBase 21 = .ok (.invokevirtual 94, 3) := by decide +kernel
theorem dX2_isBase_24 : decode cX2_isBase 24 = .ok (.if_icmp .ne 7, 3) := by decide +kernel
theorem dX2_isBase_27 : decode cX2_isBase 27 = .ok (.iconst 1, 1) := by decide +kernel
theorem dX2_isBase_28 : decode cX2_isBase 28 = .ok (.goto 4, 3) := by decide +kernel
theorem dX2_isBase_31 : decode cX2_isBase 31 = .ok (.iconst 0, 1) := by decide +kernel
theorem dX2_isBase_32 : decode cX2_isBase 32 = .ok (.ireturn, 1) := by decide +kernel
theorem dX2_isOf_0 : decode cX2_isOf 0 = .ok (.iload_n 1, 1) := by decide +kernel
theorem dX2_isOf_1 : decode cX2_isOf 1 = .ok (.tableswitch 57 0 2 #[27, 34, 41], 27) := by decide +kernel
theorem dX2_isOf_28 : decode cX2_isOf 28 = .ok (.aload_n 0, 1) := by decide +kernel
theorem dX2_isOf_29 : decode cX2_isOf 29 = .ok (.iload_n 2, 1) := by decide +kernel
theorem dX2_isOf_30 : decode cX2_isOf 30 = .ok (.iload_n 3, 1) := by decide +kernel
theorem dX2_isOf_31 : decode cX2_isOf 31 = .ok (.invokevirtual 100, 3) := by decide +kernel
theorem dX2_isOf_34 : decode cX2_isOf 34 = .ok (.ireturn, 1) := by decide +kernel
theorem dX2_isOf_35 : decode cX2_isOf 35 = .ok (.aload_n 0, 1) := by decide +kernel
theorem dX2_isOf_36 : decode cX2_isOf 36 = .ok (.iload_n 2, 1) := by decide +kernel
theorem dX2_isOf_37 : decode cX2_isOf 37 = .ok (.iload_n 3, 1) := by decide +kernel
theorem dX2_isOf_38 : decode cX2_isOf 38 = .ok (.invokevirtual 103, 3) := by decide +kernel
theorem dX2_isOf_41 : decode cX2_isOf 41 = .ok (.ireturn, 1) := by decide +kernel
theorem dX2_isOf_42 : decode cX2_isOf 42 = .ok (.aload_n 0, 1) := by decide +kernel
theorem dX2_isOf_43 : decode cX2_isOf 43 = .ok (.iload_n 2, 1) := by decide +kernel
theorem dX2_isOf_44 : decode cX2_isOf 44 = .ok (.iload_n 3, 1) := by decide +kernel
theorem dX2_isOf_45 : decode cX2_isOf 45 = .ok (.invokevirtual 106, 3) := by decide +kernel
theorem dX2_isOf_48 : decode cX2_isOf 48 = .ok (.iload_n 3, 1) := by decide +kernel
theorem dX2_isOf_49 : decode cX2_isOf 49 = .ok (.if_icmp .ne 7, 3) := by decide +kernel
theorem dX2_isOf_52 : decode cX2_isOf 52 = .ok (.iconst 1, 1) := by decide +kernel
theorem dX2_isOf_53 : decode cX2_isOf 53 = .ok (.goto 4, 3) := by decide +kernel
theorem dX2_isOf_56 : decode cX2_isOf 56 = .ok (.iconst 0, 1) := by decide +kernel
theorem dX2_isOf_57 : decode cX2_isOf 57 = .ok (.ireturn, 1) := by decide +kernel
theorem dX2_isOf_58 : decode cX2_isOf 58 = .ok (.iconst 0, 1) := by decide +kernel
theorem dX2_isOf_59 : decode cX2_isOf 59 = .ok (.ireturn, 1) := by decide +kernel
theorem dX2_isCircuit_0 : decode cX2_isCircuit 0 = .ok (.aload_n 0, 1) := by decide +kernel
theorem dX2_isCircuit_1 : decode cX2_isCircuit 1 = .ok (.iload_n 1, 1) := by decide +kernel
theorem dX2_isCircuit_2 : decode cX2_isCircuit 2 = .ok (.iload_n 2, 1) := by decide +kernel
theorem dX2_isCircuit_3 : decode cX2_isCircuit 3 = .ok (.invokevirtual 97, 3) := by decide +kernel
theorem dX2_isCircuit_6 : decode cX2_isCircuit 6 = .ok (.ifCond .eq 5, 3) := by decide +kernel
theorem dX2_isCircuit_9 : decode cX2_isCircuit 9 = .ok (.iconst 0, 1) := by decide +kernel
theorem dX2_isCircuit_10 : decode cX2_isCircuit 10 = .ok (.ireturn, 1) := by decide +kernel
theorem dX2_isCircuit_11 : decode cX2_isCircuit 11 = .ok (.iconst 0, 1) := by decide +kernel
theorem dX2_isCircuit_12 : decode cX2_isCircuit 12 = .ok (.istore_n 3, 1) := by decide +kernel
theorem dX2_isCircuit_13 : decode cX2_isCircuit 13 = .ok (.iload_n 3, 1) := by decide +kernel
theorem dX2_isCircuit_14 : decode cX2_isCircuit 14 = .ok (.aload_n 0, 1) := by decide +kernel
theorem dX2_isCircuit_15 : decode cX2_isCircuit 15 = .ok (.getfield 28, 3) := by decide +kernel
theorem dX2_isCircuit_18 : decode cX2_isCircuit 18 = .ok (.if_icmp .ge 34, 3) := by decide +kernel
theorem dX2_isCircuit_21 : decode cX2_isCircuit 21 = .ok (.iload_n 2, 1) := by decide +kernel
theorem dX2_isCircuit_22 : decode cX2_isCircuit 22 = .ok (.iload_n 3, 1) := by decide +kernel
theorem dX2_isCircuit_23 : decode cX2_isCircuit 23 = .ok (.invokestatic 53, 3) := by decide +kernel
theorem dX2_isCircuit_26 : decode cX2_isCircuit 26 = .ok (.ifCond .eq 20, 3) := by decide +kernel
theorem dX2_isCircuit_29 : decode cX2_isCircuit 29 = .ok (.aload_n 0, 1) := by decide +kernel
theorem dX2_isCircuit_30 : decode cX2_isCircuit 30 = .ok (.iload_n 1, 1) := by decide +kernel
theorem dX2_isCircuit_31 : decode cX2_isCircuit 31 = .ok (.iload_n 2, 1) := by decide +kernel
theorem dX2_isCircuit_32 : decode cX2_isCircuit 32 = .ok (.iconst 1, 1) := by decide +kernel
theorem dX2_isCircuit_33 : decode cX2_isCircuit 33 = .ok (.iload_n 3, 1) := by decide +kernel
theorem dX2_isCircuit_34 : decode cX2_isCircuit 34 = .ok (.ishl, 1) := by decide +kernel
theorem dX2_isCircuit_35 : decode cX2_isCircuit 35 = .ok (.iconst (-1), 1) := by decide +kernel
theorem dX2_isCircuit_36 : decode cX2_isCircuit 36 = .ok (.ixor, 1) := by decide +kernel
theorem dX2_isCircuit_37 : decode cX2_isCircuit 37 = .ok (.iand, 1) := by decide +kernel
theorem dX2_isCircuit_38 : decode cX2_isCircuit 38 = .ok (.invokevirtual 97, 3) := by decide +kernel
theorem dX2_isCircuit_41 : decode cX2_isCircuit 41 = .ok (.ifCond .ne 5, 3) := by decide +kernel
theorem dX2_isCircuit_44 : decode cX2_isCircuit 44 = .ok (.iconst 0, 1) := by decide +kernel
theorem dX2_isCircuit_45 : decode cX2_isCircuit 45 = .ok (.ireturn, 1) := by decide +kernel
theorem dX2_isCircuit_46 : decode cX2_isCircuit 46 = .ok (.iinc 3 1, 3) := by decide +kernel
theorem dX2_isCircuit_49 : decode cX2_isCircuit 49 = .ok (.goto (-36), 3) := by decide +kernel
theorem dX2_isCircuit_52 : decode cX2_isCircuit 52 = .ok (.iconst 1, 1) := by decide +kernel
theorem dX2_isCircuit_53 : decode cX2_isCircuit 53 = .ok (.ireturn, 1) := by decide +kernel
theorem dX2_shutOf_0 : decode cX2_shutOf 0 = .ok (.iload_n 2, 1) := by decide +kernel
theorem dX2_shutOf_1 : decode cX2_shutOf 1 = .ok (.istore_n 3, 1) := by decide +kernel
theorem dX2_shutOf_2 : decode cX2_shutOf 2 = .ok (.iconst 0, 1) := by decide +kernel
theorem dX2_shutOf_3 : decode cX2_shutOf 3 = .ok (.istore 4, 2) := by decide +kernel
theorem dX2_shutOf_5 : decode cX2_shutOf 5 = .ok (.iload 4, 2) := by decide +kernel
theorem dX2_shutOf_7 : decode cX2_shutOf 7 = .ok (.aload_n 0, 1) := by decide +kernel
theorem dX2_shutOf_8 : decode cX2_shutOf 8 = .ok (.getfield 28, 3) := by decide +kernel
theorem dX2_shutOf_11 : decode cX2_shutOf 11 = .ok (.if_icmp .ge 36, 3) := by decide +kernel
theorem dX2_shutOf_14 : decode cX2_shutOf 14 = .ok (.aload_n 0, 1) := by decide +kernel
theorem dX2_shutOf_15 : decode cX2_shutOf 15 = .ok (.iload_n 1, 1) := by decide +kernel
theorem dX2_shutOf_16 : decode cX2_shutOf 16 = .ok (.iload_n 2, 1) := by decide +kernel
theorem dX2_shutOf_17 : decode cX2_shutOf 17 = .ok (.iconst 1, 1) := by decide +kernel
theorem dX2_shutOf_18 : decode cX2_shutOf 18 = .ok (.iload 4, 2) := by decide +kernel
theorem dX2_shutOf_20 : decode cX2_shutOf 20 = .ok (.ishl, 1) := by decide +kernel
theorem dX2_shutOf_21 : decode cX2_shutOf 21 = .ok (.ior, 1) := by decide +kernel
theorem dX2_shutOf_22 : decode cX2_shutOf 22 = .ok (.invokevirtual 94, 3) := by decide +kernel
theorem dX2_shutOf_25 : decode cX2_shutOf 25 = .ok (.aload_n 0, 1) := by decide +kernel
theorem dX2_shutOf_26 : decode cX2_shutOf 26 = .ok (.iload_n 1, 1) := by decide +kernel
theorem dX2_shutOf_27 : decode cX2_shutOf 27 = .ok (.iload_n 2, 1) := by decide +kernel
theorem dX2_shutOf_28 : decode cX2_shutOf 28 = .ok (.invokevirtual 94, 3) := by decide +kernel
theorem dX2_shutOf_31 : decode cX2_shutOf 31 = .ok (.if_icmp .ne 10, 3) := by decide +kernel
theorem dX2_shutOf_34 : decode cX2_shutOf 34 = .ok (.iload_n 3, 1) := by decide +kernel
theorem dX2_shutOf_35 : decode cX2_shutOf 35 = .ok (.iconst 1, 1) := by decide +kernel
theorem dX2_shutOf_36 : decode cX2_shutOf 36 = .ok (.iload 4, 2) := by decide +kernel
theorem dX2_shutOf_38 : decode cX2_shutOf 38 = .ok (.ishl, 1) := by decide +kernel
theorem dX2_shutOf_39 : decode cX2_shutOf 39 = .ok (.ior, 1) := by decide +kernel
theorem dX2_shutOf_40 : decode cX2_shutOf 40 = .ok (.istore_n 3, 1) := by decide +kernel
theorem dX2_shutOf_41 : decode cX2_shutOf 41 = .ok (.iinc 4 1, 3) := by decide +kernel
theorem dX2_shutOf_44 : decode cX2_shutOf 44 = .ok (.goto (-39), 3) := by decide +kernel
theorem dX2_shutOf_47 : decode cX2_shutOf 47 = .ok (.iload_n 3, 1) := by decide +kernel
theorem dX2_shutOf_48 : decode cX2_shutOf 48 = .ok (.ireturn, 1) := by decide +kernel
theorem dX2_boundOf_0 : decode cX2_boundOf 0 = .ok (.iconst 0, 1) := by decide +kernel
theorem dX2_boundOf_1 : decode cX2_boundOf 1 = .ok (.istore_n 2, 1) := by decide +kernel
theorem dX2_boundOf_2 : decode cX2_boundOf 2 = .ok (.iconst 0, 1) := by decide +kernel
theorem dX2_boundOf_3 : decode cX2_boundOf 3 = .ok (.istore_n 3, 1) := by decide +kernel
theorem dX2_boundOf_4 : decode cX2_boundOf 4 = .ok (.iload_n 3, 1) := by decide +kernel
theorem dX2_boundOf_5 : decode cX2_boundOf 5 = .ok (.aload_n 0, 1) := by decide +kernel
theorem dX2_boundOf_6 : decode cX2_boundOf 6 = .ok (.getfield 28, 3) := by decide +kernel
theorem dX2_boundOf_9 : decode cX2_boundOf 9 = .ok (.if_icmp .ge 42, 3) := by decide +kernel
theorem dX2_boundOf_12 : decode cX2_boundOf 12 = .ok (.aload_n 0, 1) := by decide +kernel
theorem dX2_boundOf_13 : decode cX2_boundOf 13 = .ok (.iload_n 1, 1) := by decide +kernel
theorem dX2_boundOf_14 : decode cX2_boundOf 14 = .ok (.aload_n 0, 1) := by decide +kernel
theorem dX2_boundOf_15 : decode cX2_boundOf 15 = .ok (.getfield 32, 3) := by decide +kernel
theorem dX2_boundOf_18 : decode cX2_boundOf 18 = .ok (.iconst 1, 1) := by decide +kernel
theorem dX2_boundOf_19 : decode cX2_boundOf 19 = .ok (.iload_n 3, 1) := by decide +kernel
theorem dX2_boundOf_20 : decode cX2_boundOf 20 = .ok (.ishl, 1) := by decide +kernel
theorem dX2_boundOf_21 : decode cX2_boundOf 21 = .ok (.iconst (-1), 1) := by decide +kernel
theorem dX2_boundOf_22 : decode cX2_boundOf 22 = .ok (.ixor, 1) := by decide +kernel
theorem dX2_boundOf_23 : decode cX2_boundOf 23 = .ok (.iand, 1) := by decide +kernel
theorem dX2_boundOf_24 : decode cX2_boundOf 24 = .ok (.invokevirtual 94, 3) := by decide +kernel
theorem dX2_boundOf_27 : decode cX2_boundOf 27 = .ok (.aload_n 0, 1) := by decide +kernel
theorem dX2_boundOf_28 : decode cX2_boundOf 28 = .ok (.iload_n 1, 1) := by decide +kernel
theorem dX2_boundOf_29 : decode cX2_boundOf 29 = .ok (.aload_n 0, 1) := by decide +kernel
theorem dX2_boundOf_30 : decode cX2_boundOf 30 = .ok (.getfield 32, 3) := by decide +kernel
theorem dX2_boundOf_33 : decode cX2_boundOf 33 = .ok (.invokevirtual 94, 3) := by decide +kernel
theorem dX2_boundOf_36 : decode cX2_boundOf 36 = .ok (.if_icmp .ge 9, 3) := by decide +kernel
theorem dX2_boundOf_39 : decode cX2_boundOf 39 = .ok (.iload_n 2, 1) := by decide +kernel
theorem dX2_boundOf_40 : decode cX2_boundOf 40 = .ok (.iconst 1, 1) := by decide +kernel
theorem dX2_boundOf_41 : decode cX2_boundOf 41 = .ok (.iload_n 3, 1) := by decide +kernel
theorem dX2_boundOf_42 : decode cX2_boundOf 42 = .ok (.ishl, 1) := by decide +kernel
theorem dX2_boundOf_43 : decode cX2_boundOf 43 = .ok (.ior, 1) := by decide +kernel
theorem dX2_boundOf_44 : decode cX2_boundOf 44 = .ok (.istore_n 2, 1) := by decide +kernel
theorem dX2_boundOf_45 : decode cX2_boundOf 45 = .ok (.iinc 3 1, 3) := by decide +kernel
theorem dX2_boundOf_48 : decode cX2_boundOf 48 = .ok (.goto (-44), 3) := by decide +kernel
theorem dX2_boundOf_51 : decode cX2_boundOf 51 = .ok (.iload_n 2, 1) := by decide +kernel
theorem dX2_boundOf_52 : decode cX2_boundOf 52 = .ok (.ireturn, 1) := by decide +kernel
theorem dX2_roundOf_0 : decode cX2_roundOf 0 = .ok (.iconst 0, 1) := by decide +kernel
theorem dX2_roundOf_1 : decode cX2_roundOf 1 = .ok (.istore_n 3, 1) := by decide +kernel
theorem dX2_roundOf_2 : decode cX2_roundOf 2 = .ok (.iconst 0, 1) := by decide +kernel
theorem dX2_roundOf_3 : decode cX2_roundOf 3 = .ok (.istore 4, 2) := by decide +kernel
theorem dX2_roundOf_5 : decode cX2_roundOf 5 = .ok (.iload 4, 2) := by decide +kernel
theorem dX2_roundOf_7 : decode cX2_roundOf 7 = .ok (.aload_n 0, 1) := by decide +kernel
theorem dX2_roundOf_8 : decode cX2_roundOf 8 = .ok (.getfield 28, 3) := by decide +kernel
theorem dX2_roundOf_11 : decode cX2_roundOf 11 = .ok (.if_icmp .ge 41, 3) := by decide +kernel
theorem dX2_roundOf_14 : decode cX2_roundOf 14 = .ok (.iload_n 2, 1) := by decide +kernel
theorem dX2_roundOf_15 : decode cX2_roundOf 15 = .ok (.iload 4, 2) := by decide +kernel
theorem dX2_roundOf_17 : decode cX2_roundOf 17 = .ok (.invokestatic 53, 3) := by decide +kernel
theorem dX2_roundOf_20 : decode cX2_roundOf 20 = .ok (.ifCond .eq 26, 3) := by decide +kernel
theorem dX2_roundOf_23 : decode cX2_roundOf 23 = .ok (.aload_n 0, 1) := by decide +kernel
theorem dX2_roundOf_24 : decode cX2_roundOf 24 = .ok (.iload_n 1, 1) := by decide +kernel
theorem dX2_roundOf_25 : decode cX2_roundOf 25 = .ok (.iload_n 2, 1) := by decide +kernel
theorem dX2_roundOf_26 : decode cX2_roundOf 26 = .ok (.iconst 1, 1) := by decide +kernel
theorem dX2_roundOf_27 : decode cX2_roundOf 27 = .ok (.iload 4, 2) := by decide +kernel
theorem dX2_roundOf_29 : decode cX2_roundOf 29 = .ok (.ishl, 1) := by decide +kernel
theorem dX2_roundOf_30 : decode cX2_roundOf 30 = .ok (.iconst (-1), 1) := by decide +kernel
theorem dX2_roundOf_31 : decode cX2_roundOf 31 = .ok (.ixor, 1) := by decide +kernel
theorem dX2_roundOf_32 : decode cX2_roundOf 32 = .ok (.iand, 1) := by decide +kernel
theorem dX2_roundOf_33 : decode cX2_roundOf 33 = .ok (.invokevirtual 100, 3) := by decide +kernel
theorem dX2_roundOf_36 : decode cX2_roundOf 36 = .ok (.ifCond .eq 10, 3) := by decide +kernel
theorem dX2_roundOf_39 : decode cX2_roundOf 39 = .ok (.iload_n 3, 1) := by decide +kernel
theorem dX2_roundOf_40 : decode cX2_roundOf 40 = .ok (.iconst 1, 1) := by decide +kernel
theorem dX2_roundOf_41 : decode cX2_roundOf 41 = .ok (.iload 4, 2) := by decide +kernel
theorem dX2_roundOf_43 : decode cX2_roundOf 43 = .ok (.ishl, 1) := by decide +kernel
theorem dX2_roundOf_44 : decode cX2_roundOf 44 = .ok (.ior, 1) := by decide +kernel
theorem dX2_roundOf_45 : decode cX2_roundOf 45 = .ok (.istore_n 3, 1) := by decide +kernel
theorem dX2_roundOf_46 : decode cX2_roundOf 46 = .ok (.iinc 4 1, 3) := by decide +kernel
theorem dX2_roundOf_49 : decode cX2_roundOf 49 = .ok (.goto (-44), 3) := by decide +kernel
theorem dX2_roundOf_52 : decode cX2_roundOf 52 = .ok (.iload_n 3, 1) := by decide +kernel
theorem dX2_roundOf_53 : decode cX2_roundOf 53 = .ok (.ireturn, 1) := by decide +kernel
theorem dX2_swapOf_0 : decode cX2_swapOf 0 = .ok (.iconst 0, 1) := by decide +kernel
theorem dX2_swapOf_1 : decode cX2_swapOf 1 = .ok (.istore 4, 2) := by decide +kernel
theorem dX2_swapOf_3 : decode cX2_swapOf 3 = .ok (.iload 4, 2) := by decide +kernel
theorem dX2_swapOf_5 : decode cX2_swapOf 5 = .ok (.aload_n 0, 1) := by decide +kernel
theorem dX2_swapOf_6 : decode cX2_swapOf 6 = .ok (.getfield 28, 3) := by decide +kernel
theorem dX2_swapOf_9 : decode cX2_swapOf 9 = .ok (.if_icmp .ge 35, 3) := by decide +kernel
theorem dX2_swapOf_12 : decode cX2_swapOf 12 = .ok (.iload_n 3, 1) := by decide +kernel
theorem dX2_swapOf_13 : decode cX2_swapOf 13 = .ok (.iload 4, 2) := by decide +kernel
theorem dX2_swapOf_15 : decode cX2_swapOf 15 = .ok (.invokestatic 53, 3) := by decide +kernel
theorem dX2_swapOf_18 : decode cX2_swapOf 18 = .ok (.ifCond .eq 20, 3) := by decide +kernel
theorem dX2_swapOf_21 : decode cX2_swapOf 21 = .ok (.aload_n 0, 1) := by decide +kernel
theorem dX2_swapOf_22 : decode cX2_swapOf 22 = .ok (.iload_n 1, 1) := by decide +kernel
theorem dX2_swapOf_23 : decode cX2_swapOf 23 = .ok (.iload_n 2, 1) := by decide +kernel
theorem dX2_swapOf_24 : decode cX2_swapOf 24 = .ok (.iconst 1, 1) := by decide +kernel
theorem dX2_swapOf_25 : decode cX2_swapOf 25 = .ok (.iload 4, 2) := by decide +kernel
theorem dX2_swapOf_27 : decode cX2_swapOf 27 = .ok (.ishl, 1) := by decide +kernel
theorem dX2_swapOf_28 : decode cX2_swapOf 28 = .ok (.ior, 1) := by decide +kernel
theorem dX2_swapOf_29 : decode cX2_swapOf 29 = .ok (.invokevirtual 100, 3) := by decide +kernel
theorem dX2_swapOf_32 : decode cX2_swapOf 32 = .ok (.ifCond .eq 6, 3) := by decide +kernel
theorem dX2_swapOf_35 : decode cX2_swapOf 35 = .ok (.iload 4, 2) := by decide +kernel
theorem dX2_swapOf_37 : decode cX2_swapOf 37 = .ok (.ireturn, 1) := by decide +kernel
theorem dX2_swapOf_38 : decode cX2_swapOf 38 = .ok (.iinc 4 1, 3) := by decide +kernel
theorem dX2_swapOf_41 : decode cX2_swapOf 41 = .ok (.goto (-38), 3) := by decide +kernel
theorem dX2_swapOf_44 : decode cX2_swapOf 44 = .ok (.bipush (-5), 2) := by decide +kernel
theorem dX2_swapOf_46 : decode cX2_swapOf 46 = .ok (.ireturn, 1) := by decide +kernel
theorem dX2_stepsUp_0 : decode cX2_stepsUp 0 = .ok (.iconst 0, 1) := by decide +kernel
theorem dX2_stepsUp_1 : decode cX2_stepsUp 1 = .ok (.istore_n 3, 1) := by decide +kernel
theorem dX2_stepsUp_2 : decode cX2_stepsUp 2 = .ok (.iconst 0, 1) := by decide +kernel
theorem dX2_stepsUp_3 : decode cX2_stepsUp 3 = .ok (.istore 4, 2) := by decide +kernel
theorem dX2_stepsUp_5 : decode cX2_stepsUp 5 = .ok (.iload 4, 2) := by decide +kernel
theorem dX2_stepsUp_7 : decode cX2_stepsUp 7 = .ok (.aload_n 0, 1) := by decide +kernel
theorem dX2_stepsUp_8 : decode cX2_stepsUp 8 = .ok (.getfield 28, 3) := by decide +kernel
theorem dX2_stepsUp_11 : decode cX2_stepsUp 11 = .ok (.if_icmp .ge 72, 3) := by decide +kernel
theorem dX2_stepsUp_14 : decode cX2_stepsUp 14 = .ok (.iload 4, 2) := by decide +kernel
theorem dX2_stepsUp_16 : decode cX2_stepsUp 16 = .ok (.iconst 1, 1) := by decide +kernel
theorem dX2_stepsUp_17 : decode cX2_stepsUp 17 = .ok (.iadd, 1) := by decide +kernel
theorem dX2_stepsUp_18 : decode cX2_stepsUp 18 = .ok (.istore 5, 2) := by decide +kernel
theorem dX2_stepsUp_20 : decode cX2_stepsUp 20 = .ok (.iload 5, 2) := by decide +kernel
theorem dX2_stepsUp_22 : decode cX2_stepsUp 22 = .ok (.aload_n 0, 1) := by decide +kernel
theorem dX2_stepsUp_23 : decode cX2_stepsUp 23 = .ok (.getfield 28, 3) := by decide +kernel
theorem dX2_stepsUp_26 : decode cX2_stepsUp 26 = .ok (.if_icmp .ge 51, 3) := by decide +kernel
theorem dX2_stepsUp_29 : decode cX2_stepsUp 29 = .ok (.iload_n 2, 1) := by decide +kernel
theorem dX2_stepsUp_30 : decode cX2_stepsUp 30 = .ok (.iload 4, 2) := by decide +kernel
theorem dX2_stepsUp_32 : decode cX2_stepsUp 32 = .ok (.invokestatic 53, 3) := by decide +kernel
theorem dX2_stepsUp_35 : decode cX2_stepsUp 35 = .ok (.ifCond .eq 36, 3) := by decide +kernel
theorem dX2_stepsUp_38 : decode cX2_stepsUp 38 = .ok (.iload_n 2, 1) := by decide +kernel
theorem dX2_stepsUp_39 : decode cX2_stepsUp 39 = .ok (.iload 5, 2) := by decide +kernel
theorem dX2_stepsUp_41 : decode cX2_stepsUp 41 = .ok (.invokestatic 53, 3) := by decide +kernel
theorem dX2_stepsUp_44 : decode cX2_stepsUp 44 = .ok (.ifCond .ne 27, 3) := by decide +kernel
theorem dX2_stepsUp_47 : decode cX2_stepsUp 47 = .ok (.aload_n 0, 1) := by decide +kernel
theorem dX2_stepsUp_48 : decode cX2_stepsUp 48 = .ok (.iload_n 1, 1) := by decide +kernel
theorem dX2_stepsUp_49 : decode cX2_stepsUp 49 = .ok (.iload_n 2, 1) := by decide +kernel
theorem dX2_stepsUp_50 : decode cX2_stepsUp 50 = .ok (.iconst 1, 1) := by decide +kernel
theorem dX2_stepsUp_51 : decode cX2_stepsUp 51 = .ok (.iload 4, 2) := by decide +kernel
theorem dX2_stepsUp_53 : decode cX2_stepsUp 53 = .ok (.ishl, 1) := by decide +kernel
theorem dX2_stepsUp_54 : decode cX2_stepsUp 54 = .ok (.iconst (-1), 1) := by decide +kernel
theorem dX2_stepsUp_55 : decode cX2_stepsUp 55 = .ok (.ixor, 1) := by decide +kernel
theorem dX2_stepsUp_56 : decode cX2_stepsUp 56 = .ok (.iand, 1) := by decide +kernel
theorem dX2_stepsUp_57 : decode cX2_stepsUp 57 = .ok (.iconst 1, 1) := by decide +kernel
theorem dX2_stepsUp_58 : decode cX2_stepsUp 58 = .ok (.iload 5, 2) := by decide +kernel
theorem dX2_stepsUp_60 : decode cX2_stepsUp 60 = .ok (.ishl, 1) := by decide +kernel
theorem dX2_stepsUp_61 : decode cX2_stepsUp 61 = .ok (.ior, 1) := by decide +kernel
theorem dX2_stepsUp_62 : decode cX2_stepsUp 62 = .ok (.invokevirtual 100, 3) := by decide +kernel
theorem dX2_stepsUp_65 : decode cX2_stepsUp 65 = .ok (.ifCond .eq 6, 3) := by decide +kernel
theorem dX2_stepsUp_68 : decode cX2_stepsUp 68 = .ok (.iinc 3 1, 3) := by decide +kernel
theorem dX2_stepsUp_71 : decode cX2_stepsUp 71 = .ok (.iinc 5 1, 3) := by decide +kernel
theorem dX2_stepsUp_74 : decode cX2_stepsUp 74 = .ok (.goto (-54), 3) := by decide +kernel
theorem dX2_stepsUp_77 : decode cX2_stepsUp 77 = .ok (.iinc 4 1, 3) := by decide +kernel
theorem dX2_stepsUp_80 : decode cX2_stepsUp 80 = .ok (.goto (-75), 3) := by decide +kernel
theorem dX2_stepsUp_83 : decode cX2_stepsUp 83 = .ok (.iload_n 3, 1) := by decide +kernel
theorem dX2_stepsUp_84 : decode cX2_stepsUp 84 = .ok (.ireturn, 1) := by decide +kernel
theorem dX2_stays_0 : decode cX2_stays 0 = .ok (.aload_n 0, 1) := by decide +kernel
theorem dX2_stays_1 : decode cX2_stays 1 = .ok (.getfield 18, 3) := by decide +kernel
theorem dX2_stays_4 : decode cX2_stays 4 = .ok (.invokevirtual 47, 3) := by decide +kernel
theorem dX2_stays_7 : decode cX2_stays 7 = .ok (.iconst 0, 1) := by decide +kernel
theorem dX2_stays_8 : decode cX2_stays 8 = .ok (.istore 4, 2) := by decide +kernel
theorem dX2_stays_10 : decode cX2_stays 10 = .ok (.iload 4, 2) := by decide +kernel
theorem dX2_stays_12 : decode cX2_stays 12 = .ok (.aload_n 1, 1) := by decide +kernel
theorem dX2_stays_13 : decode cX2_stays 13 = .ok (.getfield 68, 3) := by decide +kernel
theorem dX2_stays_16 : decode cX2_stays 16 = .ok (.if_icmp .ge 33, 3) := by decide +kernel
theorem dX2_stays_19 : decode cX2_stays 19 = .ok (.aload_n 0, 1) := by decide +kernel
theorem dX2_stays_20 : decode cX2_stays 20 = .ok (.getfield 18, 3) := by decide +kernel
theorem dX2_stays_23 : decode cX2_stays 23 = .ok (.iload 4, 2) := by decide +kernel
theorem dX2_stays_25 : decode cX2_stays 25 = .ok (.iload_n 2, 1) := by decide +kernel
theorem dX2_stays_26 : decode cX2_stays 26 = .ok (.if_icmp .ne 7, 3) := by decide +kernel
theorem dX2_stays_29 : decode cX2_stays 29 = .ok (.iload_n 3, 1) := by decide +kernel
theorem dX2_stays_30 : decode cX2_stays 30 = .ok (.goto 10, 3) := by decide +kernel
theorem dX2_stays_33 : decode cX2_stays 33 = .ok (.aload_n 1, 1) := by decide +kernel
theorem dX2_stays_34 : decode cX2_stays 34 = .ok (.getfield 71, 3) := by decide +kernel
theorem dX2_stays_37 : decode cX2_stays 37 = .ok (.iload 4, 2) := by decide +kernel
theorem dX2_stays_39 : decode cX2_stays 39 = .ok (.iaload, 1) := by decide +kernel
theorem dX2_stays_40 : decode cX2_stays 40 = .ok (.invokevirtual 60, 3) := by decide +kernel
theorem dX2_stays_43 : decode cX2_stays 43 = .ok (.iinc 4 1, 3) := by decide +kernel
theorem dX2_stays_46 : decode cX2_stays 46 = .ok (.goto (-36), 3) := by decide +kernel
theorem dX2_stays_49 : decode cX2_stays 49 = .ok (.aload_n 0, 1) := by decide +kernel
theorem dX2_stays_50 : decode cX2_stays 50 = .ok (.getfield 18, 3) := by decide +kernel
theorem dX2_stays_53 : decode cX2_stays 53 = .ok (.aload_n 0, 1) := by decide +kernel
theorem dX2_stays_54 : decode cX2_stays 54 = .ok (.getfield 12, 3) := by decide +kernel
theorem dX2_stays_57 : decode cX2_stays 57 = .ok (.invokevirtual 109, 3) := by decide +kernel
theorem dX2_stays_60 : decode cX2_stays 60 = .ok (.ireturn, 1) := by decide +kernel
theorem dX3_init_0 : decode cX3_init 0 = .ok (.aload_n 0, 1) := by decide +kernel
theorem dX3_init_1 : decode cX3_init 1 = .ok (.invokespecial 3, 3) := by decide +kernel
theorem dX3_init_4 : decode cX3_init 4 = .ok (.aload_n 0, 1) := by decide +kernel
theorem dX3_init_5 : decode cX3_init 5 = .ok (.sipush 800, 3) := by decide +kernel
theorem dX3_init_8 : decode cX3_init 8 = .ok (.newarray .char, 2) := by decide +kernel
theorem dX3_init_10 : decode cX3_init 10 = .ok (.putfield 9, 3) := by decide +kernel
theorem dX3_init_13 : decode cX3_init 13 = .ok (.aload_n 0, 1) := by decide +kernel
theorem dX3_init_14 : decode cX3_init 14 = .ok (.iconst 0, 1) := by decide +kernel
theorem dX3_init_15 : decode cX3_init 15 = .ok (.putfield 15, 3) := by decide +kernel
theorem dX3_init_18 : decode cX3_init 18 = .ok (.aload_n 0, 1) := by decide +kernel
theorem dX3_init_19 : decode cX3_init 19 = .ok (.iconst (-1), 1) := by decide +kernel
theorem dX3_init_20 : decode cX3_init 20 = .ok (.putfield 19, 3) := by decide +kernel
theorem dX3_init_23 : decode cX3_init 23 = .ok (.return_, 1) := by decide +kernel
theorem dX3_spell_0 : decode cX3_spell 0 = .ok (.aload_n 0, 1) := by decide +kernel
theorem dX3_spell_1 : decode cX3_spell 1 = .ok (.getfield 19, 3) := by decide +kernel
theorem dX3_spell_4 : decode cX3_spell 4 = .ok (.aload_n 1, 1) := by decide +kernel
theorem dX3_spell_5 : decode cX3_spell 5 = .ok (.getfield 22, 3) := by decide +kernel
theorem dX3_spell_8 : decode cX3_spell 8 = .ok (.if_icmp .ne 4, 3) := by decide +kernel
theorem dX3_spell_11 : decode cX3_spell 11 = .ok (.return_, 1) := by decide +kernel
theorem dX3_spell_12 : decode cX3_spell 12 = .ok (.aload_n 0, 1) := by decide +kernel
theorem dX3_spell_13 : decode cX3_spell 13 = .ok (.iconst 0, 1) := by decide +kernel
theorem dX3_spell_14 : decode cX3_spell 14 = .ok (.putfield 15, 3) := by decide +kernel
theorem dX3_spell_17 : decode cX3_spell 17 = .ok (.aload_n 0, 1) := by decide +kernel
theorem dX3_spell_18 : decode cX3_spell 18 = .ok (.ldc 27, 2) := by decide +kernel
theorem dX3_spell_20 : decode cX3_spell 20 = .ok (.invokevirtual 29, 3) := by decide +kernel
theorem dX3_spell_23 : decode cX3_spell 23 = .ok (.aload_n 0, 1) := by decide +kernel
theorem dX3_spell_24 : decode cX3_spell 24 = .ok (.aload_n 1, 1) := by decide +kernel
theorem dX3_spell_25 : decode cX3_spell 25 = .ok (.getfield 33, 3) := by decide +kernel
theorem dX3_spell_28 : decode cX3_spell 28 = .ok (.invokevirtual 35, 3) := by decide +kernel
theorem dX3_spell_31 : decode cX3_spell 31 = .ok (.aload_n 0, 1) := by decide +kernel
theorem dX3_spell_32 : decode cX3_spell 32 = .ok (.aload_n 1, 1) := by decide +kernel
theorem dX3_spell_33 : decode cX3_spell 33 = .ok (.invokevirtual 39, 3) := by decide +kernel
theorem dX3_spell_36 : decode cX3_spell 36 = .ok (.aload_n 0, 1) := by decide +kernel
theorem dX3_spell_37 : decode cX3_spell 37 = .ok (.ldc 43, 2) := by decide +kernel
theorem dX3_spell_39 : decode cX3_spell 39 = .ok (.aload_n 1, 1) := by decide +kernel
theorem dX3_spell_40 : decode cX3_spell 40 = .ok (.getfield 45, 3) := by decide +kernel
theorem dX3_spell_43 : decode cX3_spell 43 = .ok (.invokevirtual 48, 3) := by decide +kernel
theorem dX3_spell_46 : decode cX3_spell 46 = .ok (.iconst 0, 1) := by decide +kernel
theorem dX3_spell_47 : decode cX3_spell 47 = .ok (.istore_n 2, 1) := by decide +kernel
theorem dX3_spell_48 : decode cX3_spell 48 = .ok (.iload_n 2, 1) := by decide +kernel
theorem dX3_spell_49 : decode cX3_spell 49 = .ok (.aload_n 1, 1) := by decide +kernel
theorem dX3_spell_50 : decode cX3_spell 50 = .ok (.getfield 52, 3) := by decide +kernel
theorem dX3_spell_53 : decode cX3_spell 53 = .ok (.if_icmp .ge 19, 3) := by decide +kernel
theorem dX3_spell_56 : decode cX3_spell 56 = .ok (.aload_n 0, 1) := by decide +kernel
theorem dX3_spell_57 : decode cX3_spell 57 = .ok (.aload_n 1, 1) := by decide +kernel
theorem dX3_spell_58 : decode cX3_spell 58 = .ok (.getfield 55, 3) := by decide +kernel
theorem dX3_spell_61 : decode cX3_spell 61 = .ok (.iload_n 2, 1) := by decide +kernel
theorem dX3_spell_62 : decode cX3_spell 62 = .ok (.iaload, 1) := by decide +kernel
theorem dX3_spell_63 : decode cX3_spell 63 = .ok (.invokevirtual 59, 3) := by decide +kernel
theorem dX3_spell_66 : decode cX3_spell 66 = .ok (.iinc 2 1, 3) := by decide +kernel
theorem dX3_spell_69 : decode cX3_spell 69 = .ok (.goto (-21), 3) := by decide +kernel
theorem dX3_spell_72 : decode cX3_spell 72 = .ok (.aload_n 0, 1) := by decide +kernel
theorem dX3_spell_73 : decode cX3_spell 73 = .ok (.aload_n 1, 1) := by decide +kernel
theorem dX3_spell_74 : decode cX3_spell 74 = .ok (.invokevirtual 62, 3) := by decide +kernel
theorem dX3_spell_77 : decode cX3_spell 77 = .ok (.aload_n 0, 1) := by decide +kernel
theorem dX3_spell_78 : decode cX3_spell 78 = .ok (.aload_n 1, 1) := by decide +kernel
theorem dX3_spell_79 : decode cX3_spell 79 = .ok (.getfield 22, 3) := by decide +kernel
theorem dX3_spell_82 : decode cX3_spell 82 = .ok (.putfield 19, 3) := by decide +kernel
theorem dX3_spell_85 : decode cX3_spell 85 = .ok (.return_, 1) := by decide +kernel
theorem dX3_writeRoads_0 : decode cX3_writeRoads 0 = .ok (.iconst 0, 1) := by decide +kernel
theorem dX3_writeRoads_1 : decode cX3_writeRoads 1 = .ok (.istore_n 2, 1) := by decide +kernel
theorem dX3_writeRoads_2 : decode cX3_writeRoads 2 = .ok (.iload_n 2, 1) := by decide +kernel
theorem dX3_writeRoads_3 : decode cX3_writeRoads 3 = .ok (.aload_n 1, 1) := by decide +kernel
theorem dX3_writeRoads_4 : decode cX3_writeRoads 4 = .ok (.getfield 33, 3) := by decide +kernel
theorem dX3_writeRoads_7 : decode cX3_writeRoads 7 = .ok (.if_icmp .ge 57, 3) := by decide +kernel
theorem dX3_writeRoads_10 : decode cX3_writeRoads 10 = .ok (.iconst 0, 1) := by decide +kernel
theorem dX3_writeRoads_11 : decode cX3_writeRoads 11 = .ok (.istore_n 3, 1) := by decide +kernel
theorem dX3_writeRoads_12 : decode cX3_writeRoads 12 = .ok (.iload_n 3, 1) := by decide +kernel
theorem dX3_writeRoads_13 : decode cX3_writeRoads 13 = .ok (.aload_n 1, 1) := by decide +kernel
theorem dX3_writeRoads_14 : decode cX3_writeRoads 14 = .ok (.getfield 33, 3) := by decide +kernel
theorem dX3_writeRoads_17 : decode cX3_writeRoads 17 = .ok (.if_icmp .ge 41, 3) := by decide +kernel
theorem dX3_writeRoads_20 : decode cX3_writeRoads 20 = .ok (.aload_n 1, 1) := by decide +kernel
theorem dX3_writeRoads_21 : decode cX3_writeRoads 21 = .ok (.getfield 65, 3) := by decide +kernel
theorem dX3_writeRoads_24 : decode cX3_writeRoads 24 = .ok (.iload_n 2, 1) := by decide +kernel
theorem dX3_writeRoads_25 : decode cX3_writeRoads 25 = .ok (.iaload, 1) := by decide +kernel
theorem dX3_writeRoads_26 : decode cX3_writeRoads 26 = .ok (.iload_n 3, 1) := by decide +kernel
theorem dX3_writeRoads_27 : decode cX3_writeRoads 27 = .ok (.invokestatic 68, 3) := by decide +kernel
theorem dX3_writeRoads_30 : decode cX3_writeRoads 30 = .ok (.ifCond .ne 6, 3) := by decide +kernel
theorem dX3_writeRoads_33 : decode cX3_writeRoads 33 = .ok (.goto 19, 3) := by decide +kernel
theorem dX3_writeRoads_36 : decode cX3_writeRoads 36 = .ok (.aload_n 0, 1) := by decide +kernel
theorem dX3_writeRoads_37 : decode cX3_writeRoads 37 = .ok (.ldc 72, 2) := by decide +kernel
theorem dX3_writeRoads_39 : decode cX3_writeRoads 39 = .ok (.invokevirtual 29, 3) := by decide +kernel
theorem dX3_writeRoads_42 : decode cX3_writeRoads 42 = .ok (.aload_n 0, 1) := by decide +kernel
theorem dX3_writeRoads_43 : decode cX3_writeRoads 43 = .ok (.iload_n 2, 1) := by decide +kernel
theorem dX3_writeRoads_44 : decode cX3_writeRoads 44 = .ok (.invokevirtual 35, 3) := by decide +kernel
theorem dX3_writeRoads_47 : decode cX3_writeRoads 47 = .ok (.aload_n 0, 1) := by decide +kernel
theorem dX3_writeRoads_48 : decode cX3_writeRoads 48 = .ok (.iload_n 3, 1) := by decide +kernel
theorem dX3_writeRoads_49 : decode cX3_writeRoads 49 = .ok (.invokevirtual 35, 3) := by decide +kernel
theorem dX3_writeRoads_52 : decode cX3_writeRoads 52 = .ok (.iinc 3 1, 3) := by decide +kernel
theorem dX3_writeRoads_55 : decode cX3_writeRoads 55 = .ok (.goto (-43), 3) := by decide +kernel
theorem dX3_writeRoads_58 : decode cX3_writeRoads 58 = .ok (.iinc 2 1, 3) := by decide +kernel
theorem dX3_writeRoads_61 : decode cX3_writeRoads 61 = .ok (.goto (-59), 3) := by decide +kernel
theorem dX3_writeRoads_64 : decode cX3_writeRoads 64 = .ok (.return_, 1) := by decide +kernel
theorem dX3_writePostsOf_0 : decode cX3_writePostsOf 0 = .ok (.iconst 0, 1) := by decide +kernel
theorem dX3_writePostsOf_1 : decode cX3_writePostsOf 1 = .ok (.istore_n 3, 1) := by decide +kernel
theorem dX3_writePostsOf_2 : decode cX3_writePostsOf 2 = .ok (.iload_n 3, 1) := by decide +kernel
theorem dX3_writePostsOf_3 : decode cX3_writePostsOf 3 = .ok (.bipush 8, 2) := by decide +kernel
theorem dX3_writePostsOf_5 : decode cX3_writePostsOf 5 = .ok (.if_icmp .ge 36, 3) := by decide +kernel
theorem dX3_writePostsOf_8 : decode cX3_writePostsOf 8 = .ok (.iload_n 2, 1) := by decide +kernel
theorem dX3_writePostsOf_9 : decode cX3_writePostsOf 9 = .ok (.iload_n 3, 1) := by decide +kernel
theorem dX3_writePostsOf_10 : decode cX3_writePostsOf 10 = .ok (.invokestatic 68, 3) := by decide +kernel
theorem dX3_writePostsOf_13 : decode cX3_writePostsOf 13 = .ok (.ifCond .ne 6, 3) := by decide +kernel
theorem dX3_writePostsOf_16 : decode cX3_writePostsOf 16 = .ok (.goto 19, 3) := by decide +kernel
theorem dX3_writePostsOf_19 : decode cX3_writePostsOf 19 = .ok (.aload_n 0, 1) := by decide +kernel
theorem dX3_writePostsOf_20 : decode cX3_writePostsOf 20 = .ok (.ldc 74, 2) := by decide +kernel
theorem dX3_writePostsOf_22 : decode cX3_writePostsOf 22 = .ok (.invokevirtual 29, 3) := by decide +kernel
theorem dX3_writePostsOf_25 : decode cX3_writePostsOf 25 = .ok (.aload_n 0, 1) := by decide +kernel
theorem dX3_writePostsOf_26 : decode cX3_writePostsOf 26 = .ok (.aload_n 1, 1) := by decide +kernel
theorem dX3_writePostsOf_27 : decode cX3_writePostsOf 27 = .ok (.invokevirtual 29, 3) := by decide +kernel
theorem dX3_writePostsOf_30 : decode cX3_writePostsOf 30 = .ok (.aload_n 0, 1) := by decide +kernel
theorem dX3_writePostsOf_31 : decode cX3_writePostsOf 31 = .ok (.iload_n 3, 1) := by decide +kernel
theorem dX3_writePostsOf_32 : decode cX3_writePostsOf 32 = .ok (.invokevirtual 35, 3) := by decide +kernel
theorem dX3_writePostsOf_35 : decode cX3_writePostsOf 35 = .ok (.iinc 3 1, 3) := by decide +kernel
theorem dX3_writePostsOf_38 : decode cX3_writePostsOf 38 = .ok (.goto (-36), 3) := by decide +kernel
theorem dX3_writePostsOf_41 : decode cX3_writePostsOf 41 = .ok (.return_, 1) := by decide +kernel
theorem dX3_writeSet_0 : decode cX3_writeSet 0 = .ok (.aload_n 0, 1) := by decide +kernel
theorem dX3_writeSet_1 : decode cX3_writeSet 1 = .ok (.ldc 76, 2) := by decide +kernel
theorem dX3_writeSet_3 : decode cX3_writeSet 3 = .ok (.invokevirtual 29, 3) := by decide +kernel
theorem dX3_writeSet_6 : decode cX3_writeSet 6 = .ok (.iconst 0, 1) := by decide +kernel
theorem dX3_writeSet_7 : decode cX3_writeSet 7 = .ok (.istore_n 2, 1) := by decide +kernel
theorem dX3_writeSet_8 : decode cX3_writeSet 8 = .ok (.iload_n 2, 1) := by decide +kernel
theorem dX3_writeSet_9 : decode cX3_writeSet 9 = .ok (.bipush 8, 2) := by decide +kernel
theorem dX3_writeSet_11 : decode cX3_writeSet 11 = .ok (.if_icmp .ge 22, 3) := by decide +kernel
theorem dX3_writeSet_14 : decode cX3_writeSet 14 = .ok (.iload_n 1, 1) := by decide +kernel
theorem dX3_writeSet_15 : decode cX3_writeSet 15 = .ok (.iload_n 2, 1) := by decide +kernel
theorem dX3_writeSet_16 : decode cX3_writeSet 16 = .ok (.invokestatic 68, 3) := by decide +kernel
theorem dX3_writeSet_19 : decode cX3_writeSet 19 = .ok (.ifCond .eq 8, 3) := by decide +kernel
theorem dX3_writeSet_22 : decode cX3_writeSet 22 = .ok (.aload_n 0, 1) := by decide +kernel
theorem dX3_writeSet_23 : decode cX3_writeSet 23 = .ok (.iload_n 2, 1) := by decide +kernel
theorem dX3_writeSet_24 : decode cX3_writeSet 24 = .ok (.invokevirtual 35, 3) := by decide +kernel
theorem dX3_writeSet_27 : decode cX3_writeSet 27 = .ok (.iinc 2 1, 3) := by decide +kernel
theorem dX3_writeSet_30 : decode cX3_writeSet 30 = .ok (.goto (-22), 3) := by decide +kernel
theorem dX3_writeSet_33 : decode cX3_writeSet 33 = .ok (.return_, 1) := by decide +kernel
theorem dX3_writeWeights_0 : decode cX3_writeWeights 0 = .ok (.iconst 0, 1) := by decide +kernel
theorem dX3_writeWeights_1 : decode cX3_writeWeights 1 = .ok (.istore_n 2, 1) := by decide +kernel
theorem dX3_writeWeights_2 : decode cX3_writeWeights 2 = .ok (.iload_n 2, 1) := by decide +kernel
theorem dX3_writeWeights_3 : decode cX3_writeWeights 3 = .ok (.aload_n 1, 1) := by decide +kernel
theorem dX3_writeWeights_4 : decode cX3_writeWeights 4 = .ok (.getfield 33, 3) := by decide +kernel
theorem dX3_writeWeights_7 : decode cX3_writeWeights 7 = .ok (.if_icmp .ge 42, 3) := by decide +kernel
theorem dX3_writeWeights_10 : decode cX3_writeWeights 10 = .ok (.aload_n 1, 1) := by decide +kernel
theorem dX3_writeWeights_11 : decode cX3_writeWeights 11 = .ok (.getfield 78, 3) := by decide +kernel
theorem dX3_writeWeights_14 : decode cX3_writeWeights 14 = .ok (.iload_n 2, 1) := by decide +kernel
theorem dX3_writeWeights_15 : decode cX3_writeWeights 15 = .ok (.iaload, 1) := by decide +kernel
theorem dX3_writeWeights_16 : decode cX3_writeWeights 16 = .ok (.ifCond .ne 6, 3) := by decide +kernel
theorem dX3_writeWeights_19 : decode cX3_writeWeights 19 = .ok (.goto 24, 3) := by decide +kernel
theorem dX3_writeWeights_22 : decode cX3_writeWeights 22 = .ok (.aload_n 0, 1) := by decide +kernel
theorem dX3_writeWeights_23 : decode cX3_writeWeights 23 = .ok (.ldc 81, 2) := by decide +kernel
theorem dX3_writeWeights_25 : decode cX3_writeWeights 25 = .ok (.invokevirtual 29, 3) := by decide +kernel
theorem dX3_writeWeights_28 : decode cX3_writeWeights 28 = .ok (.aload_n 0, 1) := by decide +kernel
theorem dX3_writeWeights_29 : decode cX3_writeWeights 29 = .ok (.iload_n 2, 1) := by decide +kernel
theorem dX3_writeWeights_30 : decode cX3_writeWeights 30 = .ok (.invokevirtual 35, 3) := by decide +kernel
theorem dX3_writeWeights_33 : decode cX3_writeWeights 33 = .ok (.aload_n 0, 1) := by decide +kernel
theorem dX3_writeWeights_34 : decode cX3_writeWeights 34 = .ok (.aload_n 1, 1) := by decide +kernel
theorem dX3_writeWeights_35 : decode cX3_writeWeights 35 = .ok (.getfield 78, 3) := by decide +kernel
theorem dX3_writeWeights_38 : decode cX3_writeWeights 38 = .ok (.iload_n 2, 1) := by decide +kernel
theorem dX3_writeWeights_39 : decode cX3_writeWeights 39 = .ok (.iaload, 1) := by decide +kernel
theorem dX3_writeWeights_40 : decode cX3_writeWeights 40 = .ok (.invokevirtual 35, 3) := by decide +kernel
theorem dX3_writeWeights_43 : decode cX3_writeWeights 43 = .ok (.iinc 2 1, 3) := by decide +kernel
theorem dX3_writeWeights_46 : decode cX3_writeWeights 46 = .ok (.goto (-44), 3) := by decide +kernel
theorem dX3_writeWeights_49 : decode cX3_writeWeights 49 = .ok (.return_, 1) := by decide +kernel
theorem dX3_writeNumber_0 : decode cX3_writeNumber 0 = .ok (.aload_n 0, 1) := by decide +kernel
theorem dX3_writeNumber_1 : decode cX3_writeNumber 1 = .ok (.bipush 32, 2) := by decide +kernel
theorem dX3_writeNumber_3 : decode cX3_writeNumber 3 = .ok (.invokevirtual 83, 3) := by decide +kernel
theorem dX3_writeNumber_6 : decode cX3_writeNumber 6 = .ok (.iload_n 1, 1) := by decide +kernel
theorem dX3_writeNumber_7 : decode cX3_writeNumber 7 = .ok (.bipush 10, 2) := by decide +kernel
theorem dX3_writeNumber_9 : decode cX3_writeNumber 9 = .ok (.if_icmp .lt 15, 3) := by decide +kernel
theorem dX3_writeNumber_12 : decode cX3_writeNumber 12 = .ok (.aload_n 0, 1) := by decide +kernel
theorem dX3_writeNumber_13 : decode cX3_writeNumber 13 = .ok (.bipush 48, 2) := by decide +kernel
theorem dX3_writeNumber_15 : decode cX3_writeNumber 15 = .ok (.iload_n 1, 1) := by decide +kernel
theorem dX3_writeNumber_16 : decode cX3_writeNumber 16 = .ok (.bipush 10, 2) := by decide +kernel
theorem dX3_writeNumber_18 : decode cX3_writeNumber 18 = .ok (.idiv, 1) := by decide +kernel
theorem dX3_writeNumber_19 : decode cX3_writeNumber 19 = .ok (.iadd, 1) := by decide +kernel
theorem dX3_writeNumber_20 : decode cX3_writeNumber 20 = .ok (.i2c, 1) := by decide +kernel
theorem dX3_writeNumber_21 : decode cX3_writeNumber 21 = .ok (.invokevirtual 83, 3) := by decide +kernel
theorem dX3_writeNumber_24 : decode cX3_writeNumber 24 = .ok (.aload_n 0, 1) := by decide +kernel
theorem dX3_writeNumber_25 : decode cX3_writeNumber 25 = .ok (.bipush 48, 2) := by decide +kernel
theorem dX3_writeNumber_27 : decode cX3_writeNumber 27 = .ok (.iload_n 1, 1) := by decide +kernel
theorem dX3_writeNumber_28 : decode cX3_writeNumber 28 = .ok (.bipush 10, 2) := by decide +kernel
theorem dX3_writeNumber_30 : decode cX3_writeNumber 30 = .ok (.irem, 1) := by decide +kernel
theorem dX3_writeNumber_31 : decode cX3_writeNumber 31 = .ok (.iadd, 1) := by decide +kernel
theorem dX3_writeNumber_32 : decode cX3_writeNumber 32 = .ok (.i2c, 1) := by decide +kernel
theorem dX3_writeNumber_33 : decode cX3_writeNumber 33 = .ok (.invokevirtual 83, 3) := by decide +kernel
theorem dX3_writeNumber_36 : decode cX3_writeNumber 36 = .ok (.return_, 1) := by decide +kernel
theorem dX3_write_0 : decode cX3_write 0 = .ok (.iconst 0, 1) := by decide +kernel
theorem dX3_write_1 : decode cX3_write 1 = .ok (.istore_n 2, 1) := by decide +kernel
theorem dX3_write_2 : decode cX3_write 2 = .ok (.iload_n 2, 1) := by decide +kernel
theorem dX3_write_3 : decode cX3_write 3 = .ok (.aload_n 1, 1) := by decide +kernel
theorem dX3_write_4 : decode cX3_write 4 = .ok (.invokevirtual 87, 3) := by decide +kernel
theorem dX3_write_7 : decode cX3_write 7 = .ok (.if_icmp .ge 18, 3) := by decide +kernel
theorem dX3_write_10 : decode cX3_write 10 = .ok (.aload_n 0, 1) := by decide +kernel
theorem dX3_write_11 : decode cX3_write 11 = .ok (.aload_n 1, 1) := by decide +kernel
theorem dX3_write_12 : decode cX3_write 12 = .ok (.iload_n 2, 1) := by decide +kernel
theorem dX3_write_13 : decode cX3_write 13 = .ok (.invokevirtual 92, 3) := by decide +kernel
theorem dX3_write_16 : decode cX3_write 16 = .ok (.invokevirtual 83, 3) := by decide +kernel
theorem dX3_write_19 : decode cX3_write 19 = .ok (.iinc 2 1, 3) := by decide +kernel
theorem dX3_write_22 : decode cX3_write 22 = .ok (.goto (-20), 3) := by decide +kernel
theorem dX3_write_25 : decode cX3_write 25 = .ok (.return_, 1) := by decide +kernel
theorem dX3_writeSign_0 : decode cX3_writeSign 0 = .ok (.aload_n 0, 1) := by decide +kernel
theorem dX3_writeSign_1 : decode cX3_writeSign 1 = .ok (.getfield 15, 3) := by decide +kernel
theorem dX3_writeSign_4 : decode cX3_writeSign 4 = .ok (.sipush 800, 3) := by decide +kernel
theorem dX3_writeSign_7 : decode cX3_writeSign 7 = .ok (.if_icmp .lt 4, 3) := by decide +kernel
theorem dX3_writeSign_10 : decode cX3_writeSign 10 = .ok (.return_, 1) := by decide +kernel
theorem dX3_writeSign_11 : decode cX3_writeSign 11 = .ok (.aload_n 0, 1) := by decide +kernel
theorem dX3_writeSign_12 : decode cX3_writeSign 12 = .ok (.getfield 9, 3) := by decide +kernel
theorem dX3_writeSign_15 : decode cX3_writeSign 15 = .ok (.aload_n 0, 1) := by decide +kernel
theorem dX3_writeSign_16 : decode cX3_writeSign 16 = .ok (.getfield 15, 3) := by decide +kernel
theorem dX3_writeSign_19 : decode cX3_writeSign 19 = .ok (.iload_n 1, 1) := by decide +kernel
theorem dX3_writeSign_20 : decode cX3_writeSign 20 = .ok (.castore, 1) := by decide +kernel
theorem dX3_writeSign_21 : decode cX3_writeSign 21 = .ok (.aload_n 0, 1) := by decide +kernel
theorem dX3_writeSign_22 : decode cX3_writeSign 22 = .ok (.dup, 1) := by decide +kernel
theorem dX3_writeSign_23 : decode cX3_writeSign 23 = .ok (.getfield 15, 3) := by decide +kernel
theorem dX3_writeSign_26 : decode cX3_writeSign 26 = .ok (.iconst 1, 1) := by decide +kernel
theorem dX3_writeSign_27 : decode cX3_writeSign 27 = .ok (.iadd, 1) := by decide +kernel
theorem dX3_writeSign_28 : decode cX3_writeSign 28 = .ok (.putfield 15, 3) := by decide +kernel
theorem dX3_writeSign_31 : decode cX3_writeSign 31 = .ok (.return_, 1) := by decide +kernel
theorem dX4_init_0 : decode cX4_init 0 = .ok (.aload_n 0, 1) := by decide +kernel
theorem dX4_init_1 : decode cX4_init 1 = .ok (.invokespecial 3, 3) := by decide +kernel
theorem dX4_init_4 : decode cX4_init 4 = .ok (.aload_n 0, 1) := by decide +kernel
theorem dX4_init_5 : decode cX4_init 5 = .ok (.iconst 1, 1) := by decide +kernel
theorem dX4_init_6 : decode cX4_init 6 = .ok (.putfield 9, 3) := by decide +kernel
theorem dX4_init_9 : decode cX4_init 9 = .ok (.aload_n 0, 1) := by decide +kernel
theorem dX4_init_10 : decode cX4_init 10 = .ok (.iconst 0, 1) := by decide +kernel
theorem dX4_init_11 : decode cX4_init 11 = .ok (.putfield 15, 3) := by decide +kernel
theorem dX4_init_14 : decode cX4_init 14 = .ok (.aload_n 0, 1) := by decide +kernel
theorem dX4_init_15 : decode cX4_init 15 = .ok (.iconst 0, 1) := by decide +kernel
theorem dX4_init_16 : decode cX4_init 16 = .ok (.putfield 18, 3) := by decide +kernel
theorem dX4_init_19 : decode cX4_init 19 = .ok (.aload_n 0, 1) := by decide +kernel
theorem dX4_init_20 : decode cX4_init 20 = .ok (.iconst 0, 1) := by decide +kernel
theorem dX4_init_21 : decode cX4_init 21 = .ok (.putfield 21, 3) := by decide +kernel
theorem dX4_init_24 : decode cX4_init 24 = .ok (.aload_n 0, 1) := by decide +kernel
theorem dX4_init_25 : decode cX4_init 25 = .ok (.bipush 8, 2) := by decide +kernel
theorem dX4_init_27 : decode cX4_init 27 = .ok (.newarray .int, 2) := by decide +kernel
theorem dX4_init_29 : decode cX4_init 29 = .ok (.putfield 24, 3) := by decide +kernel
theorem dX4_init_32 : decode cX4_init 32 = .ok (.aload_n 0, 1) := by decide +kernel
theorem dX4_init_33 : decode cX4_init 33 = .ok (.bipush 8, 2) := by decide +kernel
theorem dX4_init_35 : decode cX4_init 35 = .ok (.newarray .int, 2) := by decide +kernel
theorem dX4_init_37 : decode cX4_init 37 = .ok (.putfield 28, 3) := by decide +kernel
theorem dX4_init_40 : decode cX4_init 40 = .ok (.aload_n 0, 1) := by decide +kernel
theorem dX4_init_41 : decode cX4_init 41 = .ok (.bipush 8, 2) := by decide +kernel
theorem dX4_init_43 : decode cX4_init 43 = .ok (.newarray .int, 2) := by decide +kernel
theorem dX4_init_45 : decode cX4_init 45 = .ok (.putfield 31, 3) := by decide +kernel
theorem dX4_init_48 : decode cX4_init 48 = .ok (.return_, 1) := by decide +kernel
theorem dX4_all_0 : decode cX4_all 0 = .ok (.iconst 1, 1) := by decide +kernel
theorem dX4_all_1 : decode cX4_all 1 = .ok (.aload_n 0, 1) := by decide +kernel
theorem dX4_all_2 : decode cX4_all 2 = .ok (.getfield 9, 3) := by decide +kernel
theorem dX4_all_5 : decode cX4_all 5 = .ok (.ishl, 1) := by decide +kernel
theorem dX4_all_6 : decode cX4_all 6 = .ok (.iconst 1, 1) := by decide +kernel
theorem dX4_all_7 : decode cX4_all 7 = .ok (.isub, 1) := by decide +kernel
theorem dX4_all_8 : decode cX4_all 8 = .ok (.ireturn, 1) := by decide +kernel
theorem dX4_isPost_0 : decode cX4_isPost 0 = .ok (.iload_n 1, 1) := by decide +kernel
theorem dX4_isPost_1 : decode cX4_isPost 1 = .ok (.ifCond .lt 15, 3) := by decide +kernel
theorem dX4_isPost_4 : decode cX4_isPost 4 = .ok (.iload_n 1, 1) := by decide +kernel
theorem dX4_isPost_5 : decode cX4_isPost 5 = .ok (.aload_n 0, 1) := by decide +kernel
theorem dX4_isPost_6 : decode cX4_isPost 6 = .ok (.getfield 9, 3) := by decide +kernel
theorem dX4_isPost_9 : decode cX4_isPost 9 = .ok (.if_icmp .ge 7, 3) := by decide +kernel
theorem dX4_isPost_12 : decode cX4_isPost 12 = .ok (.iconst 1, 1) := by decide +kernel
theorem dX4_isPost_13 : decode cX4_isPost 13 = .ok (.goto 4, 3) := by decide +kernel
theorem dX4_isPost_16 : decode cX4_isPost 16 = .ok (.iconst 0, 1) := by decide +kernel
theorem dX4_isPost_17 : decode cX4_isPost 17 = .ok (.ireturn, 1) := by decide +kernel
theorem dX4_isSet_0 : decode cX4_isSet 0 = .ok (.iload_n 1, 1) := by decide +kernel
theorem dX4_isSet_1 : decode cX4_isSet 1 = .ok (.ifCond .lt 15, 3) := by decide +kernel
theorem dX4_isSet_4 : decode cX4_isSet 4 = .ok (.iload_n 1, 1) := by decide +kernel
theorem dX4_isSet_5 : decode cX4_isSet 5 = .ok (.aload_n 0, 1) := by decide +kernel
theorem dX4_isSet_6 : decode cX4_isSet 6 = .ok (.invokevirtual 34, 3) := by decide +kernel
theorem dX4_isSet_9 : decode cX4_isSet 9 = .ok (.if_icmp .gt 7, 3) := by decide +kernel
theorem dX4_isSet_12 : decode cX4_isSet 12 = .ok (.iconst 1, 1) := by decide +kernel
theorem dX4_isSet_13 : decode cX4_isSet 13 = .ok (.goto 4, 3) := by decide +kernel
theorem dX4_isSet_16 : decode cX4_isSet 16 = .ok (.iconst 0, 1) := by decide +kernel
theorem dX4_isSet_17 : decode cX4_isSet 17 = .ok (.ireturn, 1) := by decide +kernel
theorem dX4_isNumber_0 : decode cX4_isNumber 0 = .ok (.iload_n 1, 1) := by decide +kernel
theorem dX4_isNumber_1 : decode cX4_isNumber 1 = .ok (.ifCond .lt 15, 3) := by decide +kernel
theorem dX4_isNumber_4 : decode cX4_isNumber 4 = .ok (.iload_n 1, 1) := by decide +kernel
theorem dX4_isNumber_5 : decode cX4_isNumber 5 = .ok (.aload_n 0, 1) := by decide +kernel
theorem dX4_isNumber_6 : decode cX4_isNumber 6 = .ok (.getfield 18, 3) := by decide +kernel
theorem dX4_isNumber_9 : decode cX4_isNumber 9 = .ok (.if_icmp .ge 7, 3) := by decide +kernel
theorem dX4_isNumber_12 : decode cX4_isNumber 12 = .ok (.iconst 1, 1) := by decide +kernel
theorem dX4_isNumber_13 : decode cX4_isNumber 13 = .ok (.goto 4, 3) := by decide +kernel
theorem dX4_isNumber_16 : decode cX4_isNumber 16 = .ok (.iconst 0, 1) := by decide +kernel
theorem dX4_isNumber_17 : decode cX4_isNumber 17 = .ok (.ireturn, 1) := by decide +kernel
theorem dX4_begin_0 : decode cX4_begin 0 = .ok (.aload_n 0, 1) := by decide +kernel
theorem dX4_begin_1 : decode cX4_begin 1 = .ok (.iload_n 1, 1) := by decide +kernel
theorem dX4_begin_2 : decode cX4_begin 2 = .ok (.putfield 9, 3) := by decide +kernel
theorem dX4_begin_5 : decode cX4_begin 5 = .ok (.aload_n 0, 1) := by decide +kernel
theorem dX4_begin_6 : decode cX4_begin 6 = .ok (.iconst 0, 1) := by decide +kernel
theorem dX4_begin_7 : decode cX4_begin 7 = .ok (.putfield 15, 3) := by decide +kernel
theorem dX4_begin_10 : decode cX4_begin 10 = .ok (.aload_n 0, 1) := by decide +kernel
theorem dX4_begin_11 : decode cX4_begin 11 = .ok (.iconst 0, 1) := by decide +kernel
theorem dX4_begin_12 : decode cX4_begin 12 = .ok (.putfield 18, 3) := by decide +kernel
theorem dX4_begin_15 : decode cX4_begin 15 = .ok (.iconst 0, 1) := by decide +kernel
theorem dX4_begin_16 : decode cX4_begin 16 = .ok (.istore_n 2, 1) := by decide +kernel
theorem dX4_begin_17 : decode cX4_begin 17 = .ok (.iload_n 2, 1) := by decide +kernel
theorem dX4_begin_18 : decode cX4_begin 18 = .ok (.bipush 8, 2) := by decide +kernel
theorem dX4_begin_20 : decode cX4_begin 20 = .ok (.if_icmp .ge 23, 3) := by decide +kernel
theorem dX4_begin_23 : decode cX4_begin 23 = .ok (.aload_n 0, 1) := by decide +kernel
theorem dX4_begin_24 : decode cX4_begin 24 = .ok (.getfield 24, 3) := by decide +kernel
theorem dX4_begin_27 : decode cX4_begin 27 = .ok (.iload_n 2, 1) := by decide +kernel
theorem dX4_begin_28 : decode cX4_begin 28 = .ok (.iconst 0, 1) := by decide +kernel
theorem dX4_begin_29 : decode cX4_begin 29 = .ok (.iastore, 1) := by decide +kernel
theorem dX4_begin_30 : decode cX4_begin 30 = .ok (.aload_n 0, 1) := by decide +kernel
theorem dX4_begin_31 : decode cX4_begin 31 = .ok (.getfield 28, 3) := by decide +kernel
theorem dX4_begin_34 : decode cX4_begin 34 = .ok (.iload_n 2, 1) := by decide +kernel
theorem dX4_begin_35 : decode cX4_begin 35 = .ok (.iconst 0, 1) := by decide +kernel
theorem dX4_begin_36 : decode cX4_begin 36 = .ok (.iastore, 1) := by decide +kernel
theorem dX4_begin_37 : decode cX4_begin 37 = .ok (.iinc 2 1, 3) := by decide +kernel
theorem dX4_begin_40 : decode cX4_begin 40 = .ok (.goto (-23), 3) := by decide +kernel
theorem dX4_begin_43 : decode cX4_begin 43 = .ok (.aload_n 0, 1) := by decide +kernel
theorem dX4_begin_44 : decode cX4_begin 44 = .ok (.dup, 1) := by decide +kernel
theorem dX4_begin_45 : decode cX4_begin 45 = .ok (.getfield 21, 3) := by decide +kernel
theorem dX4_begin_48 : decode cX4_begin 48 = .ok (.iconst 1, 1) := by decide +kernel
theorem dX4_begin_49 : decode cX4_begin 49 = .ok (.iadd, 1) := by decide +kernel
theorem dX4_begin_50 : decode cX4_begin 50 = .ok (.putfield 21, 3) := by decide +kernel
theorem dX4_begin_53 : decode cX4_begin 53 = .ok (.return_, 1) := by decide +kernel
theorem dX4_lay_0 : decode cX4_lay 0 = .ok (.aload_n 0, 1) := by decide +kernel
theorem dX4_lay_1 : decode cX4_lay 1 = .ok (.getfield 24, 3) := by decide +kernel
theorem dX4_lay_4 : decode cX4_lay 4 = .ok (.iload_n 1, 1) := by decide +kernel
theorem dX4_lay_5 : decode cX4_lay 5 = .ok (.iload_n 3, 1) := by decide +kernel
theorem dX4_lay_6 : decode cX4_lay 6 = .ok (.ifCond .eq 16, 3) := by decide +kernel
theorem dX4_lay_9 : decode cX4_lay 9 = .ok (.aload_n 0, 1) := by decide +kernel
theorem dX4_lay_10 : decode cX4_lay 10 = .ok (.getfield 24, 3) := by decide +kernel
theorem dX4_lay_13 : decode cX4_lay 13 = .ok (.iload_n 1, 1) := by decide +kernel
theorem dX4_lay_14 : decode cX4_lay 14 = .ok (.iaload, 1) := by decide +kernel
theorem dX4_lay_15 : decode cX4_lay 15 = .ok (.iconst 1, 1) := by decide +kernel
theorem dX4_lay_16 : decode cX4_lay 16 = .ok (.iload_n 2, 1) := by decide +kernel
theorem dX4_lay_17 : decode cX4_lay 17 = .ok (.ishl, 1) := by decide +kernel
theorem dX4_lay_18 : decode cX4_lay 18 = .ok (.ior, 1) := by decide +kernel
theorem dX4_lay_19 : decode cX4_lay 19 = .ok (.goto 15, 3) := by decide +kernel
theorem dX4_lay_22 : decode cX4_lay 22 = .ok (.aload_n 0, 1) := by decide +kernel
theorem dX4_lay_23 : decode cX4_lay 23 = .ok (.getfield 24, 3) := by decide +kernel
theorem dX4_lay_26 : decode cX4_lay 26 = .ok (.iload_n 1, 1) := by decide +kernel
theorem dX4_lay_27 : decode cX4_lay 27 = .ok (.iaload, 1) := by decide +kernel
theorem dX4_lay_28 : decode cX4_lay 28 = .ok (.iconst 1, 1) := by decide +kernel
theorem dX4_lay_29 : decode cX4_lay 29 = .ok (.iload_n 2, 1) := by decide +kernel
theorem dX4_lay_30 : decode cX4_lay 30 = .ok (.ishl, 1) := by decide +kernel
theorem dX4_lay_31 : decode cX4_lay 31 = .ok (.iconst (-1), 1) := by decide +kernel
theorem dX4_lay_32 : decode cX4_lay 32 = .ok (.ixor, 1) := by decide +kernel
theorem dX4_lay_33 : decode cX4_lay 33 = .ok (.iand, 1) := by decide +kernel
theorem dX4_lay_34 : decode cX4_lay 34 = .ok (.iastore, 1) := by decide +kernel
theorem dX4_lay_35 : decode cX4_lay 35 = .ok (.aload_n 0, 1) := by decide +kernel
theorem dX4_lay_36 : decode cX4_lay 36 = .ok (.dup, 1) := by decide +kernel
theorem dX4_lay_37 : decode cX4_lay 37 = .ok (.getfield 21, 3) := by decide +kernel
theorem dX4_lay_40 : decode cX4_lay 40 = .ok (.iconst 1, 1) := by decide +kernel
theorem dX4_lay_41 : decode cX4_lay 41 = .ok (.iadd, 1) := by decide +kernel
theorem dX4_lay_42 : decode cX4_lay 42 = .ok (.putfield 21, 3) := by decide +kernel
theorem dX4_lay_45 : decode cX4_lay 45 = .ok (.return_, 1) := by decide +kernel
theorem dX4_aim_0 : decode cX4_aim 0 = .ok (.aload_n 0, 1) := by decide +kernel
theorem dX4_aim_1 : decode cX4_aim 1 = .ok (.iload_n 1, 1) := by decide +kernel
theorem dX4_aim_2 : decode cX4_aim 2 = .ok (.putfield 15, 3) := by decide +kernel
theorem dX4_aim_5 : decode cX4_aim 5 = .ok (.aload_n 0, 1) := by decide +kernel
theorem dX4_aim_6 : decode cX4_aim 6 = .ok (.dup, 1) := by decide +kernel
theorem dX4_aim_7 : decode cX4_aim 7 = .ok (.getfield 21, 3) := by decide +kernel
theorem dX4_aim_10 : decode cX4_aim 10 = .ok (.iconst 1, 1) := by decide +kernel
theorem dX4_aim_11 : decode cX4_aim 11 = .ok (.iadd, 1) := by decide +kernel
theorem dX4_aim_12 : decode cX4_aim 12 = .ok (.putfield 21, 3) := by decide +kernel
theorem dX4_aim_15 : decode cX4_aim 15 = .ok (.return_, 1) := by decide +kernel
theorem dX4_load_0 : decode cX4_load 0 = .ok (.aload_n 0, 1) := by decide +kernel
theorem dX4_load_1 : decode cX4_load 1 = .ok (.getfield 28, 3) := by decide +kernel
theorem dX4_load_4 : decode cX4_load 4 = .ok (.iload_n 1, 1) := by decide +kernel
theorem dX4_load_5 : decode cX4_load 5 = .ok (.iload_n 2, 1) := by decide +kernel
theorem dX4_load_6 : decode cX4_load 6 = .ok (.iastore, 1) := by decide +kernel
theorem dX4_load_7 : decode cX4_load 7 = .ok (.aload_n 0, 1) := by decide +kernel
theorem dX4_load_8 : decode cX4_load 8 = .ok (.dup, 1) := by decide +kernel
theorem dX4_load_9 : decode cX4_load 9 = .ok (.getfield 21, 3) := by decide +kernel
theorem dX4_load_12 : decode cX4_load 12 = .ok (.iconst 1, 1) := by decide +kernel
theorem dX4_load_13 : decode cX4_load 13 = .ok (.iadd, 1) := by decide +kernel
theorem dX4_load_14 : decode cX4_load 14 = .ok (.putfield 21, 3) := by decide +kernel
theorem dX4_load_17 : decode cX4_load 17 = .ok (.return_, 1) := by decide +kernel
theorem dX4_join_0 : decode cX4_join 0 = .ok (.aload_n 0, 1) := by decide +kernel
theorem dX4_join_1 : decode cX4_join 1 = .ok (.getfield 18, 3) := by decide +kernel
theorem dX4_join_4 : decode cX4_join 4 = .ok (.bipush 8, 2) := by decide +kernel
theorem dX4_join_6 : decode cX4_join 6 = .ok (.if_icmp .lt 4, 3) := by decide +kernel
theorem dX4_join_9 : decode cX4_join 9 = .ok (.return_, 1) := by decide +kernel
theorem dX4_join_10 : decode cX4_join 10 = .ok (.aload_n 0, 1) := by decide +kernel
theorem dX4_join_11 : decode cX4_join 11 = .ok (.getfield 31, 3) := by decide +kernel
theorem dX4_join_14 : decode cX4_join 14 = .ok (.aload_n 0, 1) := by decide +kernel
theorem dX4_join_15 : decode cX4_join 15 = .ok (.getfield 18, 3) := by decide +kernel
theorem dX4_join_18 : decode cX4_join 18 = .ok (.iload_n 1, 1) := by decide +kernel
theorem dX4_join_19 : decode cX4_join 19 = .ok (.iastore, 1) := by decide +kernel
theorem dX4_join_20 : decode cX4_join 20 = .ok (.aload_n 0, 1) := by decide +kernel
theorem dX4_join_21 : decode cX4_join 21 = .ok (.dup, 1) := by decide +kernel
theorem dX4_join_22 : decode cX4_join 22 = .ok (.getfield 18, 3) := by decide +kernel
theorem dX4_join_25 : decode cX4_join 25 = .ok (.iconst 1, 1) := by decide +kernel
theorem dX4_join_26 : decode cX4_join 26 = .ok (.iadd, 1) := by decide +kernel
theorem dX4_join_27 : decode cX4_join 27 = .ok (.putfield 18, 3) := by decide +kernel
theorem dX4_join_30 : decode cX4_join 30 = .ok (.aload_n 0, 1) := by decide +kernel
theorem dX4_join_31 : decode cX4_join 31 = .ok (.dup, 1) := by decide +kernel
theorem dX4_join_32 : decode cX4_join 32 = .ok (.getfield 21, 3) := by decide +kernel
theorem dX4_join_35 : decode cX4_join 35 = .ok (.iconst 1, 1) := by decide +kernel
theorem dX4_join_36 : decode cX4_join 36 = .ok (.iadd, 1) := by decide +kernel
theorem dX4_join_37 : decode cX4_join 37 = .ok (.putfield 21, 3) := by decide +kernel
theorem dX4_join_40 : decode cX4_join 40 = .ok (.return_, 1) := by decide +kernel
theorem dX4_replace_0 : decode cX4_replace 0 = .ok (.aload_n 0, 1) := by decide +kernel
theorem dX4_replace_1 : decode cX4_replace 1 = .ok (.getfield 31, 3) := by decide +kernel
theorem dX4_replace_4 : decode cX4_replace 4 = .ok (.iload_n 1, 1) := by decide +kernel
theorem dX4_replace_5 : decode cX4_replace 5 = .ok (.iload_n 2, 1) := by decide +kernel
theorem dX4_replace_6 : decode cX4_replace 6 = .ok (.iastore, 1) := by decide +kernel
theorem dX4_replace_7 : decode cX4_replace 7 = .ok (.aload_n 0, 1) := by decide +kernel
theorem dX4_replace_8 : decode cX4_replace 8 = .ok (.dup, 1) := by decide +kernel
theorem dX4_replace_9 : decode cX4_replace 9 = .ok (.getfield 21, 3) := by decide +kernel
theorem dX4_replace_12 : decode cX4_replace 12 = .ok (.iconst 1, 1) := by decide +kernel
theorem dX4_replace_13 : decode cX4_replace 13 = .ok (.iadd, 1) := by decide +kernel
theorem dX4_replace_14 : decode cX4_replace 14 = .ok (.putfield 21, 3) := by decide +kernel
theorem dX4_replace_17 : decode cX4_replace 17 = .ok (.return_, 1) := by decide +kernel
theorem dX4_remove_0 : decode cX4_remove 0 = .ok (.iload_n 1, 1) := by decide +kernel
theorem dX4_remove_1 : decode cX4_remove 1 = .ok (.istore_n 2, 1) := by decide +kernel
theorem dX4_remove_2 : decode cX4_remove 2 = .ok (.iload_n 2, 1) := by decide +kernel
theorem dX4_remove_3 : decode cX4_remove 3 = .ok (.iconst 1, 1) := by decide +kernel
theorem dX4_remove_4 : decode cX4_remove 4 = .ok (.iadd, 1) := by decide +kernel
theorem dX4_remove_5 : decode cX4_remove 5 = .ok (.aload_n 0, 1) := by decide +kernel
theorem dX4_remove_6 : decode cX4_remove 6 = .ok (.getfield 18, 3) := by decide +kernel
theorem dX4_remove_9 : decode cX4_remove 9 = .ok (.if_icmp .ge 23, 3) := by decide +kernel
theorem dX4_remove_12 : decode cX4_remove 12 = .ok (.aload_n 0, 1) := by decide +kernel
theorem dX4_remove_13 : decode cX4_remove 13 = .ok (.getfield 31, 3) := by decide +kernel
theorem dX4_remove_16 : decode cX4_remove 16 = .ok (.iload_n 2, 1) := by decide +kernel
theorem dX4_remove_17 : decode cX4_remove 17 = .ok (.aload_n 0, 1) := by decide +kernel
theorem dX4_remove_18 : decode cX4_remove 18 = .ok (.getfield 31, 3) := by decide +kernel
theorem dX4_remove_21 : decode cX4_remove 21 = .ok (.iload_n 2, 1) := by decide +kernel
theorem dX4_remove_22 : decode cX4_remove 22 = .ok (.iconst 1, 1) := by decide +kernel
theorem dX4_remove_23 : decode cX4_remove 23 = .ok (.iadd, 1) := by decide +kernel
theorem dX4_remove_24 : decode cX4_remove 24 = .ok (.iaload, 1) := by decide +kernel
theorem dX4_remove_25 : decode cX4_remove 25 = .ok (.iastore, 1) := by decide +kernel
theorem dX4_remove_26 : decode cX4_remove 26 = .ok (.iinc 2 1, 3) := by decide +kernel
theorem dX4_remove_29 : decode cX4_remove 29 = .ok (.goto (-27), 3) := by decide +kernel
theorem dX4_remove_32 : decode cX4_remove 32 = .ok (.aload_n 0, 1) := by decide +kernel
theorem dX4_remove_33 : decode cX4_remove 33 = .ok (.dup, 1) := by decide +kernel
theorem dX4_remove_34 : decode cX4_remove 34 = .ok (.getfield 18, 3) := by decide +kernel
theorem dX4_remove_37 : decode cX4_remove 37 = .ok (.iconst 1, 1) := by decide +kernel
theorem dX4_remove_38 : decode cX4_remove 38 = .ok (.isub, 1) := by decide +kernel
theorem dX4_remove_39 : decode cX4_remove 39 = .ok (.putfield 18, 3) := by decide +kernel
theorem dX4_remove_42 : decode cX4_remove 42 = .ok (.aload_n 0, 1) := by decide +kernel
theorem dX4_remove_43 : decode cX4_remove 43 = .ok (.dup, 1) := by decide +kernel
theorem dX4_remove_44 : decode cX4_remove 44 = .ok (.getfield 21, 3) := by decide +kernel
theorem dX4_remove_47 : decode cX4_remove 47 = .ok (.iconst 1, 1) := by decide +kernel
theorem dX4_remove_48 : decode cX4_remove 48 = .ok (.iadd, 1) := by decide +kernel
theorem dX4_remove_49 : decode cX4_remove 49 = .ok (.putfield 21, 3) := by decide +kernel
theorem dX4_remove_52 : decode cX4_remove 52 = .ok (.return_, 1) := by decide +kernel
theorem dX4_removeEmpty_0 : decode cX4_removeEmpty 0 = .ok (.iconst 0, 1) := by decide +kernel
theorem dX4_removeEmpty_1 : decode cX4_removeEmpty 1 = .ok (.istore_n 1, 1) := by decide +kernel
theorem dX4_removeEmpty_2 : decode cX4_removeEmpty 2 = .ok (.iconst 0, 1) := by decide +kernel
theorem dX4_removeEmpty_3 : decode cX4_removeEmpty 3 = .ok (.istore_n 2, 1) := by decide +kernel
theorem dX4_removeEmpty_4 : decode cX4_removeEmpty 4 = .ok (.iload_n 2, 1) := by decide +kernel
theorem dX4_removeEmpty_5 : decode cX4_removeEmpty 5 = .ok (.aload_n 0, 1) := by decide +kernel
theorem dX4_removeEmpty_6 : decode cX4_removeEmpty 6 = .ok (.getfield 18, 3) := by decide +kernel
theorem dX4_removeEmpty_9 : decode cX4_removeEmpty 9 = .ok (.if_icmp .ge 36, 3) := by decide +kernel
theorem dX4_removeEmpty_12 : decode cX4_removeEmpty 12 = .ok (.aload_n 0, 1) := by decide +kernel
theorem dX4_removeEmpty_13 : decode cX4_removeEmpty 13 = .ok (.getfield 31, 3) := by decide +kernel
theorem dX4_removeEmpty_16 : decode cX4_removeEmpty 16 = .ok (.iload_n 2, 1) := by decide +kernel
theorem dX4_removeEmpty_17 : decode cX4_removeEmpty 17 = .ok (.iaload, 1) := by decide +kernel
theorem dX4_removeEmpty_18 : decode cX4_removeEmpty 18 = .ok (.ifCond .ne 6, 3) := by decide +kernel
theorem dX4_removeEmpty_21 : decode cX4_removeEmpty 21 = .ok (.goto 18, 3) := by decide +kernel
theorem dX4_removeEmpty_24 : decode cX4_removeEmpty 24 = .ok (.aload_n 0, 1) := by decide +kernel
theorem dX4_removeEmpty_25 : decode cX4_removeEmpty 25 = .ok (.getfield 31, 3) := by decide +kernel
theorem dX4_removeEmpty_28 : decode cX4_removeEmpty 28 = .ok (.iload_n 1, 1) := by decide +kernel
theorem dX4_removeEmpty_29 : decode cX4_removeEmpty 29 = .ok (.aload_n 0, 1) := by decide +kernel
theorem dX4_removeEmpty_30 : decode cX4_removeEmpty 30 = .ok (.getfield 31, 3) := by decide +kernel
theorem dX4_removeEmpty_33 : decode cX4_removeEmpty 33 = .ok (.iload_n 2, 1) := by decide +kernel
theorem dX4_removeEmpty_34 : decode cX4_removeEmpty 34 = .ok (.iaload, 1) := by decide +kernel
theorem dX4_removeEmpty_35 : decode cX4_removeEmpty 35 = .ok (.iastore, 1) := by decide +kernel
theorem dX4_removeEmpty_36 : decode cX4_removeEmpty 36 = .ok (.iinc 1 1, 3) := by decide +kernel
theorem dX4_removeEmpty_39 : decode cX4_removeEmpty 39 = .ok (.iinc 2 1, 3) := by decide +kernel
theorem dX4_removeEmpty_42 : decode cX4_removeEmpty 42 = .ok (.goto (-38), 3) := by decide +kernel
theorem dX4_removeEmpty_45 : decode cX4_removeEmpty 45 = .ok (.aload_n 0, 1) := by decide +kernel
theorem dX4_removeEmpty_46 : decode cX4_removeEmpty 46 = .ok (.iload_n 1, 1) := by decide +kernel
theorem dX4_removeEmpty_47 : decode cX4_removeEmpty 47 = .ok (.putfield 18, 3) := by decide +kernel
theorem dX4_removeEmpty_50 : decode cX4_removeEmpty 50 = .ok (.aload_n 0, 1) := by decide +kernel
theorem dX4_removeEmpty_51 : decode cX4_removeEmpty 51 = .ok (.dup, 1) := by decide +kernel
theorem dX4_removeEmpty_52 : decode cX4_removeEmpty 52 = .ok (.getfield 21, 3) := by decide +kernel
theorem dX4_removeEmpty_55 : decode cX4_removeEmpty 55 = .ok (.iconst 1, 1) := by decide +kernel
theorem dX4_removeEmpty_56 : decode cX4_removeEmpty 56 = .ok (.iadd, 1) := by decide +kernel
theorem dX4_removeEmpty_57 : decode cX4_removeEmpty 57 = .ok (.putfield 21, 3) := by decide +kernel
theorem dX4_removeEmpty_60 : decode cX4_removeEmpty 60 = .ok (.return_, 1) := by decide +kernel
theorem dX4_become_0 : decode cX4_become 0 = .ok (.aload_n 0, 1) := by decide +kernel
theorem dX4_become_1 : decode cX4_become 1 = .ok (.aload_n 1, 1) := by decide +kernel
theorem dX4_become_2 : decode cX4_become 2 = .ok (.getfield 9, 3) := by decide +kernel
theorem dX4_become_5 : decode cX4_become 5 = .ok (.putfield 9, 3) := by decide +kernel
theorem dX4_become_8 : decode cX4_become 8 = .ok (.aload_n 0, 1) := by decide +kernel
theorem dX4_become_9 : decode cX4_become 9 = .ok (.aload_n 1, 1) := by decide +kernel
theorem dX4_become_10 : decode cX4_become 10 = .ok (.getfield 15, 3) := by decide +kernel
theorem dX4_become_13 : decode cX4_become 13 = .ok (.putfield 15, 3) := by decide +kernel
theorem dX4_become_16 : decode cX4_become 16 = .ok (.aload_n 0, 1) := by decide +kernel
theorem dX4_become_17 : decode cX4_become 17 = .ok (.aload_n 1, 1) := by decide +kernel
theorem dX4_become_18 : decode cX4_become 18 = .ok (.getfield 18, 3) := by decide +kernel
theorem dX4_become_21 : decode cX4_become 21 = .ok (.putfield 18, 3) := by decide +kernel
theorem dX4_become_24 : decode cX4_become 24 = .ok (.aload_n 1, 1) := by decide +kernel
theorem dX4_become_25 : decode cX4_become 25 = .ok (.getfield 24, 3) := by decide +kernel
theorem dX4_become_28 : decode cX4_become 28 = .ok (.iconst 0, 1) := by decide +kernel
theorem dX4_become_29 : decode cX4_become 29 = .ok (.aload_n 0, 1) := by decide +kernel
theorem dX4_become_30 : decode cX4_become 30 = .ok (.getfield 24, 3) := by decide +kernel
theorem dX4_become_33 : decode cX4_become 33 = .ok (.iconst 0, 1) := by decide +kernel
theorem dX4_become_34 : decode cX4_become 34 = .ok (.bipush 8, 2) := by decide +kernel
theorem dX4_become_36 : decode cX4_become 36 = .ok (.invokestatic 38, 3) := by decide +kernel
theorem dX4_become_39 : decode cX4_become 39 = .ok (.aload_n 1, 1) := by decide +kernel
theorem dX4_become_40 : decode cX4_become 40 = .ok (.getfield 28, 3) := by decide +kernel
theorem dX4_become_43 : decode cX4_become 43 = .ok (.iconst 0, 1) := by decide +kernel
theorem dX4_become_44 : decode cX4_become 44 = .ok (.aload_n 0, 1) := by decide +kernel
theorem dX4_become_45 : decode cX4_become 45 = .ok (.getfield 28, 3) := by decide +kernel
theorem dX4_become_48 : decode cX4_become 48 = .ok (.iconst 0, 1) := by decide +kernel
theorem dX4_become_49 : decode cX4_become 49 = .ok (.bipush 8, 2) := by decide +kernel
theorem dX4_become_51 : decode cX4_become 51 = .ok (.invokestatic 38, 3) := by decide +kernel
theorem dX4_become_54 : decode cX4_become 54 = .ok (.aload_n 1, 1) := by decide +kernel
theorem dX4_become_55 : decode cX4_become 55 = .ok (.getfield 31, 3) := by decide +kernel
theorem dX4_become_58 : decode cX4_become 58 = .ok (.iconst 0, 1) := by decide +kernel
theorem dX4_become_59 : decode cX4_become 59 = .ok (.aload_n 0, 1) := by decide +kernel
theorem dX4_become_60 : decode cX4_become 60 = .ok (.getfield 31, 3) := by decide +kernel
theorem dX4_become_63 : decode cX4_become 63 = .ok (.iconst 0, 1) := by decide +kernel
theorem dX4_become_64 : decode cX4_become 64 = .ok (.bipush 8, 2) := by decide +kernel
theorem dX4_become_66 : decode cX4_become 66 = .ok (.invokestatic 38, 3) := by decide +kernel
theorem dX4_become_69 : decode cX4_become 69 = .ok (.aload_n 0, 1) := by decide +kernel
theorem dX4_become_70 : decode cX4_become 70 = .ok (.dup, 1) := by decide +kernel
theorem dX4_become_71 : decode cX4_become 71 = .ok (.getfield 21, 3) := by decide +kernel
theorem dX4_become_74 : decode cX4_become 74 = .ok (.iconst 1, 1) := by decide +kernel
theorem dX4_become_75 : decode cX4_become 75 = .ok (.iadd, 1) := by decide +kernel
theorem dX4_become_76 : decode cX4_become 76 = .ok (.putfield 21, 3) := by decide +kernel
theorem dX4_become_79 : decode cX4_become 79 = .ok (.return_, 1) := by decide +kernel
theorem dX4_countRoads_0 : decode cX4_countRoads 0 = .ok (.iconst 0, 1) := by decide +kernel
theorem dX4_countRoads_1 : decode cX4_countRoads 1 = .ok (.istore_n 1, 1) := by decide +kernel
theorem dX4_countRoads_2 : decode cX4_countRoads 2 = .ok (.iconst 0, 1) := by decide +kernel
theorem dX4_countRoads_3 : decode cX4_countRoads 3 = .ok (.istore_n 2, 1) := by decide +kernel
theorem dX4_countRoads_4 : decode cX4_countRoads 4 = .ok (.iload_n 2, 1) := by decide +kernel
theorem dX4_countRoads_5 : decode cX4_countRoads 5 = .ok (.aload_n 0, 1) := by decide +kernel
theorem dX4_countRoads_6 : decode cX4_countRoads 6 = .ok (.getfield 9, 3) := by decide +kernel
theorem dX4_countRoads_9 : decode cX4_countRoads 9 = .ok (.if_icmp .ge 21, 3) := by decide +kernel
theorem dX4_countRoads_12 : decode cX4_countRoads 12 = .ok (.iload_n 1, 1) := by decide +kernel
theorem dX4_countRoads_13 : decode cX4_countRoads 13 = .ok (.aload_n 0, 1) := by decide +kernel
theorem dX4_countRoads_14 : decode cX4_countRoads 14 = .ok (.getfield 24, 3) := by decide +kernel
theorem dX4_countRoads_17 : decode cX4_countRoads 17 = .ok (.iload_n 2, 1) := by decide +kernel
theorem dX4_countRoads_18 : decode cX4_countRoads 18 = .ok (.iaload, 1) := by decide +kernel
theorem dX4_countRoads_19 : decode cX4_countRoads 19 = .ok (.invokestatic 44, 3) := by decide +kernel
theorem dX4_countRoads_22 : decode cX4_countRoads 22 = .ok (.iadd, 1) := by decide +kernel
theorem dX4_countRoads_23 : decode cX4_countRoads 23 = .ok (.istore_n 1, 1) := by decide +kernel
theorem dX4_countRoads_24 : decode cX4_countRoads 24 = .ok (.iinc 2 1, 3) := by decide +kernel
theorem dX4_countRoads_27 : decode cX4_countRoads 27 = .ok (.goto (-23), 3) := by decide +kernel
theorem dX4_countRoads_30 : decode cX4_countRoads 30 = .ok (.iload_n 1, 1) := by decide +kernel
theorem dX4_countRoads_31 : decode cX4_countRoads 31 = .ok (.ireturn, 1) := by decide +kernel
theorem dX4_weightOf_0 : decode cX4_weightOf 0 = .ok (.iconst 0, 1) := by decide +kernel
theorem dX4_weightOf_1 : decode cX4_weightOf 1 = .ok (.istore_n 2, 1) := by decide +kernel
theorem dX4_weightOf_2 : decode cX4_weightOf 2 = .ok (.iconst 0, 1) := by decide +kernel
theorem dX4_weightOf_3 : decode cX4_weightOf 3 = .ok (.istore_n 3, 1) := by decide +kernel
theorem dX4_weightOf_4 : decode cX4_weightOf 4 = .ok (.iload_n 3, 1) := by decide +kernel
theorem dX4_weightOf_5 : decode cX4_weightOf 5 = .ok (.aload_n 0, 1) := by decide +kernel
theorem dX4_weightOf_6 : decode cX4_weightOf 6 = .ok (.getfield 9, 3) := by decide +kernel
theorem dX4_weightOf_9 : decode cX4_weightOf 9 = .ok (.if_icmp .ge 26, 3) := by decide +kernel
theorem dX4_weightOf_12 : decode cX4_weightOf 12 = .ok (.iload_n 1, 1) := by decide +kernel
theorem dX4_weightOf_13 : decode cX4_weightOf 13 = .ok (.iload_n 3, 1) := by decide +kernel
theorem dX4_weightOf_14 : decode cX4_weightOf 14 = .ok (.invokestatic 50, 3) := by decide +kernel
theorem dX4_weightOf_17 : decode cX4_weightOf 17 = .ok (.ifCond .eq 12, 3) := by decide +kernel
theorem dX4_weightOf_20 : decode cX4_weightOf 20 = .ok (.iload_n 2, 1) := by decide +kernel
theorem dX4_weightOf_21 : decode cX4_weightOf 21 = .ok (.aload_n 0, 1) := by decide +kernel
theorem dX4_weightOf_22 : decode cX4_weightOf 22 = .ok (.getfield 28, 3) := by decide +kernel
theorem dX4_weightOf_25 : decode cX4_weightOf 25 = .ok (.iload_n 3, 1) := by decide +kernel
theorem dX4_weightOf_26 : decode cX4_weightOf 26 = .ok (.iaload, 1) := by decide +kernel
theorem dX4_weightOf_27 : decode cX4_weightOf 27 = .ok (.iadd, 1) := by decide +kernel
theorem dX4_weightOf_28 : decode cX4_weightOf 28 = .ok (.istore_n 2, 1) := by decide +kernel
theorem dX4_weightOf_29 : decode cX4_weightOf 29 = .ok (.iinc 3 1, 3) := by decide +kernel
theorem dX4_weightOf_32 : decode cX4_weightOf 32 = .ok (.goto (-28), 3) := by decide +kernel
theorem dX4_weightOf_35 : decode cX4_weightOf 35 = .ok (.iload_n 2, 1) := by decide +kernel
theorem dX4_weightOf_36 : decode cX4_weightOf 36 = .ok (.ireturn, 1) := by decide +kernel
theorem dX4_reached_0 : decode cX4_reached 0 = .ok (.iload_n 1, 1) := by decide +kernel
theorem dX4_reached_1 : decode cX4_reached 1 = .ok (.iload_n 2, 1) := by decide +kernel
theorem dX4_reached_2 : decode cX4_reached 2 = .ok (.iconst (-1), 1) := by decide +kernel
theorem dX4_reached_3 : decode cX4_reached 3 = .ok (.ixor, 1) := by decide +kernel
theorem dX4_reached_4 : decode cX4_reached 4 = .ok (.iand, 1) := by decide +kernel
theorem dX4_reached_5 : decode cX4_reached 5 = .ok (.istore_n 3, 1) := by decide +kernel
theorem dX4_reached_6 : decode cX4_reached 6 = .ok (.iconst 0, 1) := by decide +kernel
theorem dX4_reached_7 : decode cX4_reached 7 = .ok (.istore 4, 2) := by decide +kernel
theorem dX4_reached_9 : decode cX4_reached 9 = .ok (.iload 4, 2) := by decide +kernel
theorem dX4_reached_11 : decode cX4_reached 11 = .ok (.aload_n 0, 1) := by decide +kernel
theorem dX4_reached_12 : decode cX4_reached 12 = .ok (.getfield 9, 3) := by decide +kernel
theorem dX4_reached_15 : decode cX4_reached 15 = .ok (.if_icmp .ge 67, 3) := by decide +kernel
theorem dX4_reached_18 : decode cX4_reached 18 = .ok (.iload_n 3, 1) := by decide +kernel
theorem dX4_reached_19 : decode cX4_reached 19 = .ok (.istore 5, 2) := by decide +kernel
theorem dX4_reached_21 : decode cX4_reached 21 = .ok (.iconst 0, 1) := by decide +kernel
theorem dX4_reached_22 : decode cX4_reached 22 = .ok (.istore 6, 2) := by decide +kernel
theorem dX4_reached_24 : decode cX4_reached 24 = .ok (.iload 6, 2) := by decide +kernel
theorem dX4_reached_26 : decode cX4_reached 26 = .ok (.aload_n 0, 1) := by decide +kernel
theorem dX4_reached_27 : decode cX4_reached 27 = .ok (.getfield 9, 3) := by decide +kernel
theorem dX4_reached_30 : decode cX4_reached 30 = .ok (.if_icmp .ge 34, 3) := by decide +kernel
theorem dX4_reached_33 : decode cX4_reached 33 = .ok (.iload_n 3, 1) := by decide +kernel
theorem dX4_reached_34 : decode cX4_reached 34 = .ok (.iload 6, 2) := by decide +kernel
theorem dX4_reached_36 : decode cX4_reached 36 = .ok (.invokestatic 50, 3) := by decide +kernel
theorem dX4_reached_39 : decode cX4_reached 39 = .ok (.ifCond .eq 19, 3) := by decide +kernel
theorem dX4_reached_42 : decode cX4_reached 42 = .ok (.iload 5, 2) := by decide +kernel
theorem dX4_reached_44 : decode cX4_reached 44 = .ok (.aload_n 0, 1) := by decide +kernel
theorem dX4_reached_45 : decode cX4_reached 45 = .ok (.getfield 24, 3) := by decide +kernel
theorem dX4_reached_48 : decode cX4_reached 48 = .ok (.iload 6, 2) := by decide +kernel
theorem dX4_reached_50 : decode cX4_reached 50 = .ok (.iaload, 1) := by decide +kernel
theorem dX4_reached_51 : decode cX4_reached 51 = .ok (.iload_n 2, 1) := by decide +kernel
theorem dX4_reached_52 : decode cX4_reached 52 = .ok (.iconst (-1), 1) := by decide +kernel
theorem dX4_reached_53 : decode cX4_reached 53 = .ok (.ixor, 1) := by decide +kernel
theorem dX4_reached_54 : decode cX4_reached 54 = .ok (.iand, 1) := by decide +kernel
theorem dX4_reached_55 : decode cX4_reached 55 = .ok (.ior, 1) := by decide +kernel
theorem dX4_reached_56 : decode cX4_reached 56 = .ok (.istore 5, 2) := by decide +kernel
theorem dX4_reached_58 : decode cX4_reached 58 = .ok (.iinc 6 1, 3) := by decide +kernel
theorem dX4_reached_61 : decode cX4_reached 61 = .ok (.goto (-37), 3) := by decide +kernel
theorem dX4_reached_64 : decode cX4_reached 64 = .ok (.iload 5, 2) := by decide +kernel
theorem dX4_reached_66 : decode cX4_reached 66 = .ok (.iload_n 3, 1) := by decide +kernel
theorem dX4_reached_67 : decode cX4_reached 67 = .ok (.if_icmp .ne 6, 3) := by decide +kernel
theorem dX4_reached_70 : decode cX4_reached 70 = .ok (.goto 12, 3) := by decide +kernel
theorem dX4_reached_73 : decode cX4_reached 73 = .ok (.iload 5, 2) := by decide +kernel
theorem dX4_reached_75 : decode cX4_reached 75 = .ok (.istore_n 3, 1) := by decide +kernel
theorem dX4_reached_76 : decode cX4_reached 76 = .ok (.iinc 4 1, 3) := by decide +kernel
theorem dX4_reached_79 : decode cX4_reached 79 = .ok (.goto (-70), 3) := by decide +kernel
theorem dX4_reached_82 : decode cX4_reached 82 = .ok (.iload_n 3, 1) := by decide +kernel
theorem dX4_reached_83 : decode cX4_reached 83 = .ok (.ireturn, 1) := by decide +kernel
theorem dX4_isCut_0 : decode cX4_isCut 0 = .ok (.aload_n 0, 1) := by decide +kernel
theorem dX4_isCut_1 : decode cX4_isCut 1 = .ok (.iload_n 1, 1) := by decide +kernel
theorem dX4_isCut_2 : decode cX4_isCut 2 = .ok (.iload_n 2, 1) := by decide +kernel
theorem dX4_isCut_3 : decode cX4_isCut 3 = .ok (.invokevirtual 54, 3) := by decide +kernel
theorem dX4_isCut_6 : decode cX4_isCut 6 = .ok (.aload_n 0, 1) := by decide +kernel
theorem dX4_isCut_7 : decode cX4_isCut 7 = .ok (.getfield 15, 3) := by decide +kernel
theorem dX4_isCut_10 : decode cX4_isCut 10 = .ok (.iand, 1) := by decide +kernel
theorem dX4_isCut_11 : decode cX4_isCut 11 = .ok (.ifCond .ne 7, 3) := by decide +kernel
theorem dX4_isCut_14 : decode cX4_isCut 14 = .ok (.iconst 1, 1) := by decide +kernel
theorem dX4_isCut_15 : decode cX4_isCut 15 = .ok (.goto 4, 3) := by decide +kernel
theorem dX4_isCut_18 : decode cX4_isCut 18 = .ok (.iconst 0, 1) := by decide +kernel
theorem dX4_isCut_19 : decode cX4_isCut 19 = .ok (.ireturn, 1) := by decide +kernel
theorem dX4_setsWith_0 : decode cX4_setsWith 0 = .ok (.iconst 0, 1) := by decide +kernel
theorem dX4_setsWith_1 : decode cX4_setsWith 1 = .ok (.istore_n 2, 1) := by decide +kernel
theorem dX4_setsWith_2 : decode cX4_setsWith 2 = .ok (.iconst 0, 1) := by decide +kernel
theorem dX4_setsWith_3 : decode cX4_setsWith 3 = .ok (.istore_n 3, 1) := by decide +kernel
theorem dX4_setsWith_4 : decode cX4_setsWith 4 = .ok (.iload_n 3, 1) := by decide +kernel
theorem dX4_setsWith_5 : decode cX4_setsWith 5 = .ok (.aload_n 0, 1) := by decide +kernel
theorem dX4_setsWith_6 : decode cX4_setsWith 6 = .ok (.getfield 18, 3) := by decide +kernel
theorem dX4_setsWith_9 : decode cX4_setsWith 9 = .ok (.if_icmp .ge 28, 3) := by decide +kernel
theorem dX4_setsWith_12 : decode cX4_setsWith 12 = .ok (.aload_n 0, 1) := by decide +kernel
theorem dX4_setsWith_13 : decode cX4_setsWith 13 = .ok (.getfield 31, 3) := by decide +kernel
theorem dX4_setsWith_16 : decode cX4_setsWith 16 = .ok (.iload_n 3, 1) := by decide +kernel
theorem dX4_setsWith_17 : decode cX4_setsWith 17 = .ok (.iaload, 1) := by decide +kernel
theorem dX4_setsWith_18 : decode cX4_setsWith 18 = .ok (.iload_n 1, 1) := by decide +kernel
theorem dX4_setsWith_19 : decode cX4_setsWith 19 = .ok (.invokestatic 50, 3) := by decide +kernel
theorem dX4_setsWith_22 : decode cX4_setsWith 22 = .ok (.ifCond .eq 9, 3) := by decide +kernel
theorem dX4_setsWith_25 : decode cX4_setsWith 25 = .ok (.iload_n 2, 1) := by decide +kernel
theorem dX4_setsWith_26 : decode cX4_setsWith 26 = .ok (.iconst 1, 1) := by decide +kernel
theorem dX4_setsWith_27 : decode cX4_setsWith 27 = .ok (.iload_n 3, 1) := by decide +kernel
theorem dX4_setsWith_28 : decode cX4_setsWith 28 = .ok (.ishl, 1) := by decide +kernel
theorem dX4_setsWith_29 : decode cX4_setsWith 29 = .ok (.ior, 1) := by decide +kernel
theorem dX4_setsWith_30 : decode cX4_setsWith 30 = .ok (.istore_n 2, 1) := by decide +kernel
theorem dX4_setsWith_31 : decode cX4_setsWith 31 = .ok (.iinc 3 1, 3) := by decide +kernel
theorem dX4_setsWith_34 : decode cX4_setsWith 34 = .ok (.goto (-30), 3) := by decide +kernel
theorem dX4_setsWith_37 : decode cX4_setsWith 37 = .ok (.iload_n 2, 1) := by decide +kernel
theorem dX4_setsWith_38 : decode cX4_setsWith 38 = .ok (.ireturn, 1) := by decide +kernel
theorem dX4_turn_0 : decode cX4_turn 0 = .ok (.aload_n 0, 1) := by decide +kernel
theorem dX4_turn_1 : decode cX4_turn 1 = .ok (.iconst 0, 1) := by decide +kernel
theorem dX4_turn_2 : decode cX4_turn 2 = .ok (.putfield 18, 3) := by decide +kernel
theorem dX4_turn_5 : decode cX4_turn 5 = .ok (.iconst 0, 1) := by decide +kernel
theorem dX4_turn_6 : decode cX4_turn 6 = .ok (.istore_n 1, 1) := by decide +kernel
theorem dX4_turn_7 : decode cX4_turn 7 = .ok (.iload_n 1, 1) := by decide +kernel
theorem dX4_turn_8 : decode cX4_turn 8 = .ok (.aload_n 0, 1) := by decide +kernel
theorem dX4_turn_9 : decode cX4_turn 9 = .ok (.getfield 9, 3) := by decide +kernel
theorem dX4_turn_12 : decode cX4_turn 12 = .ok (.if_icmp .ge 34, 3) := by decide +kernel
theorem dX4_turn_15 : decode cX4_turn 15 = .ok (.aload_n 0, 1) := by decide +kernel
theorem dX4_turn_16 : decode cX4_turn 16 = .ok (.getfield 15, 3) := by decide +kernel
theorem dX4_turn_19 : decode cX4_turn 19 = .ok (.iload_n 1, 1) := by decide +kernel
theorem dX4_turn_20 : decode cX4_turn 20 = .ok (.invokestatic 50, 3) := by decide +kernel
theorem dX4_turn_23 : decode cX4_turn 23 = .ok (.ifCond .ne 17, 3) := by decide +kernel
theorem dX4_turn_26 : decode cX4_turn 26 = .ok (.aload_n 0, 1) := by decide +kernel
theorem dX4_turn_27 : decode cX4_turn 27 = .ok (.aload_n 0, 1) := by decide +kernel
theorem dX4_turn_28 : decode cX4_turn 28 = .ok (.getfield 24, 3) := by decide +kernel
theorem dX4_turn_31 : decode cX4_turn 31 = .ok (.iload_n 1, 1) := by decide +kernel
theorem dX4_turn_32 : decode cX4_turn 32 = .ok (.iaload, 1) := by decide +kernel
theorem dX4_turn_33 : decode cX4_turn 33 = .ok (.iconst 1, 1) := by decide +kernel
theorem dX4_turn_34 : decode cX4_turn 34 = .ok (.iload_n 1, 1) := by decide +kernel
theorem dX4_turn_35 : decode cX4_turn 35 = .ok (.ishl, 1) := by decide +kernel
theorem dX4_turn_36 : decode cX4_turn 36 = .ok (.ior, 1) := by decide +kernel
theorem dX4_turn_37 : decode cX4_turn 37 = .ok (.invokevirtual 58, 3) := by decide +kernel
theorem dX4_turn_40 : decode cX4_turn 40 = .ok (.iinc 1 1, 3) := by decide +kernel
theorem dX4_turn_43 : decode cX4_turn 43 = .ok (.goto (-36), 3) := by decide +kernel
theorem dX4_turn_46 : decode cX4_turn 46 = .ok (.aload_n 0, 1) := by decide +kernel
theorem dX4_turn_47 : decode cX4_turn 47 = .ok (.dup, 1) := by decide +kernel
theorem dX4_turn_48 : decode cX4_turn 48 = .ok (.getfield 21, 3) := by decide +kernel
theorem dX4_turn_51 : decode cX4_turn 51 = .ok (.iconst 1, 1) := by decide +kernel
theorem dX4_turn_52 : decode cX4_turn 52 = .ok (.iadd, 1) := by decide +kernel
theorem dX4_turn_53 : decode cX4_turn 53 = .ok (.putfield 21, 3) := by decide +kernel
theorem dX4_turn_56 : decode cX4_turn 56 = .ok (.return_, 1) := by decide +kernel
theorem dX4_straighten_0 : decode cX4_straighten 0 = .ok (.iconst 0, 1) := by decide +kernel
theorem dX4_straighten_1 : decode cX4_straighten 1 = .ok (.istore_n 2, 1) := by decide +kernel
theorem dX4_straighten_2 : decode cX4_straighten 2 = .ok (.iload_n 2, 1) := by decide +kernel
theorem dX4_straighten_3 : decode cX4_straighten 3 = .ok (.bipush 8, 2) := by decide +kernel
theorem dX4_straighten_5 : decode cX4_straighten 5 = .ok (.if_icmp .ge 16, 3) := by decide +kernel
theorem dX4_straighten_8 : decode cX4_straighten 8 = .ok (.aload_n 0, 1) := by decide +kernel
theorem dX4_straighten_9 : decode cX4_straighten 9 = .ok (.getfield 24, 3) := by decide +kernel
theorem dX4_straighten_12 : decode cX4_straighten 12 = .ok (.iload_n 2, 1) := by decide +kernel
theorem dX4_straighten_13 : decode cX4_straighten 13 = .ok (.iconst 0, 1) := by decide +kernel
theorem dX4_straighten_14 : decode cX4_straighten 14 = .ok (.iastore, 1) := by decide +kernel
theorem dX4_straighten_15 : decode cX4_straighten 15 = .ok (.iinc 2 1, 3) := by decide +kernel
theorem dX4_straighten_18 : decode cX4_straighten 18 = .ok (.goto (-16), 3) := by decide +kernel
theorem dX4_straighten_21 : decode cX4_straighten 21 = .ok (.aload_n 0, 1) := by decide +kernel
theorem dX4_straighten_22 : decode cX4_straighten 22 = .ok (.aload_n 0, 1) := by decide +kernel
theorem dX4_straighten_23 : decode cX4_straighten 23 = .ok (.invokevirtual 34, 3) := by decide +kernel
theorem dX4_straighten_26 : decode cX4_straighten 26 = .ok (.putfield 15, 3) := by decide +kernel
theorem dX4_straighten_29 : decode cX4_straighten 29 = .ok (.iconst 0, 1) := by decide +kernel
theorem dX4_straighten_30 : decode cX4_straighten 30 = .ok (.istore_n 2, 1) := by decide +kernel
theorem dX4_straighten_31 : decode cX4_straighten 31 = .ok (.iload_n 2, 1) := by decide +kernel
theorem dX4_straighten_32 : decode cX4_straighten 32 = .ok (.aload_n 0, 1) := by decide +kernel
theorem dX4_straighten_33 : decode cX4_straighten 33 = .ok (.getfield 18, 3) := by decide +kernel
theorem dX4_straighten_36 : decode cX4_straighten 36 = .ok (.if_icmp .ge 45, 3) := by decide +kernel
theorem dX4_straighten_39 : decode cX4_straighten 39 = .ok (.iconst 1, 1) := by decide +kernel
theorem dX4_straighten_40 : decode cX4_straighten 40 = .ok (.aload_n 1, 1) := by decide +kernel
theorem dX4_straighten_41 : decode cX4_straighten 41 = .ok (.iload_n 2, 1) := by decide +kernel
theorem dX4_straighten_42 : decode cX4_straighten 42 = .ok (.iaload, 1) := by decide +kernel
theorem dX4_straighten_43 : decode cX4_straighten 43 = .ok (.ishl, 1) := by decide +kernel
theorem dX4_straighten_44 : decode cX4_straighten 44 = .ok (.istore_n 3, 1) := by decide +kernel
theorem dX4_straighten_45 : decode cX4_straighten 45 = .ok (.aload_n 0, 1) := by decide +kernel
theorem dX4_straighten_46 : decode cX4_straighten 46 = .ok (.getfield 24, 3) := by decide +kernel
theorem dX4_straighten_49 : decode cX4_straighten 49 = .ok (.aload_n 1, 1) := by decide +kernel
theorem dX4_straighten_50 : decode cX4_straighten 50 = .ok (.iload_n 2, 1) := by decide +kernel
theorem dX4_straighten_51 : decode cX4_straighten 51 = .ok (.iaload, 1) := by decide +kernel
theorem dX4_straighten_52 : decode cX4_straighten 52 = .ok (.aload_n 0, 1) := by decide +kernel
theorem dX4_straighten_53 : decode cX4_straighten 53 = .ok (.getfield 31, 3) := by decide +kernel
theorem dX4_straighten_56 : decode cX4_straighten 56 = .ok (.iload_n 2, 1) := by decide +kernel
theorem dX4_straighten_57 : decode cX4_straighten 57 = .ok (.iaload, 1) := by decide +kernel
theorem dX4_straighten_58 : decode cX4_straighten 58 = .ok (.iload_n 3, 1) := by decide +kernel
theorem dX4_straighten_59 : decode cX4_straighten 59 = .ok (.iconst (-1), 1) := by decide +kernel
theorem dX4_straighten_60 : decode cX4_straighten 60 = .ok (.ixor, 1) := by decide +kernel
theorem dX4_straighten_61 : decode cX4_straighten 61 = .ok (.iand, 1) := by decide +kernel
theorem dX4_straighten_62 : decode cX4_straighten 62 = .ok (.iastore, 1) := by decide +kernel
theorem dX4_straighten_63 : decode cX4_straighten 63 = .ok (.aload_n 0, 1) := by decide +kernel
theorem dX4_straighten_64 : decode cX4_straighten 64 = .ok (.dup, 1) := by decide +kernel
theorem dX4_straighten_65 : decode cX4_straighten 65 = .ok (.getfield 15, 3) := by decide +kernel
theorem dX4_straighten_68 : decode cX4_straighten 68 = .ok (.iload_n 3, 1) := by decide +kernel
theorem dX4_straighten_69 : decode cX4_straighten 69 = .ok (.iconst (-1), 1) := by decide +kernel
theorem dX4_straighten_70 : decode cX4_straighten 70 = .ok (.ixor, 1) := by decide +kernel
theorem dX4_straighten_71 : decode cX4_straighten 71 = .ok (.iand, 1) := by decide +kernel
theorem dX4_straighten_72 : decode cX4_straighten 72 = .ok (.putfield 15, 3) := by decide +kernel
theorem dX4_straighten_75 : decode cX4_straighten 75 = .ok (.iinc 2 1, 3) := by decide +kernel
theorem dX4_straighten_78 : decode cX4_straighten 78 = .ok (.goto (-47), 3) := by decide +kernel
theorem dX4_straighten_81 : decode cX4_straighten 81 = .ok (.aload_n 0, 1) := by decide +kernel
theorem dX4_straighten_82 : decode cX4_straighten 82 = .ok (.dup, 1) := by decide +kernel
theorem dX4_straighten_83 : decode cX4_straighten 83 = .ok (.getfield 21, 3) := by decide +kernel
theorem dX4_straighten_86 : decode cX4_straighten 86 = .ok (.iconst 1, 1) := by decide +kernel
theorem dX4_straighten_87 : decode cX4_straighten 87 = .ok (.iadd, 1) := by decide +kernel
theorem dX4_straighten_88 : decode cX4_straighten 88 = .ok (.putfield 21, 3) := by decide +kernel
theorem dX4_straighten_91 : decode cX4_straighten 91 = .ok (.return_, 1) := by decide +kernel
theorem dX5_init_0 : decode cX5_init 0 = .ok (.aload_n 0, 1) := by decide +kernel
theorem dX5_init_1 : decode cX5_init 1 = .ok (.invokespecial 3, 3) := by decide +kernel
theorem dX5_init_4 : decode cX5_init 4 = .ok (.aload_n 0, 1) := by decide +kernel
theorem dX5_init_5 : decode cX5_init 5 = .ok (.bipush 120, 2) := by decide +kernel
theorem dX5_init_7 : decode cX5_init 7 = .ok (.newarray .char, 2) := by decide +kernel
theorem dX5_init_9 : decode cX5_init 9 = .ok (.putfield 9, 3) := by decide +kernel
theorem dX5_init_12 : decode cX5_init 12 = .ok (.aload_n 0, 1) := by decide +kernel
theorem dX5_init_13 : decode cX5_init 13 = .ok (.iconst 0, 1) := by decide +kernel
theorem dX5_init_14 : decode cX5_init 14 = .ok (.putfield 15, 3) := by decide +kernel
theorem dX5_init_17 : decode cX5_init 17 = .ok (.aload_n 0, 1) := by decide +kernel
theorem dX5_init_18 : decode cX5_init 18 = .ok (.iconst 0, 1) := by decide +kernel
theorem dX5_init_19 : decode cX5_init 19 = .ok (.putfield 19, 3) := by decide +kernel
theorem dX5_init_22 : decode cX5_init 22 = .ok (.aload_n 0, 1) := by decide +kernel
theorem dX5_init_23 : decode cX5_init 23 = .ok (.iconst 0, 1) := by decide +kernel
theorem dX5_init_24 : decode cX5_init 24 = .ok (.putfield 22, 3) := by decide +kernel
theorem dX5_init_27 : decode cX5_init 27 = .ok (.aload_n 0, 1) := by decide +kernel
theorem dX5_init_28 : decode cX5_init 28 = .ok (.iconst 0, 1) := by decide +kernel
theorem dX5_init_29 : decode cX5_init 29 = .ok (.putfield 25, 3) := by decide +kernel
theorem dX5_init_32 : decode cX5_init 32 = .ok (.aload_n 0, 1) := by decide +kernel
theorem dX5_init_33 : decode cX5_init 33 = .ok (.iconst 0, 1) := by decide +kernel
theorem dX5_init_34 : decode cX5_init 34 = .ok (.putfield 28, 3) := by decide +kernel
theorem dX5_init_37 : decode cX5_init 37 = .ok (.aload_n 0, 1) := by decide +kernel
theorem dX5_init_38 : decode cX5_init 38 = .ok (.iconst 0, 1) := by decide +kernel
theorem dX5_init_39 : decode cX5_init 39 = .ok (.putfield 31, 3) := by decide +kernel
theorem dX5_init_42 : decode cX5_init 42 = .ok (.aload_n 0, 1) := by decide +kernel
theorem dX5_init_43 : decode cX5_init 43 = .ok (.iconst (-1), 1) := by decide +kernel
theorem dX5_init_44 : decode cX5_init 44 = .ok (.putfield 34, 3) := by decide +kernel
theorem dX5_init_47 : decode cX5_init 47 = .ok (.return_, 1) := by decide +kernel
theorem dX5_rewind_0 : decode cX5_rewind 0 = .ok (.aload_n 0, 1) := by decide +kernel
theorem dX5_rewind_1 : decode cX5_rewind 1 = .ok (.iconst 0, 1) := by decide +kernel
theorem dX5_rewind_2 : decode cX5_rewind 2 = .ok (.putfield 31, 3) := by decide +kernel
theorem dX5_rewind_5 : decode cX5_rewind 5 = .ok (.aload_n 0, 1) := by decide +kernel
theorem dX5_rewind_6 : decode cX5_rewind 6 = .ok (.iconst (-1), 1) := by decide +kernel
theorem dX5_rewind_7 : decode cX5_rewind 7 = .ok (.putfield 34, 3) := by decide +kernel
theorem dX5_rewind_10 : decode cX5_rewind 10 = .ok (.return_, 1) := by decide +kernel
theorem dX5_findFault_0 : decode cX5_findFault 0 = .ok (.aload_n 0, 1) := by decide +kernel
theorem dX5_findFault_1 : decode cX5_findFault 1 = .ok (.invokevirtual 37, 3) := by decide +kernel
theorem dX5_findFault_4 : decode cX5_findFault 4 = .ok (.iconst 1, 1) := by decide +kernel
theorem dX5_findFault_5 : decode cX5_findFault 5 = .ok (.istore_n 1, 1) := by decide +kernel
theorem dX5_findFault_6 : decode cX5_findFault 6 = .ok (.iconst 0, 1) := by decide +kernel
theorem dX5_findFault_7 : decode cX5_findFault 7 = .ok (.istore_n 2, 1) := by decide +kernel
theorem dX5_findFault_8 : decode cX5_findFault 8 = .ok (.iload_n 1, 1) := by decide +kernel
theorem dX5_findFault_9 : decode cX5_findFault 9 = .ok (.ifCond .eq 42, 3) := by decide +kernel
theorem dX5_findFault_12 : decode cX5_findFault 12 = .ok (.iload_n 2, 1) := by decide +kernel
theorem dX5_findFault_13 : decode cX5_findFault 13 = .ok (.aload_n 0, 1) := by decide +kernel
theorem dX5_findFault_14 : decode cX5_findFault 14 = .ok (.getfield 15, 3) := by decide +kernel
theorem dX5_findFault_17 : decode cX5_findFault 17 = .ok (.if_icmp .gt 34, 3) := by decide +kernel
theorem dX5_findFault_20 : decode cX5_findFault 20 = .ok (.aload_n 0, 1) := by decide +kernel
theorem dX5_findFault_21 : decode cX5_findFault 21 = .ok (.invokevirtual 40, 3) := by decide +kernel
theorem dX5_findFault_24 : decode cX5_findFault 24 = .ok (.aload_n 0, 1) := by decide +kernel
theorem dX5_findFault_25 : decode cX5_findFault 25 = .ok (.getfield 34, 3) := by decide +kernel
theorem dX5_findFault_28 : decode cX5_findFault 28 = .ok (.iconst (-1), 1) := by decide +kernel
theorem dX5_findFault_29 : decode cX5_findFault 29 = .ok (.if_icmp .ne 14, 3) := by decide +kernel
theorem dX5_findFault_32 : decode cX5_findFault 32 = .ok (.aload_n 0, 1) := by decide +kernel
theorem dX5_findFault_33 : decode cX5_findFault 33 = .ok (.invokevirtual 43, 3) := by decide +kernel
theorem dX5_findFault_36 : decode cX5_findFault 36 = .ok (.ifCond .eq 7, 3) := by decide +kernel
theorem dX5_findFault_39 : decode cX5_findFault 39 = .ok (.iconst 1, 1) := by decide +kernel
theorem dX5_findFault_40 : decode cX5_findFault 40 = .ok (.goto 4, 3) := by decide +kernel
theorem dX5_findFault_43 : decode cX5_findFault 43 = .ok (.iconst 0, 1) := by decide +kernel
theorem dX5_findFault_44 : decode cX5_findFault 44 = .ok (.istore_n 1, 1) := by decide +kernel
theorem dX5_findFault_45 : decode cX5_findFault 45 = .ok (.iinc 2 1, 3) := by decide +kernel
theorem dX5_findFault_48 : decode cX5_findFault 48 = .ok (.goto (-40), 3) := by decide +kernel
theorem dX5_findFault_51 : decode cX5_findFault 51 = .ok (.aload_n 0, 1) := by decide +kernel
theorem dX5_findFault_52 : decode cX5_findFault 52 = .ok (.getfield 34, 3) := by decide +kernel
theorem dX5_findFault_55 : decode cX5_findFault 55 = .ok (.ireturn, 1) := by decide +kernel
theorem dX5_takeSemicolon_0 : decode cX5_takeSemicolon 0 = .ok (.aload_n 0, 1) := by decide +kernel
theorem dX5_takeSemicolon_1 : decode cX5_takeSemicolon 1 = .ok (.getfield 31, 3) := by decide +kernel
theorem dX5_takeSemicolon_4 : decode cX5_takeSemicolon 4 = .ok (.aload_n 0, 1) := by decide +kernel
theorem dX5_takeSemicolon_5 : decode cX5_takeSemicolon 5 = .ok (.getfield 15, 3) := by decide +kernel
theorem dX5_takeSemicolon_8 : decode cX5_takeSemicolon 8 = .ok (.if_icmp .lt 5, 3) := by decide +kernel
theorem dX5_takeSemicolon_11 : decode cX5_takeSemicolon 11 = .ok (.iconst 0, 1) := by decide +kernel
theorem dX5_takeSemicolon_12 : decode cX5_takeSemicolon 12 = .ok (.ireturn, 1) := by decide +kernel
theorem dX5_takeSemicolon_13 : decode cX5_takeSemicolon 13 = .ok (.aload_n 0, 1) := by decide +kernel
theorem dX5_takeSemicolon_14 : decode cX5_takeSemicolon 14 = .ok (.getfield 9, 3) := by decide +kernel
theorem dX5_takeSemicolon_17 : decode cX5_takeSemicolon 17 = .ok (.aload_n 0, 1) := by decide +kernel
theorem dX5_takeSemicolon_18 : decode cX5_takeSemicolon 18 = .ok (.getfield 31, 3) := by decide +kernel
theorem dX5_takeSemicolon_21 : decode cX5_takeSemicolon 21 = .ok (.caload, 1) := by decide +kernel
theorem dX5_takeSemicolon_22 : decode cX5_takeSemicolon 22 = .ok (.bipush 59, 2) := by decide +kernel
theorem dX5_takeSemicolon_24 : decode cX5_takeSemicolon 24 = .ok (.if_icmp .eq 13, 3) := by decide +kernel
theorem dX5_takeSemicolon_27 : decode cX5_takeSemicolon 27 = .ok (.aload_n 0, 1) := by decide +kernel
theorem dX5_takeSemicolon_28 : decode cX5_takeSemicolon 28 = .ok (.aload_n 0, 1) := by decide +kernel
theorem dX5_takeSemicolon_29 : decode cX5_takeSemicolon 29 = .ok (.getfield 31, 3) := by decide +kernel
theorem dX5_takeSemicolon_32 : decode cX5_takeSemicolon 32 = .ok (.putfield 34, 3) := by decide +kernel
theorem dX5_takeSemicolon_35 : decode cX5_takeSemicolon 35 = .ok (.iconst 0, 1) := by decide +kernel
theorem dX5_takeSemicolon_36 : decode cX5_takeSemicolon 36 = .ok (.ireturn, 1) := by decide +kernel
theorem dX5_takeSemicolon_37 : decode cX5_takeSemicolon 37 = .ok (.aload_n 0, 1) := by decide +kernel
theorem dX5_takeSemicolon_38 : decode cX5_takeSemicolon 38 = .ok (.dup, 1) := by decide +kernel
theorem dX5_takeSemicolon_39 : decode cX5_takeSemicolon 39 = .ok (.getfield 31, 3) := by decide +kernel
theorem dX5_takeSemicolon_42 : decode cX5_takeSemicolon 42 = .ok (.iconst 1, 1) := by decide +kernel
theorem dX5_takeSemicolon_43 : decode cX5_takeSemicolon 43 = .ok (.iadd, 1) := by decide +kernel
theorem dX5_takeSemicolon_44 : decode cX5_takeSemicolon 44 = .ok (.putfield 31, 3) := by decide +kernel
theorem dX5_takeSemicolon_47 : decode cX5_takeSemicolon 47 = .ok (.iconst 1, 1) := by decide +kernel
theorem dX5_takeSemicolon_48 : decode cX5_takeSemicolon 48 = .ok (.ireturn, 1) := by decide +kernel
theorem dX5_takeStatement_0 : decode cX5_takeStatement 0 = .ok (.aload_n 0, 1) := by decide +kernel
theorem dX5_takeStatement_1 : decode cX5_takeStatement 1 = .ok (.getfield 31, 3) := by decide +kernel
theorem dX5_takeStatement_4 : decode cX5_takeStatement 4 = .ok (.istore_n 1, 1) := by decide +kernel
theorem dX5_takeStatement_5 : decode cX5_takeStatement 5 = .ok (.aload_n 0, 1) := by decide +kernel
theorem dX5_takeStatement_6 : decode cX5_takeStatement 6 = .ok (.getfield 31, 3) := by decide +kernel
theorem dX5_takeStatement_9 : decode cX5_takeStatement 9 = .ok (.aload_n 0, 1) := by decide +kernel
theorem dX5_takeStatement_10 : decode cX5_takeStatement 10 = .ok (.getfield 15, 3) := by decide +kernel
theorem dX5_takeStatement_13 : decode cX5_takeStatement 13 = .ok (.if_icmp .ge 44, 3) := by decide +kernel
theorem dX5_takeStatement_16 : decode cX5_takeStatement 16 = .ok (.aload_n 0, 1) := by decide +kernel
theorem dX5_takeStatement_17 : decode cX5_takeStatement 17 = .ok (.getfield 9, 3) := by decide +kernel
theorem dX5_takeStatement_20 : decode cX5_takeStatement 20 = .ok (.aload_n 0, 1) := by decide +kernel
theorem dX5_takeStatement_21 : decode cX5_takeStatement 21 = .ok (.getfield 31, 3) := by decide +kernel
theorem dX5_takeStatement_24 : decode cX5_takeStatement 24 = .ok (.caload, 1) := by decide +kernel
theorem dX5_takeStatement_25 : decode cX5_takeStatement 25 = .ok (.bipush 97, 2) := by decide +kernel
theorem dX5_takeStatement_27 : decode cX5_takeStatement 27 = .ok (.if_icmp .lt 30, 3) := by decide +kernel
theorem dX5_takeStatement_30 : decode cX5_takeStatement 30 = .ok (.aload_n 0, 1) := by decide +kernel
theorem dX5_takeStatement_31 : decode cX5_takeStatement 31 = .ok (.getfield 9, 3) := by decide +kernel
theorem dX5_takeStatement_34 : decode cX5_takeStatement 34 = .ok (.aload_n 0, 1) := by decide +kernel
theorem dX5_takeStatement_35 : decode cX5_takeStatement 35 = .ok (.getfield 31, 3) := by decide +kernel
theorem dX5_takeStatement_38 : decode cX5_takeStatement 38 = .ok (.caload, 1) := by decide +kernel
theorem dX5_takeStatement_39 : decode cX5_takeStatement 39 = .ok (.bipush 122, 2) := by decide +kernel
theorem dX5_takeStatement_41 : decode cX5_takeStatement 41 = .ok (.if_icmp .gt 16, 3) := by decide +kernel
theorem dX5_takeStatement_44 : decode cX5_takeStatement 44 = .ok (.aload_n 0, 1) := by decide +kernel
theorem dX5_takeStatement_45 : decode cX5_takeStatement 45 = .ok (.dup, 1) := by decide +kernel
theorem dX5_takeStatement_46 : decode cX5_takeStatement 46 = .ok (.getfield 31, 3) := by decide +kernel
theorem dX5_takeStatement_49 : decode cX5_takeStatement 49 = .ok (.iconst 1, 1) := by decide +kernel
theorem dX5_takeStatement_50 : decode cX5_takeStatement 50 = .ok (.iadd, 1) := by decide +kernel
theorem dX5_takeStatement_51 : decode cX5_takeStatement 51 = .ok (.putfield 31, 3) := by decide +kernel
theorem dX5_takeStatement_54 : decode cX5_takeStatement 54 = .ok (.goto (-49), 3) := by decide +kernel
theorem dX5_takeStatement_57 : decode cX5_takeStatement 57 = .ok (.aload_n 0, 1) := by decide +kernel
theorem dX5_takeStatement_58 : decode cX5_takeStatement 58 = .ok (.aload_n 0, 1) := by decide +kernel
theorem dX5_takeStatement_59 : decode cX5_takeStatement 59 = .ok (.iload_n 1, 1) := by decide +kernel
theorem dX5_takeStatement_60 : decode cX5_takeStatement 60 = .ok (.invokevirtual 47, 3) := by decide +kernel
theorem dX5_takeStatement_63 : decode cX5_takeStatement 63 = .ok (.putfield 19, 3) := by decide +kernel
theorem dX5_takeStatement_66 : decode cX5_takeStatement 66 = .ok (.aload_n 0, 1) := by decide +kernel
theorem dX5_takeStatement_67 : decode cX5_takeStatement 67 = .ok (.iconst 0, 1) := by decide +kernel
theorem dX5_takeStatement_68 : decode cX5_takeStatement 68 = .ok (.putfield 22, 3) := by decide +kernel
theorem dX5_takeStatement_71 : decode cX5_takeStatement 71 = .ok (.aload_n 0, 1) := by decide +kernel
theorem dX5_takeStatement_72 : decode cX5_takeStatement 72 = .ok (.iconst 0, 1) := by decide +kernel
theorem dX5_takeStatement_73 : decode cX5_takeStatement 73 = .ok (.putfield 25, 3) := by decide +kernel
theorem dX5_takeStatement_76 : decode cX5_takeStatement 76 = .ok (.aload_n 0, 1) := by decide +kernel
theorem dX5_takeStatement_77 : decode cX5_takeStatement 77 = .ok (.iconst 0, 1) := by decide +kernel
theorem dX5_takeStatement_78 : decode cX5_takeStatement 78 = .ok (.putfield 28, 3) := by decide +kernel
theorem dX5_takeStatement_81 : decode cX5_takeStatement 81 = .ok (.aload_n 0, 1) := by decide +kernel
theorem dX5_takeStatement_82 : decode cX5_takeStatement 82 = .ok (.getfield 19, 3) := by decide +kernel
theorem dX5_takeStatement_85 : decode cX5_takeStatement 85 = .ok (.lookupswitch 42 #[(0, 27), (5, 35)], 27) := by decide +kernel
theorem dX5_takeStatement_112 : decode cX5_takeStatement 112 = .ok (.aload_n 0, 1) := by decide +kernel
theorem dX5_takeStatement_113 : decode cX5_takeStatement 113 = .ok (.iload_n 1, 1) := by decide +kernel
theorem dX5_takeStatement_114 : decode cX5_takeStatement 114 = .ok (.putfield 34, 3) := by decide +kernel
theorem dX5_takeStatement_117 : decode cX5_takeStatement 117 = .ok (.goto 62, 3) := by decide +kernel
theorem dX5_takeStatement_120 : decode cX5_takeStatement 120 = .ok (.aload_n 0, 1) := by decide +kernel
theorem dX5_takeStatement_121 : decode cX5_takeStatement 121 = .ok (.invokevirtual 51, 3) := by decide +kernel
theorem dX5_takeStatement_124 : decode cX5_takeStatement 124 = .ok (.goto 55, 3) := by decide +kernel
theorem dX5_takeStatement_127 : decode cX5_takeStatement 127 = .ok (.aload_n 0, 1) := by decide +kernel
theorem dX5_takeStatement_128 : decode cX5_takeStatement 128 = .ok (.aload_n 0, 1) := by decide +kernel
theorem dX5_takeStatement_129 : decode cX5_takeStatement 129 = .ok (.iconst 1, 1) := by decide +kernel
theorem dX5_takeStatement_130 : decode cX5_takeStatement 130 = .ok (.invokevirtual 54, 3) := by decide +kernel
theorem dX5_takeStatement_133 : decode cX5_takeStatement 133 = .ok (.putfield 22, 3) := by decide +kernel
theorem dX5_takeStatement_136 : decode cX5_takeStatement 136 = .ok (.aload_n 0, 1) := by decide +kernel
theorem dX5_takeStatement_137 : decode cX5_takeStatement 137 = .ok (.getfield 19, 3) := by decide +kernel
theorem dX5_takeStatement_140 : decode cX5_takeStatement 140 = .ok (.iconst 2, 1) := by decide +kernel
theorem dX5_takeStatement_141 : decode cX5_takeStatement 141 = .ok (.if_icmp .eq 11, 3) := by decide +kernel
theorem dX5_takeStatement_144 : decode cX5_takeStatement 144 = .ok (.aload_n 0, 1) := by decide +kernel
theorem dX5_takeStatement_145 : decode cX5_takeStatement 145 = .ok (.getfield 19, 3) := by decide +kernel
theorem dX5_takeStatement_148 : decode cX5_takeStatement 148 = .ok (.iconst 3, 1) := by decide +kernel
theorem dX5_takeStatement_149 : decode cX5_takeStatement 149 = .ok (.if_icmp .ne 12, 3) := by decide +kernel
theorem dX5_takeStatement_152 : decode cX5_takeStatement 152 = .ok (.aload_n 0, 1) := by decide +kernel
theorem dX5_takeStatement_153 : decode cX5_takeStatement 153 = .ok (.aload_n 0, 1) := by decide +kernel
theorem dX5_takeStatement_154 : decode cX5_takeStatement 154 = .ok (.iconst 1, 1) := by decide +kernel
theorem dX5_takeStatement_155 : decode cX5_takeStatement 155 = .ok (.invokevirtual 54, 3) := by decide +kernel
theorem dX5_takeStatement_158 : decode cX5_takeStatement 158 = .ok (.putfield 25, 3) := by decide +kernel
theorem dX5_takeStatement_161 : decode cX5_takeStatement 161 = .ok (.aload_n 0, 1) := by decide +kernel
theorem dX5_takeStatement_162 : decode cX5_takeStatement 162 = .ok (.getfield 19, 3) := by decide +kernel
theorem dX5_takeStatement_165 : decode cX5_takeStatement 165 = .ok (.bipush 6, 2) := by decide +kernel
theorem dX5_takeStatement_167 : decode cX5_takeStatement 167 = .ok (.if_icmp .ne 12, 3) := by decide +kernel
theorem dX5_takeStatement_170 : decode cX5_takeStatement 170 = .ok (.aload_n 0, 1) := by decide +kernel
theorem dX5_takeStatement_171 : decode cX5_takeStatement 171 = .ok (.aload_n 0, 1) := by decide +kernel
theorem dX5_takeStatement_172 : decode cX5_takeStatement 172 = .ok (.iconst 2, 1) := by decide +kernel
theorem dX5_takeStatement_173 : decode cX5_takeStatement 173 = .ok (.invokevirtual 54, 3) := by decide +kernel
theorem dX5_takeStatement_176 : decode cX5_takeStatement 176 = .ok (.putfield 25, 3) := by decide +kernel
theorem dX5_takeStatement_179 : decode cX5_takeStatement 179 = .ok (.return_, 1) := by decide +kernel
theorem dX5_wordFrom_0 : decode cX5_wordFrom 0 = .ok (.aload_n 0, 1) := by decide +kernel
theorem dX5_wordFrom_1 : decode cX5_wordFrom 1 = .ok (.ldc 57, 2) := by decide +kernel
theorem dX5_wordFrom_3 : decode cX5_wordFrom 3 = .ok (.iload_n 1, 1) := by decide +kernel
theorem dX5_wordFrom_4 : decode cX5_wordFrom 4 = .ok (.invokevirtual 59, 3) := by decide +kernel
theorem dX5_wordFrom_7 : decode cX5_wordFrom 7 = .ok (.ifCond .eq 5, 3) := by decide +kernel
theorem dX5_wordFrom_10 : decode cX5_wordFrom 10 = .ok (.iconst 1, 1) := by decide +kernel
theorem dX5_wordFrom_11 : decode cX5_wordFrom 11 = .ok (.ireturn, 1) := by decide +kernel
theorem dX5_wordFrom_12 : decode cX5_wordFrom 12 = .ok (.aload_n 0, 1) := by decide +kernel
theorem dX5_wordFrom_13 : decode cX5_wordFrom 13 = .ok (.ldc 63, 2) := by decide +kernel
theorem dX5_wordFrom_15 : decode cX5_wordFrom 15 = .ok (.iload_n 1, 1) := by decide +kernel
theorem dX5_wordFrom_16 : decode cX5_wordFrom 16 = .ok (.invokevirtual 59, 3) := by decide +kernel
theorem dX5_wordFrom_19 : decode cX5_wordFrom 19 = .ok (.ifCond .eq 5, 3) := by decide +kernel
theorem dX5_wordFrom_22 : decode cX5_wordFrom 22 = .ok (.iconst 2, 1) := by decide +kernel
theorem dX5_wordFrom_23 : decode cX5_wordFrom 23 = .ok (.ireturn, 1) := by decide +kernel
theorem dX5_wordFrom_24 : decode cX5_wordFrom 24 = .ok (.aload_n 0, 1) := by decide +kernel
theorem dX5_wordFrom_25 : decode cX5_wordFrom 25 = .ok (.ldc 65, 2) := by decide +kernel
theorem dX5_wordFrom_27 : decode cX5_wordFrom 27 = .ok (.iload_n 1, 1) := by decide +kernel
theorem dX5_wordFrom_28 : decode cX5_wordFrom 28 = .ok (.invokevirtual 59, 3) := by decide +kernel
theorem dX5_wordFrom_31 : decode cX5_wordFrom 31 = .ok (.ifCond .eq 5, 3) := by decide +kernel
theorem dX5_wordFrom_34 : decode cX5_wordFrom 34 = .ok (.iconst 3, 1) := by decide +kernel
theorem dX5_wordFrom_35 : decode cX5_wordFrom 35 = .ok (.ireturn, 1) := by decide +kernel
theorem dX5_wordFrom_36 : decode cX5_wordFrom 36 = .ok (.aload_n 0, 1) := by decide +kernel
theorem dX5_wordFrom_37 : decode cX5_wordFrom 37 = .ok (.ldc 67, 2) := by decide +kernel
theorem dX5_wordFrom_39 : decode cX5_wordFrom 39 = .ok (.iload_n 1, 1) := by decide +kernel
theorem dX5_wordFrom_40 : decode cX5_wordFrom 40 = .ok (.invokevirtual 59, 3) := by decide +kernel
theorem dX5_wordFrom_43 : decode cX5_wordFrom 43 = .ok (.ifCond .eq 5, 3) := by decide +kernel
theorem dX5_wordFrom_46 : decode cX5_wordFrom 46 = .ok (.iconst 4, 1) := by decide +kernel
theorem dX5_wordFrom_47 : decode cX5_wordFrom 47 = .ok (.ireturn, 1) := by decide +kernel
theorem dX5_wordFrom_48 : decode cX5_wordFrom 48 = .ok (.aload_n 0, 1) := by decide +kernel
theorem dX5_wordFrom_49 : decode cX5_wordFrom 49 = .ok (.ldc 69, 2) := by decide +kernel
theorem dX5_wordFrom_51 : decode cX5_wordFrom 51 = .ok (.iload_n 1, 1) := by decide +kernel
theorem dX5_wordFrom_52 : decode cX5_wordFrom 52 = .ok (.invokevirtual 59, 3) := by decide +kernel
theorem dX5_wordFrom_55 : decode cX5_wordFrom 55 = .ok (.ifCond .eq 5, 3) := by decide +kernel
theorem dX5_wordFrom_58 : decode cX5_wordFrom 58 = .ok (.iconst 5, 1) := by decide +kernel
theorem dX5_wordFrom_59 : decode cX5_wordFrom 59 = .ok (.ireturn, 1) := by decide +kernel
theorem dX5_wordFrom_60 : decode cX5_wordFrom 60 = .ok (.aload_n 0, 1) := by decide +kernel
theorem dX5_wordFrom_61 : decode cX5_wordFrom 61 = .ok (.ldc 71, 2) := by decide +kernel
theorem dX5_wordFrom_63 : decode cX5_wordFrom 63 = .ok (.iload_n 1, 1) := by decide +kernel
theorem dX5_wordFrom_64 : decode cX5_wordFrom 64 = .ok (.invokevirtual 59, 3) := by decide +kernel
theorem dX5_wordFrom_67 : decode cX5_wordFrom 67 = .ok (.ifCond .eq 6, 3) := by decide +kernel
theorem dX5_wordFrom_70 : decode cX5_wordFrom 70 = .ok (.bipush 6, 2) := by decide +kernel
theorem dX5_wordFrom_72 : decode cX5_wordFrom 72 = .ok (.ireturn, 1) := by decide +kernel
theorem dX5_wordFrom_73 : decode cX5_wordFrom 73 = .ok (.iconst 0, 1) := by decide +kernel
theorem dX5_wordFrom_74 : decode cX5_wordFrom 74 = .ok (.ireturn, 1) := by decide +kernel
theorem dX5_isWord_0 : decode cX5_isWord 0 = .ok (.aload_n 0, 1) := by decide +kernel
theorem dX5_isWord_1 : decode cX5_isWord 1 = .ok (.getfield 31, 3) := by decide +kernel
theorem dX5_isWord_4 : decode cX5_isWord 4 = .ok (.iload_n 2, 1) := by decide +kernel
theorem dX5_isWord_5 : decode cX5_isWord 5 = .ok (.isub, 1) := by decide +kernel
theorem dX5_isWord_6 : decode cX5_isWord 6 = .ok (.aload_n 1, 1) := by decide +kernel
theorem dX5_isWord_7 : decode cX5_isWord 7 = .ok (.invokevirtual 73, 3) := by decide +kernel
theorem dX5_isWord_10 : decode cX5_isWord 10 = .ok (.if_icmp .eq 5, 3) := by decide +kernel
theorem dX5_isWord_13 : decode cX5_isWord 13 = .ok (.iconst 0, 1) := by decide +kernel
theorem dX5_isWord_14 : decode cX5_isWord 14 = .ok (.ireturn, 1) := by decide +kernel
theorem dX5_isWord_15 : decode cX5_isWord 15 = .ok (.iconst 0, 1) := by decide +kernel
theorem dX5_isWord_16 : decode cX5_isWord 16 = .ok (.istore_n 3, 1) := by decide +kernel
theorem dX5_isWord_17 : decode cX5_isWord 17 = .ok (.iload_n 3, 1) := by decide +kernel
theorem dX5_isWord_18 : decode cX5_isWord 18 = .ok (.aload_n 1, 1) := by decide +kernel
theorem dX5_isWord_19 : decode cX5_isWord 19 = .ok (.invokevirtual 73, 3) := by decide +kernel
theorem dX5_isWord_22 : decode cX5_isWord 22 = .ok (.if_icmp .ge 27, 3) := by decide +kernel
theorem dX5_isWord_25 : decode cX5_isWord 25 = .ok (.aload_n 0, 1) := by decide +kernel
theorem dX5_isWord_26 : decode cX5_isWord 26 = .ok (.getfield 9, 3) := by decide +kernel
theorem dX5_isWord_29 : decode cX5_isWord 29 = .ok (.iload_n 2, 1) := by decide +kernel
theorem dX5_isWord_30 : decode cX5_isWord 30 = .ok (.iload_n 3, 1) := by decide +kernel
theorem dX5_isWord_31 : decode cX5_isWord 31 = .ok (.iadd, 1) := by decide +kernel
theorem dX5_isWord_32 : decode cX5_isWord 32 = .ok (.caload, 1) := by decide +kernel
theorem dX5_isWord_33 : decode cX5_isWord 33 = .ok (.aload_n 1, 1) := by decide +kernel
theorem dX5_isWord_34 : decode cX5_isWord 34 = .ok (.iload_n 3, 1) := by decide +kernel
theorem dX5_isWord_35 : decode cX5_isWord 35 = .ok (.invokevirtual 78, 3) := by decide +kernel
theorem dX5_isWord_38 : decode cX5_isWord 38 = .ok (.if_icmp .eq 5, 3) := by decide +kernel
theorem dX5_isWord_41 : decode cX5_isWord 41 = .ok (.iconst 0, 1) := by decide +kernel
theorem dX5_isWord_42 : decode cX5_isWord 42 = .ok (.ireturn, 1) := by decide +kernel
theorem dX5_isWord_43 : decode cX5_isWord 43 = .ok (.iinc 3 1, 3) := by decide +kernel
theorem dX5_isWord_46 : decode cX5_isWord 46 = .ok (.goto (-29), 3) := by decide +kernel
theorem dX5_isWord_49 : decode cX5_isWord 49 = .ok (.iconst 1, 1) := by decide +kernel
theorem dX5_isWord_50 : decode cX5_isWord 50 = .ok (.ireturn, 1) := by decide +kernel
theorem dX5_takePosts_0 : decode cX5_takePosts 0 = .ok (.iconst 0, 1) := by decide +kernel
theorem dX5_takePosts_1 : decode cX5_takePosts 1 = .ok (.istore_n 1, 1) := by decide +kernel
theorem dX5_takePosts_2 : decode cX5_takePosts 2 = .ok (.iload_n 1, 1) := by decide +kernel
theorem dX5_takePosts_3 : decode cX5_takePosts 3 = .ok (.aload_n 0, 1) := by decide +kernel
theorem dX5_takePosts_4 : decode cX5_takePosts 4 = .ok (.getfield 15, 3) := by decide +kernel
theorem dX5_takePosts_7 : decode cX5_takePosts 7 = .ok (.if_icmp .ge 59, 3) := by decide +kernel
theorem dX5_takePosts_10 : decode cX5_takePosts 10 = .ok (.aload_n 0, 1) := by decide +kernel
theorem dX5_takePosts_11 : decode cX5_takePosts 11 = .ok (.getfield 34, 3) := by decide +kernel
theorem dX5_takePosts_14 : decode cX5_takePosts 14 = .ok (.iconst (-1), 1) := by decide +kernel
theorem dX5_takePosts_15 : decode cX5_takePosts 15 = .ok (.if_icmp .ne 28, 3) := by decide +kernel
theorem dX5_takePosts_18 : decode cX5_takePosts 18 = .ok (.aload_n 0, 1) := by decide +kernel
theorem dX5_takePosts_19 : decode cX5_takePosts 19 = .ok (.getfield 31, 3) := by decide +kernel
theorem dX5_takePosts_22 : decode cX5_takePosts 22 = .ok (.aload_n 0, 1) := by decide +kernel
theorem dX5_takePosts_23 : decode cX5_takePosts 23 = .ok (.getfield 15, 3) := by decide +kernel
theorem dX5_takePosts_26 : decode cX5_takePosts 26 = .ok (.if_icmp .ge 17, 3) := by decide +kernel
theorem dX5_takePosts_29 : decode cX5_takePosts 29 = .ok (.aload_n 0, 1) := by decide +kernel
theorem dX5_takePosts_30 : decode cX5_takePosts 30 = .ok (.getfield 9, 3) := by decide +kernel
theorem dX5_takePosts_33 : decode cX5_takePosts 33 = .ok (.aload_n 0, 1) := by decide +kernel
theorem dX5_takePosts_34 : decode cX5_takePosts 34 = .ok (.getfield 31, 3) := by decide +kernel
theorem dX5_takePosts_37 : decode cX5_takePosts 37 = .ok (.caload, 1) := by decide +kernel
theorem dX5_takePosts_38 : decode cX5_takePosts 38 = .ok (.bipush 32, 2) := by decide +kernel
theorem dX5_takePosts_40 : decode cX5_takePosts 40 = .ok (.if_icmp .eq 4, 3) := by decide +kernel
theorem dX5_takePosts_43 : decode cX5_takePosts 43 = .ok (.return_, 1) := by decide +kernel
theorem dX5_takePosts_44 : decode cX5_takePosts 44 = .ok (.aload_n 0, 1) := by decide +kernel
theorem dX5_takePosts_45 : decode cX5_takePosts 45 = .ok (.dup, 1) := by decide +kernel
theorem dX5_takePosts_46 : decode cX5_takePosts 46 = .ok (.getfield 28, 3) := by decide +kernel
theorem dX5_takePosts_49 : decode cX5_takePosts 49 = .ok (.iconst 1, 1) := by decide +kernel
theorem dX5_takePosts_50 : decode cX5_takePosts 50 = .ok (.aload_n 0, 1) := by decide +kernel
theorem dX5_takePosts_51 : decode cX5_takePosts 51 = .ok (.iconst 1, 1) := by decide +kernel
theorem dX5_takePosts_52 : decode cX5_takePosts 52 = .ok (.invokevirtual 54, 3) := by decide +kernel
theorem dX5_takePosts_55 : decode cX5_takePosts 55 = .ok (.ishl, 1) := by decide +kernel
theorem dX5_takePosts_56 : decode cX5_takePosts 56 = .ok (.ior, 1) := by decide +kernel
theorem dX5_takePosts_57 : decode cX5_takePosts 57 = .ok (.putfield 28, 3) := by decide +kernel
theorem dX5_takePosts_60 : decode cX5_takePosts 60 = .ok (.iinc 1 1, 3) := by decide +kernel
theorem dX5_takePosts_63 : decode cX5_takePosts 63 = .ok (.goto (-61), 3) := by decide +kernel
theorem dX5_takePosts_66 : decode cX5_takePosts 66 = .ok (.return_, 1) := by decide +kernel
theorem dX5_takeNumber_0 : decode cX5_takeNumber 0 = .ok (.aload_n 0, 1) := by decide +kernel
theorem dX5_takeNumber_1 : decode cX5_takeNumber 1 = .ok (.getfield 34, 3) := by decide +kernel
theorem dX5_takeNumber_4 : decode cX5_takeNumber 4 = .ok (.iconst (-1), 1) := by decide +kernel
theorem dX5_takeNumber_5 : decode cX5_takeNumber 5 = .ok (.if_icmp .eq 5, 3) := by decide +kernel
theorem dX5_takeNumber_8 : decode cX5_takeNumber 8 = .ok (.iconst 0, 1) := by decide +kernel
theorem dX5_takeNumber_9 : decode cX5_takeNumber 9 = .ok (.ireturn, 1) := by decide +kernel
theorem dX5_takeNumber_10 : decode cX5_takeNumber 10 = .ok (.aload_n 0, 1) := by decide +kernel
theorem dX5_takeNumber_11 : decode cX5_takeNumber 11 = .ok (.getfield 31, 3) := by decide +kernel
theorem dX5_takeNumber_14 : decode cX5_takeNumber 14 = .ok (.aload_n 0, 1) := by decide +kernel
theorem dX5_takeNumber_15 : decode cX5_takeNumber 15 = .ok (.getfield 15, 3) := by decide +kernel
theorem dX5_takeNumber_18 : decode cX5_takeNumber 18 = .ok (.if_icmp .ge 17, 3) := by decide +kernel
theorem dX5_takeNumber_21 : decode cX5_takeNumber 21 = .ok (.aload_n 0, 1) := by decide +kernel
theorem dX5_takeNumber_22 : decode cX5_takeNumber 22 = .ok (.getfield 9, 3) := by decide +kernel
theorem dX5_takeNumber_25 : decode cX5_takeNumber 25 = .ok (.aload_n 0, 1) := by decide +kernel
theorem dX5_takeNumber_26 : decode cX5_takeNumber 26 = .ok (.getfield 31, 3) := by decide +kernel
theorem dX5_takeNumber_29 : decode cX5_takeNumber 29 = .ok (.caload, 1) := by decide +kernel
theorem dX5_takeNumber_30 : decode cX5_takeNumber 30 = .ok (.bipush 32, 2) := by decide +kernel
theorem dX5_takeNumber_32 : decode cX5_takeNumber 32 = .ok (.if_icmp .eq 13, 3) := by decide +kernel
theorem dX5_takeNumber_35 : decode cX5_takeNumber 35 = .ok (.aload_n 0, 1) := by decide +kernel
theorem dX5_takeNumber_36 : decode cX5_takeNumber 36 = .ok (.aload_n 0, 1) := by decide +kernel
theorem dX5_takeNumber_37 : decode cX5_takeNumber 37 = .ok (.getfield 31, 3) := by decide +kernel
theorem dX5_takeNumber_40 : decode cX5_takeNumber 40 = .ok (.putfield 34, 3) := by decide +kernel
theorem dX5_takeNumber_43 : decode cX5_takeNumber 43 = .ok (.iconst 0, 1) := by decide +kernel
theorem dX5_takeNumber_44 : decode cX5_takeNumber 44 = .ok (.ireturn, 1) := by decide +kernel
theorem dX5_takeNumber_45 : decode cX5_takeNumber 45 = .ok (.aload_n 0, 1) := by decide +kernel
theorem dX5_takeNumber_46 : decode cX5_takeNumber 46 = .ok (.dup, 1) := by decide +kernel
theorem dX5_takeNumber_47 : decode cX5_takeNumber 47 = .ok (.getfield 31, 3) := by decide +kernel
theorem dX5_takeNumber_50 : decode cX5_takeNumber 50 = .ok (.iconst 1, 1) := by decide +kernel
theorem dX5_takeNumber_51 : decode cX5_takeNumber 51 = .ok (.iadd, 1) := by decide +kernel
theorem dX5_takeNumber_52 : decode cX5_takeNumber 52 = .ok (.putfield 31, 3) := by decide +kernel
theorem dX5_takeNumber_55 : decode cX5_takeNumber 55 = .ok (.aload_n 0, 1) := by decide +kernel
theorem dX5_takeNumber_56 : decode cX5_takeNumber 56 = .ok (.invokevirtual 82, 3) := by decide +kernel
theorem dX5_takeNumber_59 : decode cX5_takeNumber 59 = .ok (.ifCond .ne 13, 3) := by decide +kernel
theorem dX5_takeNumber_62 : decode cX5_takeNumber 62 = .ok (.aload_n 0, 1) := by decide +kernel
theorem dX5_takeNumber_63 : decode cX5_takeNumber 63 = .ok (.aload_n 0, 1) := by decide +kernel
theorem dX5_takeNumber_64 : decode cX5_takeNumber 64 = .ok (.getfield 31, 3) := by decide +kernel
theorem dX5_takeNumber_67 : decode cX5_takeNumber 67 = .ok (.putfield 34, 3) := by decide +kernel
theorem dX5_takeNumber_70 : decode cX5_takeNumber 70 = .ok (.iconst 0, 1) := by decide +kernel
theorem dX5_takeNumber_71 : decode cX5_takeNumber 71 = .ok (.ireturn, 1) := by decide +kernel
theorem dX5_takeNumber_72 : decode cX5_takeNumber 72 = .ok (.iconst 0, 1) := by decide +kernel
theorem dX5_takeNumber_73 : decode cX5_takeNumber 73 = .ok (.istore_n 2, 1) := by decide +kernel
theorem dX5_takeNumber_74 : decode cX5_takeNumber 74 = .ok (.iconst 0, 1) := by decide +kernel
theorem dX5_takeNumber_75 : decode cX5_takeNumber 75 = .ok (.istore_n 3, 1) := by decide +kernel
theorem dX5_takeNumber_76 : decode cX5_takeNumber 76 = .ok (.iload_n 3, 1) := by decide +kernel
theorem dX5_takeNumber_77 : decode cX5_takeNumber 77 = .ok (.iload_n 1, 1) := by decide +kernel
theorem dX5_takeNumber_78 : decode cX5_takeNumber 78 = .ok (.if_icmp .ge 44, 3) := by decide +kernel
theorem dX5_takeNumber_81 : decode cX5_takeNumber 81 = .ok (.aload_n 0, 1) := by decide +kernel
theorem dX5_takeNumber_82 : decode cX5_takeNumber 82 = .ok (.invokevirtual 82, 3) := by decide +kernel
theorem dX5_takeNumber_85 : decode cX5_takeNumber 85 = .ok (.ifCond .eq 37, 3) := by decide +kernel
theorem dX5_takeNumber_88 : decode cX5_takeNumber 88 = .ok (.iload_n 2, 1) := by decide +kernel
theorem dX5_takeNumber_89 : decode cX5_takeNumber 89 = .ok (.bipush 10, 2) := by decide +kernel
theorem dX5_takeNumber_91 : decode cX5_takeNumber 91 = .ok (.imul, 1) := by decide +kernel
theorem dX5_takeNumber_92 : decode cX5_takeNumber 92 = .ok (.aload_n 0, 1) := by decide +kernel
theorem dX5_takeNumber_93 : decode cX5_takeNumber 93 = .ok (.getfield 9, 3) := by decide +kernel
theorem dX5_takeNumber_96 : decode cX5_takeNumber 96 = .ok (.aload_n 0, 1) := by decide +kernel
theorem dX5_takeNumber_97 : decode cX5_takeNumber 97 = .ok (.getfield 31, 3) := by decide +kernel
theorem dX5_takeNumber_100 : decode cX5_takeNumber 100 = .ok (.caload, 1) := by decide +kernel
theorem dX5_takeNumber_101 : decode cX5_takeNumber 101 = .ok (.iadd, 1) := by decide +kernel
theorem dX5_takeNumber_102 : decode cX5_takeNumber 102 = .ok (.bipush 48, 2) := by decide +kernel
theorem dX5_takeNumber_104 : decode cX5_takeNumber 104 = .ok (.isub, 1) := by decide +kernel
theorem dX5_takeNumber_105 : decode cX5_takeNumber 105 = .ok (.istore_n 2, 1) := by decide +kernel
theorem dX5_takeNumber_106 : decode cX5_takeNumber 106 = .ok (.aload_n 0, 1) := by decide +kernel
theorem dX5_takeNumber_107 : decode cX5_takeNumber 107 = .ok (.dup, 1) := by decide +kernel
theorem dX5_takeNumber_108 : decode cX5_takeNumber 108 = .ok (.getfield 31, 3) := by decide +kernel
theorem dX5_takeNumber_111 : decode cX5_takeNumber 111 = .ok (.iconst 1, 1) := by decide +kernel
theorem dX5_takeNumber_112 : decode cX5_takeNumber 112 = .ok (.iadd, 1) := by decide +kernel
theorem dX5_takeNumber_113 : decode cX5_takeNumber 113 = .ok (.putfield 31, 3) := by decide +kernel
theorem dX5_takeNumber_116 : decode cX5_takeNumber 116 = .ok (.iinc 3 1, 3) := by decide +kernel
theorem dX5_takeNumber_119 : decode cX5_takeNumber 119 = .ok (.goto (-43), 3) := by decide +kernel
theorem dX5_takeNumber_122 : decode cX5_takeNumber 122 = .ok (.iload_n 2, 1) := by decide +kernel
theorem dX5_takeNumber_123 : decode cX5_takeNumber 123 = .ok (.ireturn, 1) := by decide +kernel
theorem dX5_isFigure_0 : decode cX5_isFigure 0 = .ok (.aload_n 0, 1) := by decide +kernel
theorem dX5_isFigure_1 : decode cX5_isFigure 1 = .ok (.getfield 31, 3) := by decide +kernel
theorem dX5_isFigure_4 : decode cX5_isFigure 4 = .ok (.aload_n 0, 1) := by decide +kernel
theorem dX5_isFigure_5 : decode cX5_isFigure 5 = .ok (.getfield 15, 3) := by decide +kernel
theorem dX5_isFigure_8 : decode cX5_isFigure 8 = .ok (.if_icmp .ge 35, 3) := by decide +kernel
theorem dX5_isFigure_11 : decode cX5_isFigure 11 = .ok (.aload_n 0, 1) := by decide +kernel
theorem dX5_isFigure_12 : decode cX5_isFigure 12 = .ok (.getfield 9, 3) := by decide +kernel
theorem dX5_isFigure_15 : decode cX5_isFigure 15 = .ok (.aload_n 0, 1) := by decide +kernel
theorem dX5_isFigure_16 : decode cX5_isFigure 16 = .ok (.getfield 31, 3) := by decide +kernel
theorem dX5_isFigure_19 : decode cX5_isFigure 19 = .ok (.caload, 1) := by decide +kernel
theorem dX5_isFigure_20 : decode cX5_isFigure 20 = .ok (.bipush 48, 2) := by decide +kernel
theorem dX5_isFigure_22 : decode cX5_isFigure 22 = .ok (.if_icmp .lt 21, 3) := by decide +kernel
theorem dX5_isFigure_25 : decode cX5_isFigure 25 = .ok (.aload_n 0, 1) := by decide +kernel
theorem dX5_isFigure_26 : decode cX5_isFigure 26 = .ok (.getfield 9, 3) := by decide +kernel
theorem dX5_isFigure_29 : decode cX5_isFigure 29 = .ok (.aload_n 0, 1) := by decide +kernel
theorem dX5_isFigure_30 : decode cX5_isFigure 30 = .ok (.getfield 31, 3) := by decide +kernel
theorem dX5_isFigure_33 : decode cX5_isFigure 33 = .ok (.caload, 1) := by decide +kernel
theorem dX5_isFigure_34 : decode cX5_isFigure 34 = .ok (.bipush 57, 2) := by decide +kernel
theorem dX5_isFigure_36 : decode cX5_isFigure 36 = .ok (.if_icmp .gt 7, 3) := by decide +kernel
theorem dX5_isFigure_39 : decode cX5_isFigure 39 = .ok (.iconst 1, 1) := by decide +kernel
theorem dX5_isFigure_40 : decode cX5_isFigure 40 = .ok (.goto 4, 3) := by decide +kernel
theorem dX5_isFigure_43 : decode cX5_isFigure 43 = .ok (.iconst 0, 1) := by decide +kernel
theorem dX5_isFigure_44 : decode cX5_isFigure 44 = .ok (.ireturn, 1) := by decide +kernel
theorem dX6_init_0 : decode cX6_init 0 = .ok (.aload_n 0, 1) := by decide +kernel
theorem dX6_init_1 : decode cX6_init 1 = .ok (.invokespecial 1, 3) := by decide +kernel
theorem dX6_init_4 : decode cX6_init 4 = .ok (.aload_n 0, 1) := by decide +kernel
theorem dX6_init_5 : decode cX6_init 5 = .ok (.new 7, 3) := by decide +kernel
theorem dX6_init_8 : decode cX6_init 8 = .ok (.dup, 1) := by decide +kernel
theorem dX6_init_9 : decode cX6_init 9 = .ok (.invokespecial 9, 3) := by decide +kernel
theorem dX6_init_12 : decode cX6_init 12 = .ok (.putfield 10, 3) := by decide +kernel
theorem dX6_init_15 : decode cX6_init 15 = .ok (.aload_n 0, 1) := by decide +kernel
theorem dX6_init_16 : decode cX6_init 16 = .ok (.new 7, 3) := by decide +kernel
theorem dX6_init_19 : decode cX6_init 19 = .ok (.dup, 1) := by decide +kernel
theorem dX6_init_20 : decode cX6_init 20 = .ok (.invokespecial 9, 3) := by decide +kernel
theorem dX6_init_23 : decode cX6_init 23 = .ok (.putfield 16, 3) := by decide +kernel
theorem dX6_init_26 : decode cX6_init 26 = .ok (.aload_n 0, 1) := by decide +kernel
theorem dX6_init_27 : decode cX6_init 27 = .ok (.iconst 0, 1) := by decide +kernel
theorem dX6_init_28 : decode cX6_init 28 = .ok (.putfield 19, 3) := by decide +kernel
theorem dX6_init_31 : decode cX6_init 31 = .ok (.aload_n 0, 1) := by decide +kernel
theorem dX6_init_32 : decode cX6_init 32 = .ok (.new 23, 3) := by decide +kernel
theorem dX6_init_35 : decode cX6_init 35 = .ok (.dup, 1) := by decide +kernel
theorem dX6_init_36 : decode cX6_init 36 = .ok (.invokespecial 25, 3) := by decide +kernel
theorem dX6_init_39 : decode cX6_init 39 = .ok (.putfield 26, 3) := by decide +kernel
theorem dX6_init_42 : decode cX6_init 42 = .ok (.aload_n 0, 1) := by decide +kernel
theorem dX6_init_43 : decode cX6_init 43 = .ok (.new 30, 3) := by decide +kernel
theorem dX6_init_46 : decode cX6_init 46 = .ok (.dup, 1) := by decide +kernel
theorem dX6_init_47 : decode cX6_init 47 = .ok (.invokespecial 32, 3) := by decide +kernel
theorem dX6_init_50 : decode cX6_init 50 = .ok (.putfield 33, 3) := by decide +kernel
theorem dX6_init_53 : decode cX6_init 53 = .ok (.aload_n 0, 1) := by decide +kernel
theorem dX6_init_54 : decode cX6_init 54 = .ok (.iconst 3, 1) := by decide +kernel
theorem dX6_init_55 : decode cX6_init 55 = .ok (.bipush 40, 2) := by decide +kernel
theorem dX6_init_57 : decode cX6_init 57 = .ok (.multianewarray 37 2, 4) := by decide +kernel
theorem dX6_init_61 : decode cX6_init 61 = .ok (.putfield 39, 3) := by decide +kernel
theorem dX6_init_64 : decode cX6_init 64 = .ok (.aload_n 0, 1) := by decide +kernel
theorem dX6_init_65 : decode cX6_init 65 = .ok (.iconst 3, 1) := by decide +kernel
theorem dX6_init_66 : decode cX6_init 66 = .ok (.newarray .int, 2) := by decide +kernel
theorem dX6_init_68 : decode cX6_init 68 = .ok (.dup, 1) := by decide +kernel
theorem dX6_init_69 : decode cX6_init 69 = .ok (.iconst 0, 1) := by decide +kernel
theorem dX6_init_70 : decode cX6_init 70 = .ok (.iconst (-1), 1) := by decide +kernel
theorem dX6_init_71 : decode cX6_init 71 = .ok (.iastore, 1) := by decide +kernel
theorem dX6_init_72 : decode cX6_init 72 = .ok (.dup, 1) := by decide +kernel
theorem dX6_init_73 : decode cX6_init 73 = .ok (.iconst 1, 1) := by decide +kernel
theorem dX6_init_74 : decode cX6_init 74 = .ok (.iconst (-1), 1) := by decide +kernel
theorem dX6_init_75 : decode cX6_init 75 = .ok (.iastore, 1) := by decide +kernel
theorem dX6_init_76 : decode cX6_init 76 = .ok (.dup, 1) := by decide +kernel
theorem dX6_init_77 : decode cX6_init 77 = .ok (.iconst 2, 1) := by decide +kernel
theorem dX6_init_78 : decode cX6_init 78 = .ok (.iconst (-1), 1) := by decide +kernel
theorem dX6_init_79 : decode cX6_init 79 = .ok (.iastore, 1) := by decide +kernel
theorem dX6_init_80 : decode cX6_init 80 = .ok (.putfield 42, 3) := by decide +kernel
theorem dX6_init_83 : decode cX6_init 83 = .ok (.aload_n 0, 1) := by decide +kernel
theorem dX6_init_84 : decode cX6_init 84 = .ok (.new 46, 3) := by decide +kernel
theorem dX6_init_87 : decode cX6_init 87 = .ok (.dup, 1) := by decide +kernel
theorem dX6_init_88 : decode cX6_init 88 = .ok (.invokespecial 48, 3) := by decide +kernel
theorem dX6_init_91 : decode cX6_init 91 = .ok (.putfield 49, 3) := by decide +kernel
theorem dX6_init_94 : decode cX6_init 94 = .ok (.aload_n 0, 1) := by decide +kernel
theorem dX6_init_95 : decode cX6_init 95 = .ok (.new 53, 3) := by decide +kernel
theorem dX6_init_98 : decode cX6_init 98 = .ok (.dup, 1) := by decide +kernel
theorem dX6_init_99 : decode cX6_init 99 = .ok (.invokespecial 55, 3) := by decide +kernel
theorem dX6_init_102 : decode cX6_init 102 = .ok (.putfield 56, 3) := by decide +kernel
theorem dX6_init_105 : decode cX6_init 105 = .ok (.return_, 1) := by decide +kernel
theorem dX6_posts_0 : decode cX6_posts 0 = .ok (.iload_n 1, 1) := by decide +kernel
theorem dX6_posts_1 : decode cX6_posts 1 = .ok (.iconst 1, 1) := by decide +kernel
theorem dX6_posts_2 : decode cX6_posts 2 = .ok (.if_icmp .lt 9, 3) := by decide +kernel
theorem dX6_posts_5 : decode cX6_posts 5 = .ok (.iload_n 1, 1) := by decide +kernel
theorem dX6_posts_6 : decode cX6_posts 6 = .ok (.bipush 8, 2) := by decide +kernel
theorem dX6_posts_8 : decode cX6_posts 8 = .ok (.if_icmp .le 6, 3) := by decide +kernel
theorem dX6_posts_11 : decode cX6_posts 11 = .ok (.bipush (-2), 2) := by decide +kernel
theorem dX6_posts_13 : decode cX6_posts 13 = .ok (.ireturn, 1) := by decide +kernel
theorem dX6_posts_14 : decode cX6_posts 14 = .ok (.aload_n 0, 1) := by decide +kernel
theorem dX6_posts_15 : decode cX6_posts 15 = .ok (.getfield 10, 3) := by decide +kernel
theorem dX6_posts_18 : decode cX6_posts 18 = .ok (.getfield 60, 3) := by decide +kernel
theorem dX6_posts_21 : decode cX6_posts 21 = .ok (.istore_n 2, 1) := by decide +kernel
theorem dX6_posts_22 : decode cX6_posts 22 = .ok (.aload_n 0, 1) := by decide +kernel
theorem dX6_posts_23 : decode cX6_posts 23 = .ok (.getfield 10, 3) := by decide +kernel
theorem dX6_posts_26 : decode cX6_posts 26 = .ok (.iload_n 1, 1) := by decide +kernel
theorem dX6_posts_27 : decode cX6_posts 27 = .ok (.invokevirtual 64, 3) := by decide +kernel
theorem dX6_posts_30 : decode cX6_posts 30 = .ok (.iload_n 2, 1) := by decide +kernel
theorem dX6_posts_31 : decode cX6_posts 31 = .ok (.ireturn, 1) := by decide +kernel
theorem dX6_road_0 : decode cX6_road 0 = .ok (.aload_n 0, 1) := by decide +kernel
theorem dX6_road_1 : decode cX6_road 1 = .ok (.getfield 10, 3) := by decide +kernel
theorem dX6_road_4 : decode cX6_road 4 = .ok (.iload_n 1, 1) := by decide +kernel
theorem dX6_road_5 : decode cX6_road 5 = .ok (.invokevirtual 68, 3) := by decide +kernel
theorem dX6_road_8 : decode cX6_road 8 = .ok (.ifCond .eq 14, 3) := by decide +kernel
theorem dX6_road_11 : decode cX6_road 11 = .ok (.aload_n 0, 1) := by decide +kernel
theorem dX6_road_12 : decode cX6_road 12 = .ok (.getfield 10, 3) := by decide +kernel
theorem dX6_road_15 : decode cX6_road 15 = .ok (.iload_n 2, 1) := by decide +kernel
theorem dX6_road_16 : decode cX6_road 16 = .ok (.invokevirtual 68, 3) := by decide +kernel
theorem dX6_road_19 : decode cX6_road 19 = .ok (.ifCond .ne 5, 3) := by decide +kernel
theorem dX6_road_22 : decode cX6_road 22 = .ok (.iconst (-1), 1) := by decide +kernel
theorem dX6_road_23 : decode cX6_road 23 = .ok (.ireturn, 1) := by decide +kernel
theorem dX6_road_24 : decode cX6_road 24 = .ok (.iload_n 3, 1) := by decide +kernel
theorem dX6_road_25 : decode cX6_road 25 = .ok (.ifCond .eq 11, 3) := by decide +kernel
theorem dX6_road_28 : decode cX6_road 28 = .ok (.iload_n 3, 1) := by decide +kernel
theorem dX6_road_29 : decode cX6_road 29 = .ok (.iconst 1, 1) := by decide +kernel
theorem dX6_road_30 : decode cX6_road 30 = .ok (.if_icmp .eq 6, 3) := by decide +kernel
theorem dX6_road_33 : decode cX6_road 33 = .ok (.bipush (-2), 2) := by decide +kernel
theorem dX6_road_35 : decode cX6_road 35 = .ok (.ireturn, 1) := by decide +kernel
theorem dX6_road_36 : decode cX6_road 36 = .ok (.iload_n 1, 1) := by decide +kernel
theorem dX6_road_37 : decode cX6_road 37 = .ok (.iload_n 2, 1) := by decide +kernel
theorem dX6_road_38 : decode cX6_road 38 = .ok (.if_icmp .ne 6, 3) := by decide +kernel
theorem dX6_road_41 : decode cX6_road 41 = .ok (.bipush (-3), 2) := by decide +kernel
theorem dX6_road_43 : decode cX6_road 43 = .ok (.ireturn, 1) := by decide +kernel
theorem dX6_road_44 : decode cX6_road 44 = .ok (.aload_n 0, 1) := by decide +kernel
theorem dX6_road_45 : decode cX6_road 45 = .ok (.getfield 10, 3) := by decide +kernel
theorem dX6_road_48 : decode cX6_road 48 = .ok (.getfield 72, 3) := by decide +kernel
theorem dX6_road_51 : decode cX6_road 51 = .ok (.iload_n 1, 1) := by decide +kernel
theorem dX6_road_52 : decode cX6_road 52 = .ok (.iaload, 1) := by decide +kernel
theorem dX6_road_53 : decode cX6_road 53 = .ok (.iload_n 2, 1) := by decide +kernel
theorem dX6_road_54 : decode cX6_road 54 = .ok (.ishr, 1) := by decide +kernel
theorem dX6_road_55 : decode cX6_road 55 = .ok (.iconst 1, 1) := by decide +kernel
theorem dX6_road_56 : decode cX6_road 56 = .ok (.iand, 1) := by decide +kernel
theorem dX6_road_57 : decode cX6_road 57 = .ok (.istore 4, 2) := by decide +kernel
theorem dX6_road_59 : decode cX6_road 59 = .ok (.aload_n 0, 1) := by decide +kernel
theorem dX6_road_60 : decode cX6_road 60 = .ok (.getfield 10, 3) := by decide +kernel
theorem dX6_road_63 : decode cX6_road 63 = .ok (.iload_n 1, 1) := by decide +kernel
theorem dX6_road_64 : decode cX6_road 64 = .ok (.iload_n 2, 1) := by decide +kernel
theorem dX6_road_65 : decode cX6_road 65 = .ok (.iload_n 3, 1) := by decide +kernel
theorem dX6_road_66 : decode cX6_road 66 = .ok (.iconst 1, 1) := by decide +kernel
theorem dX6_road_67 : decode cX6_road 67 = .ok (.if_icmp .ne 7, 3) := by decide +kernel
theorem dX6_road_70 : decode cX6_road 70 = .ok (.iconst 1, 1) := by decide +kernel
theorem dX6_road_71 : decode cX6_road 71 = .ok (.goto 4, 3) := by decide +kernel
theorem dX6_road_74 : decode cX6_road 74 = .ok (.iconst 0, 1) := by decide +kernel
theorem dX6_road_75 : decode cX6_road 75 = .ok (.invokevirtual 75, 3) := by decide +kernel
theorem dX6_road_78 : decode cX6_road 78 = .ok (.iload 4, 2) := by decide +kernel
theorem dX6_road_80 : decode cX6_road 80 = .ok (.ireturn, 1) := by decide +kernel
theorem dX6_isRoad_0 : decode cX6_isRoad 0 = .ok (.aload_n 0, 1) := by decide +kernel
theorem dX6_isRoad_1 : decode cX6_isRoad 1 = .ok (.getfield 10, 3) := by decide +kernel
theorem dX6_isRoad_4 : decode cX6_isRoad 4 = .ok (.iload_n 1, 1) := by decide +kernel
theorem dX6_isRoad_5 : decode cX6_isRoad 5 = .ok (.invokevirtual 68, 3) := by decide +kernel
theorem dX6_isRoad_8 : decode cX6_isRoad 8 = .ok (.ifCond .eq 14, 3) := by decide +kernel
theorem dX6_isRoad_11 : decode cX6_isRoad 11 = .ok (.aload_n 0, 1) := by decide +kernel
theorem dX6_isRoad_12 : decode cX6_isRoad 12 = .ok (.getfield 10, 3) := by decide +kernel
theorem dX6_isRoad_15 : decode cX6_isRoad 15 = .ok (.iload_n 2, 1) := by decide +kernel
theorem dX6_isRoad_16 : decode cX6_isRoad 16 = .ok (.invokevirtual 68, 3) := by decide +kernel
theorem dX6_isRoad_19 : decode cX6_isRoad 19 = .ok (.ifCond .ne 5, 3) := by decide +kernel
theorem dX6_isRoad_22 : decode cX6_isRoad 22 = .ok (.iconst (-1), 1) := by decide +kernel
theorem dX6_isRoad_23 : decode cX6_isRoad 23 = .ok (.ireturn, 1) := by decide +kernel
theorem dX6_isRoad_24 : decode cX6_isRoad 24 = .ok (.aload_n 0, 1) := by decide +kernel
theorem dX6_isRoad_25 : decode cX6_isRoad 25 = .ok (.getfield 10, 3) := by decide +kernel
theorem dX6_isRoad_28 : decode cX6_isRoad 28 = .ok (.getfield 72, 3) := by decide +kernel
theorem dX6_isRoad_31 : decode cX6_isRoad 31 = .ok (.iload_n 1, 1) := by decide +kernel
theorem dX6_isRoad_32 : decode cX6_isRoad 32 = .ok (.iaload, 1) := by decide +kernel
theorem dX6_isRoad_33 : decode cX6_isRoad 33 = .ok (.iload_n 2, 1) := by decide +kernel
theorem dX6_isRoad_34 : decode cX6_isRoad 34 = .ok (.ishr, 1) := by decide +kernel
theorem dX6_isRoad_35 : decode cX6_isRoad 35 = .ok (.iconst 1, 1) := by decide +kernel
theorem dX6_isRoad_36 : decode cX6_isRoad 36 = .ok (.iand, 1) := by decide +kernel
theorem dX6_isRoad_37 : decode cX6_isRoad 37 = .ok (.ireturn, 1) := by decide +kernel
theorem dX6_targets_0 : decode cX6_targets 0 = .ok (.aload_n 0, 1) := by decide +kernel
theorem dX6_targets_1 : decode cX6_targets 1 = .ok (.getfield 10, 3) := by decide +kernel
theorem dX6_targets_4 : decode cX6_targets 4 = .ok (.iload_n 1, 1) := by decide +kernel
theorem dX6_targets_5 : decode cX6_targets 5 = .ok (.invokevirtual 79, 3) := by decide +kernel
theorem dX6_targets_8 : decode cX6_targets 8 = .ok (.ifCond .ne 6, 3) := by decide +kernel
theorem dX6_targets_11 : decode cX6_targets 11 = .ok (.bipush (-2), 2) := by decide +kernel
theorem dX6_targets_13 : decode cX6_targets 13 = .ok (.ireturn, 1) := by decide +kernel
theorem dX6_targets_14 : decode cX6_targets 14 = .ok (.aload_n 0, 1) := by decide +kernel
theorem dX6_targets_15 : decode cX6_targets 15 = .ok (.getfield 10, 3) := by decide +kernel
theorem dX6_targets_18 : decode cX6_targets 18 = .ok (.getfield 82, 3) := by decide +kernel
theorem dX6_targets_21 : decode cX6_targets 21 = .ok (.istore_n 2, 1) := by decide +kernel
theorem dX6_targets_22 : decode cX6_targets 22 = .ok (.aload_n 0, 1) := by decide +kernel
theorem dX6_targets_23 : decode cX6_targets 23 = .ok (.getfield 10, 3) := by decide +kernel
theorem dX6_targets_26 : decode cX6_targets 26 = .ok (.iload_n 1, 1) := by decide +kernel
theorem dX6_targets_27 : decode cX6_targets 27 = .ok (.invokevirtual 85, 3) := by decide +kernel
theorem dX6_targets_30 : decode cX6_targets 30 = .ok (.iload_n 2, 1) := by decide +kernel
theorem dX6_targets_31 : decode cX6_targets 31 = .ok (.ireturn, 1) := by decide +kernel
theorem dX6_weigh_0 : decode cX6_weigh 0 = .ok (.aload_n 0, 1) := by decide +kernel
theorem dX6_weigh_1 : decode cX6_weigh 1 = .ok (.getfield 10, 3) := by decide +kernel
theorem dX6_weigh_4 : decode cX6_weigh 4 = .ok (.iload_n 1, 1) := by decide +kernel
theorem dX6_weigh_5 : decode cX6_weigh 5 = .ok (.invokevirtual 68, 3) := by decide +kernel
theorem dX6_weigh_8 : decode cX6_weigh 8 = .ok (.ifCond .ne 5, 3) := by decide +kernel
theorem dX6_weigh_11 : decode cX6_weigh 11 = .ok (.iconst (-1), 1) := by decide +kernel
theorem dX6_weigh_12 : decode cX6_weigh 12 = .ok (.ireturn, 1) := by decide +kernel
theorem dX6_weigh_13 : decode cX6_weigh 13 = .ok (.iload_n 2, 1) := by decide +kernel
theorem dX6_weigh_14 : decode cX6_weigh 14 = .ok (.ifCond .lt 9, 3) := by decide +kernel
theorem dX6_weigh_17 : decode cX6_weigh 17 = .ok (.iload_n 2, 1) := by decide +kernel
theorem dX6_weigh_18 : decode cX6_weigh 18 = .ok (.bipush 99, 2) := by decide +kernel
theorem dX6_weigh_20 : decode cX6_weigh 20 = .ok (.if_icmp .le 6, 3) := by decide +kernel
theorem dX6_weigh_23 : decode cX6_weigh 23 = .ok (.bipush (-2), 2) := by decide +kernel
theorem dX6_weigh_25 : decode cX6_weigh 25 = .ok (.ireturn, 1) := by decide +kernel
theorem dX6_weigh_26 : decode cX6_weigh 26 = .ok (.aload_n 0, 1) := by decide +kernel
theorem dX6_weigh_27 : decode cX6_weigh 27 = .ok (.getfield 10, 3) := by decide +kernel
theorem dX6_weigh_30 : decode cX6_weigh 30 = .ok (.getfield 88, 3) := by decide +kernel
theorem dX6_weigh_33 : decode cX6_weigh 33 = .ok (.iload_n 1, 1) := by decide +kernel
theorem dX6_weigh_34 : decode cX6_weigh 34 = .ok (.iaload, 1) := by decide +kernel
theorem dX6_weigh_35 : decode cX6_weigh 35 = .ok (.istore_n 3, 1) := by decide +kernel
theorem dX6_weigh_36 : decode cX6_weigh 36 = .ok (.aload_n 0, 1) := by decide +kernel
theorem dX6_weigh_37 : decode cX6_weigh 37 = .ok (.getfield 10, 3) := by decide +kernel
theorem dX6_weigh_40 : decode cX6_weigh 40 = .ok (.iload_n 1, 1) := by decide +kernel
theorem dX6_weigh_41 : decode cX6_weigh 41 = .ok (.iload_n 2, 1) := by decide +kernel
theorem dX6_weigh_42 : decode cX6_weigh 42 = .ok (.invokevirtual 91, 3) := by decide +kernel
theorem dX6_weigh_45 : decode cX6_weigh 45 = .ok (.iload_n 3, 1) := by decide +kernel
theorem dX6_weigh_46 : decode cX6_weigh 46 = .ok (.ireturn, 1) := by decide +kernel
theorem dX6_add_0 : decode cX6_add 0 = .ok (.aload_n 0, 1) := by decide +kernel
theorem dX6_add_1 : decode cX6_add 1 = .ok (.getfield 10, 3) := by decide +kernel
theorem dX6_add_4 : decode cX6_add 4 = .ok (.iload_n 1, 1) := by decide +kernel
theorem dX6_add_5 : decode cX6_add 5 = .ok (.invokevirtual 79, 3) := by decide +kernel
theorem dX6_add_8 : decode cX6_add 8 = .ok (.ifCond .ne 6, 3) := by decide +kernel
theorem dX6_add_11 : decode cX6_add 11 = .ok (.bipush (-2), 2) := by decide +kernel
theorem dX6_add_13 : decode cX6_add 13 = .ok (.ireturn, 1) := by decide +kernel
theorem dX6_add_14 : decode cX6_add 14 = .ok (.aload_n 0, 1) := by decide +kernel
theorem dX6_add_15 : decode cX6_add 15 = .ok (.getfield 10, 3) := by decide +kernel
theorem dX6_add_18 : decode cX6_add 18 = .ok (.getfield 95, 3) := by decide +kernel
theorem dX6_add_21 : decode cX6_add 21 = .ok (.bipush 8, 2) := by decide +kernel
theorem dX6_add_23 : decode cX6_add 23 = .ok (.if_icmp .lt 6, 3) := by decide +kernel
theorem dX6_add_26 : decode cX6_add 26 = .ok (.bipush (-4), 2) := by decide +kernel
theorem dX6_add_28 : decode cX6_add 28 = .ok (.ireturn, 1) := by decide +kernel
theorem dX6_add_29 : decode cX6_add 29 = .ok (.aload_n 0, 1) := by decide +kernel
theorem dX6_add_30 : decode cX6_add 30 = .ok (.getfield 10, 3) := by decide +kernel
theorem dX6_add_33 : decode cX6_add 33 = .ok (.iload_n 1, 1) := by decide +kernel
theorem dX6_add_34 : decode cX6_add 34 = .ok (.invokevirtual 98, 3) := by decide +kernel
theorem dX6_add_37 : decode cX6_add 37 = .ok (.aload_n 0, 1) := by decide +kernel
theorem dX6_add_38 : decode cX6_add 38 = .ok (.getfield 10, 3) := by decide +kernel
theorem dX6_add_41 : decode cX6_add 41 = .ok (.getfield 95, 3) := by decide +kernel
theorem dX6_add_44 : decode cX6_add 44 = .ok (.iconst 1, 1) := by decide +kernel
theorem dX6_add_45 : decode cX6_add 45 = .ok (.isub, 1) := by decide +kernel
theorem dX6_add_46 : decode cX6_add 46 = .ok (.ireturn, 1) := by decide +kernel
theorem dX6_change_0 : decode cX6_change 0 = .ok (.aload_n 0, 1) := by decide +kernel
theorem dX6_change_1 : decode cX6_change 1 = .ok (.getfield 10, 3) := by decide +kernel
theorem dX6_change_4 : decode cX6_change 4 = .ok (.iload_n 1, 1) := by decide +kernel
theorem dX6_change_5 : decode cX6_change 5 = .ok (.invokevirtual 101, 3) := by decide +kernel
theorem dX6_change_8 : decode cX6_change 8 = .ok (.ifCond .ne 5, 3) := by decide +kernel
theorem dX6_change_11 : decode cX6_change 11 = .ok (.iconst (-1), 1) := by decide +kernel
theorem dX6_change_12 : decode cX6_change 12 = .ok (.ireturn, 1) := by decide +kernel
theorem dX6_change_13 : decode cX6_change 13 = .ok (.aload_n 0, 1) := by decide +kernel
theorem dX6_change_14 : decode cX6_change 14 = .ok (.getfield 10, 3) := by decide +kernel
theorem dX6_change_17 : decode cX6_change 17 = .ok (.iload_n 2, 1) := by decide +kernel
theorem dX6_change_18 : decode cX6_change 18 = .ok (.invokevirtual 79, 3) := by decide +kernel
theorem dX6_change_21 : decode cX6_change 21 = .ok (.ifCond .ne 6, 3) := by decide +kernel
theorem dX6_change_24 : decode cX6_change 24 = .ok (.bipush (-2), 2) := by decide +kernel
theorem dX6_change_26 : decode cX6_change 26 = .ok (.ireturn, 1) := by decide +kernel
theorem dX6_change_27 : decode cX6_change 27 = .ok (.aload_n 0, 1) := by decide +kernel
theorem dX6_change_28 : decode cX6_change 28 = .ok (.getfield 10, 3) := by decide +kernel
theorem dX6_change_31 : decode cX6_change 31 = .ok (.getfield 104, 3) := by decide +kernel
theorem dX6_change_34 : decode cX6_change 34 = .ok (.iload_n 1, 1) := by decide +kernel
theorem dX6_change_35 : decode cX6_change 35 = .ok (.iaload, 1) := by decide +kernel
theorem dX6_change_36 : decode cX6_change 36 = .ok (.istore_n 3, 1) := by decide +kernel
theorem dX6_change_37 : decode cX6_change 37 = .ok (.aload_n 0, 1) := by decide +kernel
theorem dX6_change_38 : decode cX6_change 38 = .ok (.getfield 10, 3) := by decide +kernel
theorem dX6_change_41 : decode cX6_change 41 = .ok (.iload_n 1, 1) := by decide +kernel
theorem dX6_change_42 : decode cX6_change 42 = .ok (.iload_n 2, 1) := by decide +kernel
theorem dX6_change_43 : decode cX6_change 43 = .ok (.invokevirtual 107, 3) := by decide +kernel
theorem dX6_change_46 : decode cX6_change 46 = .ok (.iload_n 3, 1) := by decide +kernel
theorem dX6_change_47 : decode cX6_change 47 = .ok (.ireturn, 1) := by decide +kernel
theorem dX6_drop_0 : decode cX6_drop 0 = .ok (.aload_n 0, 1) := by decide +kernel
theorem dX6_drop_1 : decode cX6_drop 1 = .ok (.getfield 10, 3) := by decide +kernel
theorem dX6_drop_4 : decode cX6_drop 4 = .ok (.iload_n 1, 1) := by decide +kernel
theorem dX6_drop_5 : decode cX6_drop 5 = .ok (.invokevirtual 101, 3) := by decide +kernel
theorem dX6_drop_8 : decode cX6_drop 8 = .ok (.ifCond .ne 5, 3) := by decide +kernel
theorem dX6_drop_11 : decode cX6_drop 11 = .ok (.iconst (-1), 1) := by decide +kernel
theorem dX6_drop_12 : decode cX6_drop 12 = .ok (.ireturn, 1) := by decide +kernel
theorem dX6_drop_13 : decode cX6_drop 13 = .ok (.aload_n 0, 1) := by decide +kernel
theorem dX6_drop_14 : decode cX6_drop 14 = .ok (.getfield 10, 3) := by decide +kernel
theorem dX6_drop_17 : decode cX6_drop 17 = .ok (.iload_n 1, 1) := by decide +kernel
theorem dX6_drop_18 : decode cX6_drop 18 = .ok (.invokevirtual 110, 3) := by decide +kernel
theorem dX6_drop_21 : decode cX6_drop 21 = .ok (.aload_n 0, 1) := by decide +kernel
theorem dX6_drop_22 : decode cX6_drop 22 = .ok (.getfield 10, 3) := by decide +kernel
theorem dX6_drop_25 : decode cX6_drop 25 = .ok (.getfield 95, 3) := by decide +kernel
theorem dX6_drop_28 : decode cX6_drop 28 = .ok (.ireturn, 1) := by decide +kernel
theorem dX6_set_0 : decode cX6_set 0 = .ok (.aload_n 0, 1) := by decide +kernel
theorem dX6_set_1 : decode cX6_set 1 = .ok (.getfield 10, 3) := by decide +kernel
theorem dX6_set_4 : decode cX6_set 4 = .ok (.iload_n 1, 1) := by decide +kernel
theorem dX6_set_5 : decode cX6_set 5 = .ok (.invokevirtual 101, 3) := by decide +kernel
theorem dX6_set_8 : decode cX6_set 8 = .ok (.ifCond .ne 5, 3) := by decide +kernel
theorem dX6_set_11 : decode cX6_set 11 = .ok (.iconst (-1), 1) := by decide +kernel
theorem dX6_set_12 : decode cX6_set 12 = .ok (.ireturn, 1) := by decide +kernel
theorem dX6_set_13 : decode cX6_set 13 = .ok (.aload_n 0, 1) := by decide +kernel
theorem dX6_set_14 : decode cX6_set 14 = .ok (.getfield 10, 3) := by decide +kernel
theorem dX6_set_17 : decode cX6_set 17 = .ok (.getfield 104, 3) := by decide +kernel
theorem dX6_set_20 : decode cX6_set 20 = .ok (.iload_n 1, 1) := by decide +kernel
theorem dX6_set_21 : decode cX6_set 21 = .ok (.iaload, 1) := by decide +kernel
theorem dX6_set_22 : decode cX6_set 22 = .ok (.ireturn, 1) := by decide +kernel
theorem dX6_rank_0 : decode cX6_rank 0 = .ok (.iload_n 1, 1) := by decide +kernel
theorem dX6_rank_1 : decode cX6_rank 1 = .ok (.invokestatic 113, 3) := by decide +kernel
theorem dX6_rank_4 : decode cX6_rank 4 = .ok (.ifCond .ne 5, 3) := by decide +kernel
theorem dX6_rank_7 : decode cX6_rank 7 = .ok (.iconst (-1), 1) := by decide +kernel
theorem dX6_rank_8 : decode cX6_rank 8 = .ok (.ireturn, 1) := by decide +kernel
theorem dX6_rank_9 : decode cX6_rank 9 = .ok (.aload_n 0, 1) := by decide +kernel
theorem dX6_rank_10 : decode cX6_rank 10 = .ok (.getfield 10, 3) := by decide +kernel
theorem dX6_rank_13 : decode cX6_rank 13 = .ok (.iload_n 2, 1) := by decide +kernel
theorem dX6_rank_14 : decode cX6_rank 14 = .ok (.invokevirtual 79, 3) := by decide +kernel
theorem dX6_rank_17 : decode cX6_rank 17 = .ok (.ifCond .ne 6, 3) := by decide +kernel
theorem dX6_rank_20 : decode cX6_rank 20 = .ok (.bipush (-2), 2) := by decide +kernel
theorem dX6_rank_22 : decode cX6_rank 22 = .ok (.ireturn, 1) := by decide +kernel
theorem dX6_rank_23 : decode cX6_rank 23 = .ok (.aload_n 0, 1) := by decide +kernel
theorem dX6_rank_24 : decode cX6_rank 24 = .ok (.invokevirtual 116, 3) := by decide +kernel
theorem dX6_rank_27 : decode cX6_rank 27 = .ok (.iload_n 1, 1) := by decide +kernel
theorem dX6_rank_28 : decode cX6_rank 28 = .ok (.iload_n 2, 1) := by decide +kernel
theorem dX6_rank_29 : decode cX6_rank 29 = .ok (.invokevirtual 120, 3) := by decide +kernel
theorem dX6_rank_32 : decode cX6_rank 32 = .ok (.ireturn, 1) := by decide +kernel
theorem dX6_free_0 : decode cX6_free 0 = .ok (.iload_n 1, 1) := by decide +kernel
theorem dX6_free_1 : decode cX6_free 1 = .ok (.invokestatic 113, 3) := by decide +kernel
theorem dX6_free_4 : decode cX6_free 4 = .ok (.ifCond .ne 5, 3) := by decide +kernel
theorem dX6_free_7 : decode cX6_free 7 = .ok (.iconst (-1), 1) := by decide +kernel
theorem dX6_free_8 : decode cX6_free 8 = .ok (.ireturn, 1) := by decide +kernel
theorem dX6_free_9 : decode cX6_free 9 = .ok (.aload_n 0, 1) := by decide +kernel
theorem dX6_free_10 : decode cX6_free 10 = .ok (.getfield 10, 3) := by decide +kernel
theorem dX6_free_13 : decode cX6_free 13 = .ok (.iload_n 2, 1) := by decide +kernel
theorem dX6_free_14 : decode cX6_free 14 = .ok (.invokevirtual 79, 3) := by decide +kernel
theorem dX6_free_17 : decode cX6_free 17 = .ok (.ifCond .ne 6, 3) := by decide +kernel
theorem dX6_free_20 : decode cX6_free 20 = .ok (.bipush (-2), 2) := by decide +kernel
theorem dX6_free_22 : decode cX6_free 22 = .ok (.ireturn, 1) := by decide +kernel
theorem dX6_free_23 : decode cX6_free 23 = .ok (.aload_n 0, 1) := by decide +kernel
theorem dX6_free_24 : decode cX6_free 24 = .ok (.invokevirtual 116, 3) := by decide +kernel
theorem dX6_free_27 : decode cX6_free 27 = .ok (.iload_n 1, 1) := by decide +kernel
theorem dX6_free_28 : decode cX6_free 28 = .ok (.iload_n 2, 1) := by decide +kernel
theorem dX6_free_29 : decode cX6_free 29 = .ok (.invokevirtual 124, 3) := by decide +kernel
theorem dX6_free_32 : decode cX6_free 32 = .ok (.ifCond .eq 7, 3) := by decide +kernel
theorem dX6_free_35 : decode cX6_free 35 = .ok (.iconst 1, 1) := by decide +kernel
theorem dX6_free_36 : decode cX6_free 36 = .ok (.goto 4, 3) := by decide +kernel
theorem dX6_free_39 : decode cX6_free 39 = .ok (.iconst 0, 1) := by decide +kernel
theorem dX6_free_40 : decode cX6_free 40 = .ok (.ireturn, 1) := by decide +kernel
theorem dX6_base_0 : decode cX6_base 0 = .ok (.aload_n 0, 1) := by decide +kernel
theorem dX6_base_1 : decode cX6_base 1 = .ok (.iconst 0, 1) := by decide +kernel
theorem dX6_base_2 : decode cX6_base 2 = .ok (.iload_n 1, 1) := by decide +kernel
theorem dX6_base_3 : decode cX6_base 3 = .ok (.iload_n 2, 1) := by decide +kernel
theorem dX6_base_4 : decode cX6_base 4 = .ok (.invokevirtual 128, 3) := by decide +kernel
theorem dX6_base_7 : decode cX6_base 7 = .ok (.ireturn, 1) := by decide +kernel
theorem dX6_circuit_0 : decode cX6_circuit 0 = .ok (.aload_n 0, 1) := by decide +kernel
theorem dX6_circuit_1 : decode cX6_circuit 1 = .ok (.iconst 1, 1) := by decide +kernel
theorem dX6_circuit_2 : decode cX6_circuit 2 = .ok (.iload_n 1, 1) := by decide +kernel
theorem dX6_circuit_3 : decode cX6_circuit 3 = .ok (.iload_n 2, 1) := by decide +kernel
theorem dX6_circuit_4 : decode cX6_circuit 4 = .ok (.invokevirtual 128, 3) := by decide +kernel
theorem dX6_circuit_7 : decode cX6_circuit 7 = .ok (.ireturn, 1) := by decide +kernel
theorem dX6_flat_0 : decode cX6_flat 0 = .ok (.aload_n 0, 1) := by decide +kernel
theorem dX6_flat_1 : decode cX6_flat 1 = .ok (.iconst 2, 1) := by decide +kernel
theorem dX6_flat_2 : decode cX6_flat 2 = .ok (.iload_n 1, 1) := by decide +kernel
theorem dX6_flat_3 : decode cX6_flat 3 = .ok (.iload_n 2, 1) := by decide +kernel
theorem dX6_flat_4 : decode cX6_flat 4 = .ok (.invokevirtual 128, 3) := by decide +kernel
theorem dX6_flat_7 : decode cX6_flat 7 = .ok (.ireturn, 1) := by decide +kernel
theorem dX6_shut_0 : decode cX6_shut 0 = .ok (.iload_n 1, 1) := by decide +kernel
theorem dX6_shut_1 : decode cX6_shut 1 = .ok (.invokestatic 113, 3) := by decide +kernel
theorem dX6_shut_4 : decode cX6_shut 4 = .ok (.ifCond .ne 5, 3) := by decide +kernel
theorem dX6_shut_7 : decode cX6_shut 7 = .ok (.iconst (-1), 1) := by decide +kernel
theorem dX6_shut_8 : decode cX6_shut 8 = .ok (.ireturn, 1) := by decide +kernel
theorem dX6_shut_9 : decode cX6_shut 9 = .ok (.aload_n 0, 1) := by decide +kernel
theorem dX6_shut_10 : decode cX6_shut 10 = .ok (.getfield 10, 3) := by decide +kernel
theorem dX6_shut_13 : decode cX6_shut 13 = .ok (.iload_n 2, 1) := by decide +kernel
theorem dX6_shut_14 : decode cX6_shut 14 = .ok (.invokevirtual 79, 3) := by decide +kernel
theorem dX6_shut_17 : decode cX6_shut 17 = .ok (.ifCond .ne 6, 3) := by decide +kernel
theorem dX6_shut_20 : decode cX6_shut 20 = .ok (.bipush (-2), 2) := by decide +kernel
theorem dX6_shut_22 : decode cX6_shut 22 = .ok (.ireturn, 1) := by decide +kernel
theorem dX6_shut_23 : decode cX6_shut 23 = .ok (.aload_n 0, 1) := by decide +kernel
theorem dX6_shut_24 : decode cX6_shut 24 = .ok (.invokevirtual 116, 3) := by decide +kernel
theorem dX6_shut_27 : decode cX6_shut 27 = .ok (.iload_n 1, 1) := by decide +kernel
theorem dX6_shut_28 : decode cX6_shut 28 = .ok (.iload_n 2, 1) := by decide +kernel
theorem dX6_shut_29 : decode cX6_shut 29 = .ok (.invokevirtual 132, 3) := by decide +kernel
theorem dX6_shut_32 : decode cX6_shut 32 = .ok (.ireturn, 1) := by decide +kernel
theorem dX6_loops_0 : decode cX6_loops 0 = .ok (.iload_n 1, 1) := by decide +kernel
theorem dX6_loops_1 : decode cX6_loops 1 = .ok (.invokestatic 113, 3) := by decide +kernel
theorem dX6_loops_4 : decode cX6_loops 4 = .ok (.ifCond .eq 10, 3) := by decide +kernel
theorem dX6_loops_7 : decode cX6_loops 7 = .ok (.iload_n 2, 1) := by decide +kernel
theorem dX6_loops_8 : decode cX6_loops 8 = .ok (.invokestatic 135, 3) := by decide +kernel
theorem dX6_loops_11 : decode cX6_loops 11 = .ok (.ifCond .ne 5, 3) := by decide +kernel
theorem dX6_loops_14 : decode cX6_loops 14 = .ok (.iconst (-1), 1) := by decide +kernel
theorem dX6_loops_15 : decode cX6_loops 15 = .ok (.ireturn, 1) := by decide +kernel
theorem dX6_loops_16 : decode cX6_loops 16 = .ok (.aload_n 0, 1) := by decide +kernel
theorem dX6_loops_17 : decode cX6_loops 17 = .ok (.invokevirtual 116, 3) := by decide +kernel
theorem dX6_loops_20 : decode cX6_loops 20 = .ok (.astore_n 3, 1) := by decide +kernel
theorem dX6_loops_21 : decode cX6_loops 21 = .ok (.iload_n 2, 1) := by decide +kernel
theorem dX6_loops_22 : decode cX6_loops 22 = .ok (.ifCond .ne 12, 3) := by decide +kernel
theorem dX6_loops_25 : decode cX6_loops 25 = .ok (.aload_n 3, 1) := by decide +kernel
theorem dX6_loops_26 : decode cX6_loops 26 = .ok (.iload_n 1, 1) := by decide +kernel
theorem dX6_loops_27 : decode cX6_loops 27 = .ok (.iconst 0, 1) := by decide +kernel
theorem dX6_loops_28 : decode cX6_loops 28 = .ok (.invokevirtual 132, 3) := by decide +kernel
theorem dX6_loops_31 : decode cX6_loops 31 = .ok (.goto 8, 3) := by decide +kernel
theorem dX6_loops_34 : decode cX6_loops 34 = .ok (.aload_n 3, 1) := by decide +kernel
theorem dX6_loops_35 : decode cX6_loops 35 = .ok (.iload_n 1, 1) := by decide +kernel
theorem dX6_loops_36 : decode cX6_loops 36 = .ok (.invokevirtual 138, 3) := by decide +kernel
theorem dX6_loops_39 : decode cX6_loops 39 = .ok (.ireturn, 1) := by decide +kernel
theorem dX6_round_0 : decode cX6_round 0 = .ok (.iload_n 1, 1) := by decide +kernel
theorem dX6_round_1 : decode cX6_round 1 = .ok (.invokestatic 113, 3) := by decide +kernel
theorem dX6_round_4 : decode cX6_round 4 = .ok (.ifCond .eq 14, 3) := by decide +kernel
theorem dX6_round_7 : decode cX6_round 7 = .ok (.aload_n 0, 1) := by decide +kernel
theorem dX6_round_8 : decode cX6_round 8 = .ok (.getfield 10, 3) := by decide +kernel
theorem dX6_round_11 : decode cX6_round 11 = .ok (.iload_n 3, 1) := by decide +kernel
theorem dX6_round_12 : decode cX6_round 12 = .ok (.invokevirtual 68, 3) := by decide +kernel
theorem dX6_round_15 : decode cX6_round 15 = .ok (.ifCond .ne 5, 3) := by decide +kernel
theorem dX6_round_18 : decode cX6_round 18 = .ok (.iconst (-1), 1) := by decide +kernel
theorem dX6_round_19 : decode cX6_round 19 = .ok (.ireturn, 1) := by decide +kernel
theorem dX6_round_20 : decode cX6_round 20 = .ok (.aload_n 0, 1) := by decide +kernel
theorem dX6_round_21 : decode cX6_round 21 = .ok (.getfield 10, 3) := by decide +kernel
theorem dX6_round_24 : decode cX6_round 24 = .ok (.iload_n 2, 1) := by decide +kernel
theorem dX6_round_25 : decode cX6_round 25 = .ok (.invokevirtual 79, 3) := by decide +kernel
theorem dX6_round_28 : decode cX6_round 28 = .ok (.ifCond .ne 6, 3) := by decide +kernel
theorem dX6_round_31 : decode cX6_round 31 = .ok (.bipush (-2), 2) := by decide +kernel
theorem dX6_round_33 : decode cX6_round 33 = .ok (.ireturn, 1) := by decide +kernel
theorem dX6_round_34 : decode cX6_round 34 = .ok (.aload_n 0, 1) := by decide +kernel
theorem dX6_round_35 : decode cX6_round 35 = .ok (.invokevirtual 116, 3) := by decide +kernel
theorem dX6_round_38 : decode cX6_round 38 = .ok (.astore 4, 2) := by decide +kernel
theorem dX6_round_40 : decode cX6_round 40 = .ok (.aload 4, 2) := by decide +kernel
theorem dX6_round_42 : decode cX6_round 42 = .ok (.iload_n 1, 1) := by decide +kernel
theorem dX6_round_43 : decode cX6_round 43 = .ok (.iload_n 2, 1) := by decide +kernel
theorem dX6_round_44 : decode cX6_round 44 = .ok (.invokevirtual 142, 3) := by decide +kernel
theorem dX6_round_47 : decode cX6_round 47 = .ok (.ifCond .eq 11, 3) := by decide +kernel
theorem dX6_round_50 : decode cX6_round 50 = .ok (.iload_n 2, 1) := by decide +kernel
theorem dX6_round_51 : decode cX6_round 51 = .ok (.iload_n 3, 1) := by decide +kernel
theorem dX6_round_52 : decode cX6_round 52 = .ok (.invokestatic 145, 3) := by decide +kernel
theorem dX6_round_55 : decode cX6_round 55 = .ok (.ifCond .eq 6, 3) := by decide +kernel
theorem dX6_round_58 : decode cX6_round 58 = .ok (.bipush (-5), 2) := by decide +kernel
theorem dX6_round_60 : decode cX6_round 60 = .ok (.ireturn, 1) := by decide +kernel
theorem dX6_round_61 : decode cX6_round 61 = .ok (.aload 4, 2) := by decide +kernel
theorem dX6_round_63 : decode cX6_round 63 = .ok (.iload_n 1, 1) := by decide +kernel
theorem dX6_round_64 : decode cX6_round 64 = .ok (.iload_n 2, 1) := by decide +kernel
theorem dX6_round_65 : decode cX6_round 65 = .ok (.iconst 1, 1) := by decide +kernel
theorem dX6_round_66 : decode cX6_round 66 = .ok (.iload_n 3, 1) := by decide +kernel
theorem dX6_round_67 : decode cX6_round 67 = .ok (.ishl, 1) := by decide +kernel
theorem dX6_round_68 : decode cX6_round 68 = .ok (.ior, 1) := by decide +kernel
theorem dX6_round_69 : decode cX6_round 69 = .ok (.invokevirtual 148, 3) := by decide +kernel
theorem dX6_round_72 : decode cX6_round 72 = .ok (.ireturn, 1) := by decide +kernel
theorem dX6_swap_0 : decode cX6_swap 0 = .ok (.iload_n 1, 1) := by decide +kernel
theorem dX6_swap_1 : decode cX6_swap 1 = .ok (.invokestatic 113, 3) := by decide +kernel
theorem dX6_swap_4 : decode cX6_swap 4 = .ok (.ifCond .eq 15, 3) := by decide +kernel
theorem dX6_swap_7 : decode cX6_swap 7 = .ok (.aload_n 0, 1) := by decide +kernel
theorem dX6_swap_8 : decode cX6_swap 8 = .ok (.getfield 10, 3) := by decide +kernel
theorem dX6_swap_11 : decode cX6_swap 11 = .ok (.iload 4, 2) := by decide +kernel
theorem dX6_swap_13 : decode cX6_swap 13 = .ok (.invokevirtual 68, 3) := by decide +kernel
theorem dX6_swap_16 : decode cX6_swap 16 = .ok (.ifCond .ne 5, 3) := by decide +kernel
theorem dX6_swap_19 : decode cX6_swap 19 = .ok (.iconst (-1), 1) := by decide +kernel
theorem dX6_swap_20 : decode cX6_swap 20 = .ok (.ireturn, 1) := by decide +kernel
theorem dX6_swap_21 : decode cX6_swap 21 = .ok (.aload_n 0, 1) := by decide +kernel
theorem dX6_swap_22 : decode cX6_swap 22 = .ok (.getfield 10, 3) := by decide +kernel
theorem dX6_swap_25 : decode cX6_swap 25 = .ok (.iload_n 2, 1) := by decide +kernel
theorem dX6_swap_26 : decode cX6_swap 26 = .ok (.invokevirtual 79, 3) := by decide +kernel
theorem dX6_swap_29 : decode cX6_swap 29 = .ok (.ifCond .eq 14, 3) := by decide +kernel
theorem dX6_swap_32 : decode cX6_swap 32 = .ok (.aload_n 0, 1) := by decide +kernel
theorem dX6_swap_33 : decode cX6_swap 33 = .ok (.getfield 10, 3) := by decide +kernel
theorem dX6_swap_36 : decode cX6_swap 36 = .ok (.iload_n 3, 1) := by decide +kernel
theorem dX6_swap_37 : decode cX6_swap 37 = .ok (.invokevirtual 79, 3) := by decide +kernel
theorem dX6_swap_40 : decode cX6_swap 40 = .ok (.ifCond .ne 6, 3) := by decide +kernel
theorem dX6_swap_43 : decode cX6_swap 43 = .ok (.bipush (-2), 2) := by decide +kernel
theorem dX6_swap_45 : decode cX6_swap 45 = .ok (.ireturn, 1) := by decide +kernel
theorem dX6_swap_46 : decode cX6_swap 46 = .ok (.aload_n 0, 1) := by decide +kernel
theorem dX6_swap_47 : decode cX6_swap 47 = .ok (.invokevirtual 116, 3) := by decide +kernel
theorem dX6_swap_50 : decode cX6_swap 50 = .ok (.astore 5, 2) := by decide +kernel
theorem dX6_swap_52 : decode cX6_swap 52 = .ok (.aload 5, 2) := by decide +kernel
theorem dX6_swap_54 : decode cX6_swap 54 = .ok (.iload_n 1, 1) := by decide +kernel
theorem dX6_swap_55 : decode cX6_swap 55 = .ok (.iload_n 2, 1) := by decide +kernel
theorem dX6_swap_56 : decode cX6_swap 56 = .ok (.invokevirtual 142, 3) := by decide +kernel
theorem dX6_swap_59 : decode cX6_swap 59 = .ok (.ifCond .eq 13, 3) := by decide +kernel
theorem dX6_swap_62 : decode cX6_swap 62 = .ok (.aload 5, 2) := by decide +kernel
theorem dX6_swap_64 : decode cX6_swap 64 = .ok (.iload_n 1, 1) := by decide +kernel
theorem dX6_swap_65 : decode cX6_swap 65 = .ok (.iload_n 3, 1) := by decide +kernel
theorem dX6_swap_66 : decode cX6_swap 66 = .ok (.invokevirtual 142, 3) := by decide +kernel
theorem dX6_swap_69 : decode cX6_swap 69 = .ok (.ifCond .ne 6, 3) := by decide +kernel
theorem dX6_swap_72 : decode cX6_swap 72 = .ok (.bipush (-5), 2) := by decide +kernel
theorem dX6_swap_74 : decode cX6_swap 74 = .ok (.ireturn, 1) := by decide +kernel
theorem dX6_swap_75 : decode cX6_swap 75 = .ok (.iload_n 2, 1) := by decide +kernel
theorem dX6_swap_76 : decode cX6_swap 76 = .ok (.iload 4, 2) := by decide +kernel
theorem dX6_swap_78 : decode cX6_swap 78 = .ok (.invokestatic 145, 3) := by decide +kernel
theorem dX6_swap_81 : decode cX6_swap 81 = .ok (.ifCond .eq 12, 3) := by decide +kernel
theorem dX6_swap_84 : decode cX6_swap 84 = .ok (.iload_n 3, 1) := by decide +kernel
theorem dX6_swap_85 : decode cX6_swap 85 = .ok (.iload 4, 2) := by decide +kernel
theorem dX6_swap_87 : decode cX6_swap 87 = .ok (.invokestatic 145, 3) := by decide +kernel
theorem dX6_swap_90 : decode cX6_swap 90 = .ok (.ifCond .eq 6, 3) := by decide +kernel
theorem dX6_swap_93 : decode cX6_swap 93 = .ok (.bipush (-5), 2) := by decide +kernel
theorem dX6_swap_95 : decode cX6_swap 95 = .ok (.ireturn, 1) := by decide +kernel
theorem dX6_swap_96 : decode cX6_swap 96 = .ok (.aload 5, 2) := by decide +kernel
theorem dX6_swap_98 : decode cX6_swap 98 = .ok (.iload_n 1, 1) := by decide +kernel
theorem dX6_swap_99 : decode cX6_swap 99 = .ok (.iload_n 2, 1) := by decide +kernel
theorem dX6_swap_100 : decode cX6_swap 100 = .ok (.iconst 1, 1) := by decide +kernel
theorem dX6_swap_101 : decode cX6_swap 101 = .ok (.iload 4, 2) := by decide +kernel
theorem dX6_swap_103 : decode cX6_swap 103 = .ok (.ishl, 1) := by decide +kernel
theorem dX6_swap_104 : decode cX6_swap 104 = .ok (.iconst (-1), 1) := by decide +kernel
theorem dX6_swap_105 : decode cX6_swap 105 = .ok (.ixor, 1) := by decide +kernel
theorem dX6_swap_106 : decode cX6_swap 106 = .ok (.iand, 1) := by decide +kernel
theorem dX6_swap_107 : decode cX6_swap 107 = .ok (.iload_n 3, 1) := by decide +kernel
theorem dX6_swap_108 : decode cX6_swap 108 = .ok (.iload_n 2, 1) := by decide +kernel
theorem dX6_swap_109 : decode cX6_swap 109 = .ok (.iconst (-1), 1) := by decide +kernel
theorem dX6_swap_110 : decode cX6_swap 110 = .ok (.ixor, 1) := by decide +kernel
theorem dX6_swap_111 : decode cX6_swap 111 = .ok (.iand, 1) := by decide +kernel
theorem dX6_swap_112 : decode cX6_swap 112 = .ok (.invokevirtual 151, 3) := by decide +kernel
theorem dX6_swap_115 : decode cX6_swap 115 = .ok (.ireturn, 1) := by decide +kernel
theorem dX6_steps_0 : decode cX6_steps 0 = .ok (.iload_n 1, 1) := by decide +kernel
theorem dX6_steps_1 : decode cX6_steps 1 = .ok (.invokestatic 113, 3) := by decide +kernel
theorem dX6_steps_4 : decode cX6_steps 4 = .ok (.ifCond .ne 5, 3) := by decide +kernel
theorem dX6_steps_7 : decode cX6_steps 7 = .ok (.iconst (-1), 1) := by decide +kernel
theorem dX6_steps_8 : decode cX6_steps 8 = .ok (.ireturn, 1) := by decide +kernel
theorem dX6_steps_9 : decode cX6_steps 9 = .ok (.aload_n 0, 1) := by decide +kernel
theorem dX6_steps_10 : decode cX6_steps 10 = .ok (.invokevirtual 116, 3) := by decide +kernel
theorem dX6_steps_13 : decode cX6_steps 13 = .ok (.astore_n 2, 1) := by decide +kernel
theorem dX6_steps_14 : decode cX6_steps 14 = .ok (.aload_n 0, 1) := by decide +kernel
theorem dX6_steps_15 : decode cX6_steps 15 = .ok (.getfield 10, 3) := by decide +kernel
theorem dX6_steps_18 : decode cX6_steps 18 = .ok (.invokevirtual 154, 3) := by decide +kernel
theorem dX6_steps_21 : decode cX6_steps 21 = .ok (.istore_n 3, 1) := by decide +kernel
theorem dX6_steps_22 : decode cX6_steps 22 = .ok (.iconst 0, 1) := by decide +kernel
theorem dX6_steps_23 : decode cX6_steps 23 = .ok (.istore 4, 2) := by decide +kernel
theorem dX6_steps_25 : decode cX6_steps 25 = .ok (.iconst 0, 1) := by decide +kernel
theorem dX6_steps_26 : decode cX6_steps 26 = .ok (.istore 5, 2) := by decide +kernel
theorem dX6_steps_28 : decode cX6_steps 28 = .ok (.iload 5, 2) := by decide +kernel
theorem dX6_steps_30 : decode cX6_steps 30 = .ok (.iload_n 3, 1) := by decide +kernel
theorem dX6_steps_31 : decode cX6_steps 31 = .ok (.if_icmp .gt 31, 3) := by decide +kernel
theorem dX6_steps_34 : decode cX6_steps 34 = .ok (.aload_n 2, 1) := by decide +kernel
theorem dX6_steps_35 : decode cX6_steps 35 = .ok (.iload_n 1, 1) := by decide +kernel
theorem dX6_steps_36 : decode cX6_steps 36 = .ok (.iload 5, 2) := by decide +kernel
theorem dX6_steps_38 : decode cX6_steps 38 = .ok (.invokevirtual 142, 3) := by decide +kernel
theorem dX6_steps_41 : decode cX6_steps 41 = .ok (.ifCond .eq 15, 3) := by decide +kernel
theorem dX6_steps_44 : decode cX6_steps 44 = .ok (.iload 4, 2) := by decide +kernel
theorem dX6_steps_46 : decode cX6_steps 46 = .ok (.aload_n 2, 1) := by decide +kernel
theorem dX6_steps_47 : decode cX6_steps 47 = .ok (.iload_n 1, 1) := by decide +kernel
theorem dX6_steps_48 : decode cX6_steps 48 = .ok (.iload 5, 2) := by decide +kernel
theorem dX6_steps_50 : decode cX6_steps 50 = .ok (.invokevirtual 158, 3) := by decide +kernel
theorem dX6_steps_53 : decode cX6_steps 53 = .ok (.iadd, 1) := by decide +kernel
theorem dX6_steps_54 : decode cX6_steps 54 = .ok (.istore 4, 2) := by decide +kernel
theorem dX6_steps_56 : decode cX6_steps 56 = .ok (.iinc 5 1, 3) := by decide +kernel
theorem dX6_steps_59 : decode cX6_steps 59 = .ok (.goto (-31), 3) := by decide +kernel
theorem dX6_steps_62 : decode cX6_steps 62 = .ok (.iload 4, 2) := by decide +kernel
theorem dX6_steps_64 : decode cX6_steps 64 = .ok (.ireturn, 1) := by decide +kernel
theorem dX6_less_0 : decode cX6_less 0 = .ok (.iload_n 1, 1) := by decide +kernel
theorem dX6_less_1 : decode cX6_less 1 = .ok (.invokestatic 113, 3) := by decide +kernel
theorem dX6_less_4 : decode cX6_less 4 = .ok (.ifCond .ne 5, 3) := by decide +kernel
theorem dX6_less_7 : decode cX6_less 7 = .ok (.iconst (-1), 1) := by decide +kernel
theorem dX6_less_8 : decode cX6_less 8 = .ok (.ireturn, 1) := by decide +kernel
theorem dX6_less_9 : decode cX6_less 9 = .ok (.aload_n 0, 1) := by decide +kernel
theorem dX6_less_10 : decode cX6_less 10 = .ok (.getfield 10, 3) := by decide +kernel
theorem dX6_less_13 : decode cX6_less 13 = .ok (.iload_n 2, 1) := by decide +kernel
theorem dX6_less_14 : decode cX6_less 14 = .ok (.invokevirtual 79, 3) := by decide +kernel
theorem dX6_less_17 : decode cX6_less 17 = .ok (.ifCond .eq 26, 3) := by decide +kernel
theorem dX6_less_20 : decode cX6_less 20 = .ok (.aload_n 0, 1) := by decide +kernel
theorem dX6_less_21 : decode cX6_less 21 = .ok (.getfield 10, 3) := by decide +kernel
theorem dX6_less_24 : decode cX6_less 24 = .ok (.iload_n 3, 1) := by decide +kernel
theorem dX6_less_25 : decode cX6_less 25 = .ok (.invokevirtual 79, 3) := by decide +kernel
theorem dX6_less_28 : decode cX6_less 28 = .ok (.ifCond .eq 15, 3) := by decide +kernel
theorem dX6_less_31 : decode cX6_less 31 = .ok (.aload_n 0, 1) := by decide +kernel
theorem dX6_less_32 : decode cX6_less 32 = .ok (.getfield 10, 3) := by decide +kernel
theorem dX6_less_35 : decode cX6_less 35 = .ok (.iload 4, 2) := by decide +kernel
theorem dX6_less_37 : decode cX6_less 37 = .ok (.invokevirtual 79, 3) := by decide +kernel
theorem dX6_less_40 : decode cX6_less 40 = .ok (.ifCond .ne 6, 3) := by decide +kernel
theorem dX6_less_43 : decode cX6_less 43 = .ok (.bipush (-2), 2) := by decide +kernel
theorem dX6_less_45 : decode cX6_less 45 = .ok (.ireturn, 1) := by decide +kernel
theorem dX6_less_46 : decode cX6_less 46 = .ok (.iload_n 2, 1) := by decide +kernel
theorem dX6_less_47 : decode cX6_less 47 = .ok (.iload_n 3, 1) := by decide +kernel
theorem dX6_less_48 : decode cX6_less 48 = .ok (.iand, 1) := by decide +kernel
theorem dX6_less_49 : decode cX6_less 49 = .ok (.ifCond .ne 17, 3) := by decide +kernel
theorem dX6_less_52 : decode cX6_less 52 = .ok (.iload_n 2, 1) := by decide +kernel
theorem dX6_less_53 : decode cX6_less 53 = .ok (.iload 4, 2) := by decide +kernel
theorem dX6_less_55 : decode cX6_less 55 = .ok (.iand, 1) := by decide +kernel
theorem dX6_less_56 : decode cX6_less 56 = .ok (.ifCond .ne 10, 3) := by decide +kernel
theorem dX6_less_59 : decode cX6_less 59 = .ok (.iload_n 3, 1) := by decide +kernel
theorem dX6_less_60 : decode cX6_less 60 = .ok (.iload 4, 2) := by decide +kernel
theorem dX6_less_62 : decode cX6_less 62 = .ok (.iand, 1) := by decide +kernel
theorem dX6_less_63 : decode cX6_less 63 = .ok (.ifCond .eq 6, 3) := by decide +kernel
theorem dX6_less_66 : decode cX6_less 66 = .ok (.bipush (-2), 2) := by decide +kernel
theorem dX6_less_68 : decode cX6_less 68 = .ok (.ireturn, 1) := by decide +kernel
theorem dX6_less_69 : decode cX6_less 69 = .ok (.aload_n 0, 1) := by decide +kernel
theorem dX6_less_70 : decode cX6_less 70 = .ok (.invokevirtual 116, 3) := by decide +kernel
theorem dX6_less_73 : decode cX6_less 73 = .ok (.astore 5, 2) := by decide +kernel
theorem dX6_less_75 : decode cX6_less 75 = .ok (.aload 5, 2) := by decide +kernel
theorem dX6_less_77 : decode cX6_less 77 = .ok (.iload_n 1, 1) := by decide +kernel
theorem dX6_less_78 : decode cX6_less 78 = .ok (.iload 4, 2) := by decide +kernel
theorem dX6_less_80 : decode cX6_less 80 = .ok (.iload_n 3, 1) := by decide +kernel
theorem dX6_less_81 : decode cX6_less 81 = .ok (.ior, 1) := by decide +kernel
theorem dX6_less_82 : decode cX6_less 82 = .ok (.invokevirtual 120, 3) := by decide +kernel
theorem dX6_less_85 : decode cX6_less 85 = .ok (.aload 5, 2) := by decide +kernel
theorem dX6_less_87 : decode cX6_less 87 = .ok (.iload_n 1, 1) := by decide +kernel
theorem dX6_less_88 : decode cX6_less 88 = .ok (.iload_n 3, 1) := by decide +kernel
theorem dX6_less_89 : decode cX6_less 89 = .ok (.invokevirtual 120, 3) := by decide +kernel
theorem dX6_less_92 : decode cX6_less 92 = .ok (.isub, 1) := by decide +kernel
theorem dX6_less_93 : decode cX6_less 93 = .ok (.ireturn, 1) := by decide +kernel
theorem dX6_heaviest_0 : decode cX6_heaviest 0 = .ok (.iload_n 1, 1) := by decide +kernel
theorem dX6_heaviest_1 : decode cX6_heaviest 1 = .ok (.invokestatic 113, 3) := by decide +kernel
theorem dX6_heaviest_4 : decode cX6_heaviest 4 = .ok (.ifCond .eq 10, 3) := by decide +kernel
theorem dX6_heaviest_7 : decode cX6_heaviest 7 = .ok (.iload_n 2, 1) := by decide +kernel
theorem dX6_heaviest_8 : decode cX6_heaviest 8 = .ok (.invokestatic 135, 3) := by decide +kernel
theorem dX6_heaviest_11 : decode cX6_heaviest 11 = .ok (.ifCond .ne 5, 3) := by decide +kernel
theorem dX6_heaviest_14 : decode cX6_heaviest 14 = .ok (.iconst (-1), 1) := by decide +kernel
theorem dX6_heaviest_15 : decode cX6_heaviest 15 = .ok (.ireturn, 1) := by decide +kernel
theorem dX6_heaviest_16 : decode cX6_heaviest 16 = .ok (.aload_n 0, 1) := by decide +kernel
theorem dX6_heaviest_17 : decode cX6_heaviest 17 = .ok (.invokevirtual 116, 3) := by decide +kernel
theorem dX6_heaviest_20 : decode cX6_heaviest 20 = .ok (.astore_n 3, 1) := by decide +kernel
theorem dX6_heaviest_21 : decode cX6_heaviest 21 = .ok (.aload_n 0, 1) := by decide +kernel
theorem dX6_heaviest_22 : decode cX6_heaviest 22 = .ok (.getfield 10, 3) := by decide +kernel
theorem dX6_heaviest_25 : decode cX6_heaviest 25 = .ok (.invokevirtual 154, 3) := by decide +kernel
theorem dX6_heaviest_28 : decode cX6_heaviest 28 = .ok (.istore 4, 2) := by decide +kernel
theorem dX6_heaviest_30 : decode cX6_heaviest 30 = .ok (.iconst 0, 1) := by decide +kernel
theorem dX6_heaviest_31 : decode cX6_heaviest 31 = .ok (.istore 5, 2) := by decide +kernel
theorem dX6_heaviest_33 : decode cX6_heaviest 33 = .ok (.iconst (-1), 1) := by decide +kernel
theorem dX6_heaviest_34 : decode cX6_heaviest 34 = .ok (.istore 6, 2) := by decide +kernel
theorem dX6_heaviest_36 : decode cX6_heaviest 36 = .ok (.iconst 0, 1) := by decide +kernel
theorem dX6_heaviest_37 : decode cX6_heaviest 37 = .ok (.istore 7, 2) := by decide +kernel
theorem dX6_heaviest_39 : decode cX6_heaviest 39 = .ok (.iload 7, 2) := by decide +kernel
theorem dX6_heaviest_41 : decode cX6_heaviest 41 = .ok (.iload 4, 2) := by decide +kernel
theorem dX6_heaviest_43 : decode cX6_heaviest 43 = .ok (.if_icmp .gt 48, 3) := by decide +kernel
theorem dX6_heaviest_46 : decode cX6_heaviest 46 = .ok (.aload_n 3, 1) := by decide +kernel
theorem dX6_heaviest_47 : decode cX6_heaviest 47 = .ok (.iload_n 1, 1) := by decide +kernel
theorem dX6_heaviest_48 : decode cX6_heaviest 48 = .ok (.iload 7, 2) := by decide +kernel
theorem dX6_heaviest_50 : decode cX6_heaviest 50 = .ok (.invokevirtual 142, 3) := by decide +kernel
theorem dX6_heaviest_53 : decode cX6_heaviest 53 = .ok (.ifCond .eq 32, 3) := by decide +kernel
theorem dX6_heaviest_56 : decode cX6_heaviest 56 = .ok (.aload_n 0, 1) := by decide +kernel
theorem dX6_heaviest_57 : decode cX6_heaviest 57 = .ok (.getfield 10, 3) := by decide +kernel
theorem dX6_heaviest_60 : decode cX6_heaviest 60 = .ok (.iload 7, 2) := by decide +kernel
theorem dX6_heaviest_62 : decode cX6_heaviest 62 = .ok (.invokevirtual 161, 3) := by decide +kernel
theorem dX6_heaviest_65 : decode cX6_heaviest 65 = .ok (.iload 6, 2) := by decide +kernel
theorem dX6_heaviest_67 : decode cX6_heaviest 67 = .ok (.if_icmp .le 18, 3) := by decide +kernel
theorem dX6_heaviest_70 : decode cX6_heaviest 70 = .ok (.iload 7, 2) := by decide +kernel
theorem dX6_heaviest_72 : decode cX6_heaviest 72 = .ok (.istore 5, 2) := by decide +kernel
theorem dX6_heaviest_74 : decode cX6_heaviest 74 = .ok (.aload_n 0, 1) := by decide +kernel
theorem dX6_heaviest_75 : decode cX6_heaviest 75 = .ok (.getfield 10, 3) := by decide +kernel
theorem dX6_heaviest_78 : decode cX6_heaviest 78 = .ok (.iload 7, 2) := by decide +kernel
theorem dX6_heaviest_80 : decode cX6_heaviest 80 = .ok (.invokevirtual 161, 3) := by decide +kernel
theorem dX6_heaviest_83 : decode cX6_heaviest 83 = .ok (.istore 6, 2) := by decide +kernel
theorem dX6_heaviest_85 : decode cX6_heaviest 85 = .ok (.iinc 7 1, 3) := by decide +kernel
theorem dX6_heaviest_88 : decode cX6_heaviest 88 = .ok (.goto (-49), 3) := by decide +kernel
theorem dX6_heaviest_91 : decode cX6_heaviest 91 = .ok (.iload_n 2, 1) := by decide +kernel
theorem dX6_heaviest_92 : decode cX6_heaviest 92 = .ok (.ifCond .ne 8, 3) := by decide +kernel
theorem dX6_heaviest_95 : decode cX6_heaviest 95 = .ok (.iload 5, 2) := by decide +kernel
theorem dX6_heaviest_97 : decode cX6_heaviest 97 = .ok (.goto 5, 3) := by decide +kernel
theorem dX6_heaviest_100 : decode cX6_heaviest 100 = .ok (.iload 6, 2) := by decide +kernel
theorem dX6_heaviest_102 : decode cX6_heaviest 102 = .ok (.ireturn, 1) := by decide +kernel
theorem dX6_alike_0 : decode cX6_alike 0 = .ok (.iload_n 1, 1) := by decide +kernel
theorem dX6_alike_1 : decode cX6_alike 1 = .ok (.invokestatic 113, 3) := by decide +kernel
theorem dX6_alike_4 : decode cX6_alike 4 = .ok (.ifCond .eq 10, 3) := by decide +kernel
theorem dX6_alike_7 : decode cX6_alike 7 = .ok (.iload_n 2, 1) := by decide +kernel
theorem dX6_alike_8 : decode cX6_alike 8 = .ok (.invokestatic 113, 3) := by decide +kernel
theorem dX6_alike_11 : decode cX6_alike 11 = .ok (.ifCond .ne 5, 3) := by decide +kernel
theorem dX6_alike_14 : decode cX6_alike 14 = .ok (.iconst (-1), 1) := by decide +kernel
theorem dX6_alike_15 : decode cX6_alike 15 = .ok (.ireturn, 1) := by decide +kernel
theorem dX6_alike_16 : decode cX6_alike 16 = .ok (.aload_n 0, 1) := by decide +kernel
theorem dX6_alike_17 : decode cX6_alike 17 = .ok (.invokevirtual 116, 3) := by decide +kernel
theorem dX6_alike_20 : decode cX6_alike 20 = .ok (.astore_n 3, 1) := by decide +kernel
theorem dX6_alike_21 : decode cX6_alike 21 = .ok (.aload_n 0, 1) := by decide +kernel
theorem dX6_alike_22 : decode cX6_alike 22 = .ok (.getfield 10, 3) := by decide +kernel
theorem dX6_alike_25 : decode cX6_alike 25 = .ok (.invokevirtual 154, 3) := by decide +kernel
theorem dX6_alike_28 : decode cX6_alike 28 = .ok (.istore 4, 2) := by decide +kernel
theorem dX6_alike_30 : decode cX6_alike 30 = .ok (.iconst 0, 1) := by decide +kernel
theorem dX6_alike_31 : decode cX6_alike 31 = .ok (.istore 5, 2) := by decide +kernel
theorem dX6_alike_33 : decode cX6_alike 33 = .ok (.iload 5, 2) := by decide +kernel
theorem dX6_alike_35 : decode cX6_alike 35 = .ok (.iload 4, 2) := by decide +kernel
theorem dX6_alike_37 : decode cX6_alike 37 = .ok (.if_icmp .gt 29, 3) := by decide +kernel
theorem dX6_alike_40 : decode cX6_alike 40 = .ok (.aload_n 3, 1) := by decide +kernel
theorem dX6_alike_41 : decode cX6_alike 41 = .ok (.iload_n 1, 1) := by decide +kernel
theorem dX6_alike_42 : decode cX6_alike 42 = .ok (.iload 5, 2) := by decide +kernel
theorem dX6_alike_44 : decode cX6_alike 44 = .ok (.invokevirtual 120, 3) := by decide +kernel
theorem dX6_alike_47 : decode cX6_alike 47 = .ok (.aload_n 3, 1) := by decide +kernel
theorem dX6_alike_48 : decode cX6_alike 48 = .ok (.iload_n 2, 1) := by decide +kernel
theorem dX6_alike_49 : decode cX6_alike 49 = .ok (.iload 5, 2) := by decide +kernel
theorem dX6_alike_51 : decode cX6_alike 51 = .ok (.invokevirtual 120, 3) := by decide +kernel
theorem dX6_alike_54 : decode cX6_alike 54 = .ok (.if_icmp .eq 6, 3) := by decide +kernel
theorem dX6_alike_57 : decode cX6_alike 57 = .ok (.iload 5, 2) := by decide +kernel
theorem dX6_alike_59 : decode cX6_alike 59 = .ok (.ireturn, 1) := by decide +kernel
theorem dX6_alike_60 : decode cX6_alike 60 = .ok (.iinc 5 1, 3) := by decide +kernel
theorem dX6_alike_63 : decode cX6_alike 63 = .ok (.goto (-30), 3) := by decide +kernel
theorem dX6_alike_66 : decode cX6_alike 66 = .ok (.bipush (-5), 2) := by decide +kernel
theorem dX6_alike_68 : decode cX6_alike 68 = .ok (.ireturn, 1) := by decide +kernel
theorem dX6_cut_0 : decode cX6_cut 0 = .ok (.aload_n 0, 1) := by decide +kernel
theorem dX6_cut_1 : decode cX6_cut 1 = .ok (.getfield 10, 3) := by decide +kernel
theorem dX6_cut_4 : decode cX6_cut 4 = .ok (.iload_n 1, 1) := by decide +kernel
theorem dX6_cut_5 : decode cX6_cut 5 = .ok (.invokevirtual 79, 3) := by decide +kernel
theorem dX6_cut_8 : decode cX6_cut 8 = .ok (.ifCond .ne 6, 3) := by decide +kernel
theorem dX6_cut_11 : decode cX6_cut 11 = .ok (.bipush (-2), 2) := by decide +kernel
theorem dX6_cut_13 : decode cX6_cut 13 = .ok (.ireturn, 1) := by decide +kernel
theorem dX6_cut_14 : decode cX6_cut 14 = .ok (.aload_n 0, 1) := by decide +kernel
theorem dX6_cut_15 : decode cX6_cut 15 = .ok (.invokevirtual 116, 3) := by decide +kernel
theorem dX6_cut_18 : decode cX6_cut 18 = .ok (.iconst 0, 1) := by decide +kernel
theorem dX6_cut_19 : decode cX6_cut 19 = .ok (.iload_n 1, 1) := by decide +kernel
theorem dX6_cut_20 : decode cX6_cut 20 = .ok (.invokevirtual 120, 3) := by decide +kernel
theorem dX6_cut_23 : decode cX6_cut 23 = .ok (.istore_n 2, 1) := by decide +kernel
theorem dX6_cut_24 : decode cX6_cut 24 = .ok (.aload_n 0, 1) := by decide +kernel
theorem dX6_cut_25 : decode cX6_cut 25 = .ok (.getfield 10, 3) := by decide +kernel
theorem dX6_cut_28 : decode cX6_cut 28 = .ok (.invokevirtual 154, 3) := by decide +kernel
theorem dX6_cut_31 : decode cX6_cut 31 = .ok (.istore_n 3, 1) := by decide +kernel
theorem dX6_cut_32 : decode cX6_cut 32 = .ok (.iconst 0, 1) := by decide +kernel
theorem dX6_cut_33 : decode cX6_cut 33 = .ok (.istore 4, 2) := by decide +kernel
theorem dX6_cut_35 : decode cX6_cut 35 = .ok (.iload 4, 2) := by decide +kernel
theorem dX6_cut_37 : decode cX6_cut 37 = .ok (.iload_n 3, 1) := by decide +kernel
theorem dX6_cut_38 : decode cX6_cut 38 = .ok (.if_icmp .gt 34, 3) := by decide +kernel
theorem dX6_cut_41 : decode cX6_cut 41 = .ok (.iload 4, 2) := by decide +kernel
theorem dX6_cut_43 : decode cX6_cut 43 = .ok (.invokestatic 164, 3) := by decide +kernel
theorem dX6_cut_46 : decode cX6_cut 46 = .ok (.iload_n 2, 1) := by decide +kernel
theorem dX6_cut_47 : decode cX6_cut 47 = .ok (.if_icmp .ne 19, 3) := by decide +kernel
theorem dX6_cut_50 : decode cX6_cut 50 = .ok (.aload_n 0, 1) := by decide +kernel
theorem dX6_cut_51 : decode cX6_cut 51 = .ok (.getfield 10, 3) := by decide +kernel
theorem dX6_cut_54 : decode cX6_cut 54 = .ok (.iload_n 1, 1) := by decide +kernel
theorem dX6_cut_55 : decode cX6_cut 55 = .ok (.iload 4, 2) := by decide +kernel
theorem dX6_cut_57 : decode cX6_cut 57 = .ok (.invokevirtual 169, 3) := by decide +kernel
theorem dX6_cut_60 : decode cX6_cut 60 = .ok (.ifCond .eq 6, 3) := by decide +kernel
theorem dX6_cut_63 : decode cX6_cut 63 = .ok (.iload 4, 2) := by decide +kernel
theorem dX6_cut_65 : decode cX6_cut 65 = .ok (.ireturn, 1) := by decide +kernel
theorem dX6_cut_66 : decode cX6_cut 66 = .ok (.iinc 4 1, 3) := by decide +kernel
theorem dX6_cut_69 : decode cX6_cut 69 = .ok (.goto (-34), 3) := by decide +kernel
theorem dX6_cut_72 : decode cX6_cut 72 = .ok (.iload_n 3, 1) := by decide +kernel
theorem dX6_cut_73 : decode cX6_cut 73 = .ok (.ireturn, 1) := by decide +kernel
theorem dX6_reach_0 : decode cX6_reach 0 = .ok (.aload_n 0, 1) := by decide +kernel
theorem dX6_reach_1 : decode cX6_reach 1 = .ok (.getfield 10, 3) := by decide +kernel
theorem dX6_reach_4 : decode cX6_reach 4 = .ok (.iload_n 1, 1) := by decide +kernel
theorem dX6_reach_5 : decode cX6_reach 5 = .ok (.invokevirtual 79, 3) := by decide +kernel
theorem dX6_reach_8 : decode cX6_reach 8 = .ok (.ifCond .ne 6, 3) := by decide +kernel
theorem dX6_reach_11 : decode cX6_reach 11 = .ok (.bipush (-2), 2) := by decide +kernel
theorem dX6_reach_13 : decode cX6_reach 13 = .ok (.ireturn, 1) := by decide +kernel
theorem dX6_reach_14 : decode cX6_reach 14 = .ok (.aload_n 0, 1) := by decide +kernel
theorem dX6_reach_15 : decode cX6_reach 15 = .ok (.getfield 10, 3) := by decide +kernel
theorem dX6_reach_18 : decode cX6_reach 18 = .ok (.iload_n 1, 1) := by decide +kernel
theorem dX6_reach_19 : decode cX6_reach 19 = .ok (.iconst 0, 1) := by decide +kernel
theorem dX6_reach_20 : decode cX6_reach 20 = .ok (.invokevirtual 172, 3) := by decide +kernel
theorem dX6_reach_23 : decode cX6_reach 23 = .ok (.ireturn, 1) := by decide +kernel
theorem dX6_partners_0 : decode cX6_partners 0 = .ok (.aload_n 0, 1) := by decide +kernel
theorem dX6_partners_1 : decode cX6_partners 1 = .ok (.getfield 10, 3) := by decide +kernel
theorem dX6_partners_4 : decode cX6_partners 4 = .ok (.iload_n 1, 1) := by decide +kernel
theorem dX6_partners_5 : decode cX6_partners 5 = .ok (.invokevirtual 79, 3) := by decide +kernel
theorem dX6_partners_8 : decode cX6_partners 8 = .ok (.ifCond .ne 6, 3) := by decide +kernel
theorem dX6_partners_11 : decode cX6_partners 11 = .ok (.bipush (-2), 2) := by decide +kernel
theorem dX6_partners_13 : decode cX6_partners 13 = .ok (.ireturn, 1) := by decide +kernel
theorem dX6_partners_14 : decode cX6_partners 14 = .ok (.aload_n 0, 1) := by decide +kernel
theorem dX6_partners_15 : decode cX6_partners 15 = .ok (.getfield 33, 3) := by decide +kernel
theorem dX6_partners_18 : decode cX6_partners 18 = .ok (.invokevirtual 175, 3) := by decide +kernel
theorem dX6_partners_21 : decode cX6_partners 21 = .ok (.iconst 0, 1) := by decide +kernel
theorem dX6_partners_22 : decode cX6_partners 22 = .ok (.istore_n 2, 1) := by decide +kernel
theorem dX6_partners_23 : decode cX6_partners 23 = .ok (.iload_n 2, 1) := by decide +kernel
theorem dX6_partners_24 : decode cX6_partners 24 = .ok (.aload_n 0, 1) := by decide +kernel
theorem dX6_partners_25 : decode cX6_partners 25 = .ok (.getfield 10, 3) := by decide +kernel
theorem dX6_partners_28 : decode cX6_partners 28 = .ok (.getfield 60, 3) := by decide +kernel
theorem dX6_partners_31 : decode cX6_partners 31 = .ok (.if_icmp .ge 32, 3) := by decide +kernel
theorem dX6_partners_34 : decode cX6_partners 34 = .ok (.iload_n 1, 1) := by decide +kernel
theorem dX6_partners_35 : decode cX6_partners 35 = .ok (.iload_n 2, 1) := by decide +kernel
theorem dX6_partners_36 : decode cX6_partners 36 = .ok (.invokestatic 145, 3) := by decide +kernel
theorem dX6_partners_39 : decode cX6_partners 39 = .ok (.ifCond .eq 18, 3) := by decide +kernel
theorem dX6_partners_42 : decode cX6_partners 42 = .ok (.aload_n 0, 1) := by decide +kernel
theorem dX6_partners_43 : decode cX6_partners 43 = .ok (.getfield 33, 3) := by decide +kernel
theorem dX6_partners_46 : decode cX6_partners 46 = .ok (.aload_n 0, 1) := by decide +kernel
theorem dX6_partners_47 : decode cX6_partners 47 = .ok (.getfield 10, 3) := by decide +kernel
theorem dX6_partners_50 : decode cX6_partners 50 = .ok (.iload_n 2, 1) := by decide +kernel
theorem dX6_partners_51 : decode cX6_partners 51 = .ok (.invokevirtual 177, 3) := by decide +kernel
theorem dX6_partners_54 : decode cX6_partners 54 = .ok (.invokevirtual 180, 3) := by decide +kernel
theorem dX6_partners_57 : decode cX6_partners 57 = .ok (.iinc 2 1, 3) := by decide +kernel
theorem dX6_partners_60 : decode cX6_partners 60 = .ok (.goto (-37), 3) := by decide +kernel
theorem dX6_partners_63 : decode cX6_partners 63 = .ok (.aload_n 0, 1) := by decide +kernel
theorem dX6_partners_64 : decode cX6_partners 64 = .ok (.getfield 33, 3) := by decide +kernel
theorem dX6_partners_67 : decode cX6_partners 67 = .ok (.aload_n 0, 1) := by decide +kernel
theorem dX6_partners_68 : decode cX6_partners 68 = .ok (.getfield 10, 3) := by decide +kernel
theorem dX6_partners_71 : decode cX6_partners 71 = .ok (.getfield 95, 3) := by decide +kernel
theorem dX6_partners_74 : decode cX6_partners 74 = .ok (.invokevirtual 183, 3) := by decide +kernel
theorem dX6_partners_77 : decode cX6_partners 77 = .ok (.ifCond .ne 6, 3) := by decide +kernel
theorem dX6_partners_80 : decode cX6_partners 80 = .ok (.bipush (-5), 2) := by decide +kernel
theorem dX6_partners_82 : decode cX6_partners 82 = .ok (.ireturn, 1) := by decide +kernel
theorem dX6_partners_83 : decode cX6_partners 83 = .ok (.iconst 0, 1) := by decide +kernel
theorem dX6_partners_84 : decode cX6_partners 84 = .ok (.istore_n 2, 1) := by decide +kernel
theorem dX6_partners_85 : decode cX6_partners 85 = .ok (.iconst 0, 1) := by decide +kernel
theorem dX6_partners_86 : decode cX6_partners 86 = .ok (.istore_n 3, 1) := by decide +kernel
theorem dX6_partners_87 : decode cX6_partners 87 = .ok (.iload_n 3, 1) := by decide +kernel
theorem dX6_partners_88 : decode cX6_partners 88 = .ok (.aload_n 0, 1) := by decide +kernel
theorem dX6_partners_89 : decode cX6_partners 89 = .ok (.getfield 33, 3) := by decide +kernel
theorem dX6_partners_92 : decode cX6_partners 92 = .ok (.getfield 186, 3) := by decide +kernel
theorem dX6_partners_95 : decode cX6_partners 95 = .ok (.if_icmp .ge 26, 3) := by decide +kernel
theorem dX6_partners_98 : decode cX6_partners 98 = .ok (.iload_n 2, 1) := by decide +kernel
theorem dX6_partners_99 : decode cX6_partners 99 = .ok (.bipush 10, 2) := by decide +kernel
theorem dX6_partners_101 : decode cX6_partners 101 = .ok (.imul, 1) := by decide +kernel
theorem dX6_partners_102 : decode cX6_partners 102 = .ok (.aload_n 0, 1) := by decide +kernel
theorem dX6_partners_103 : decode cX6_partners 103 = .ok (.getfield 33, 3) := by decide +kernel
theorem dX6_partners_106 : decode cX6_partners 106 = .ok (.getfield 189, 3) := by decide +kernel
theorem dX6_partners_109 : decode cX6_partners 109 = .ok (.iload_n 3, 1) := by decide +kernel
theorem dX6_partners_110 : decode cX6_partners 110 = .ok (.iaload, 1) := by decide +kernel
theorem dX6_partners_111 : decode cX6_partners 111 = .ok (.iadd, 1) := by decide +kernel
theorem dX6_partners_112 : decode cX6_partners 112 = .ok (.iconst 1, 1) := by decide +kernel
theorem dX6_partners_113 : decode cX6_partners 113 = .ok (.iadd, 1) := by decide +kernel
theorem dX6_partners_114 : decode cX6_partners 114 = .ok (.istore_n 2, 1) := by decide +kernel
theorem dX6_partners_115 : decode cX6_partners 115 = .ok (.iinc 3 1, 3) := by decide +kernel
theorem dX6_partners_118 : decode cX6_partners 118 = .ok (.goto (-31), 3) := by decide +kernel
theorem dX6_partners_121 : decode cX6_partners 121 = .ok (.iload_n 2, 1) := by decide +kernel
theorem dX6_partners_122 : decode cX6_partners 122 = .ok (.ireturn, 1) := by decide +kernel
theorem dX6_turned_0 : decode cX6_turned 0 = .ok (.aload_n 0, 1) := by decide +kernel
theorem dX6_turned_1 : decode cX6_turned 1 = .ok (.getfield 10, 3) := by decide +kernel
theorem dX6_turned_4 : decode cX6_turned 4 = .ok (.invokevirtual 192, 3) := by decide +kernel
theorem dX6_turned_7 : decode cX6_turned 7 = .ok (.aload_n 0, 1) := by decide +kernel
theorem dX6_turned_8 : decode cX6_turned 8 = .ok (.getfield 10, 3) := by decide +kernel
theorem dX6_turned_11 : decode cX6_turned 11 = .ok (.getfield 95, 3) := by decide +kernel
theorem dX6_turned_14 : decode cX6_turned 14 = .ok (.ireturn, 1) := by decide +kernel
theorem dX6_strict_0 : decode cX6_strict 0 = .ok (.aload_n 0, 1) := by decide +kernel
theorem dX6_strict_1 : decode cX6_strict 1 = .ok (.getfield 33, 3) := by decide +kernel
theorem dX6_strict_4 : decode cX6_strict 4 = .ok (.invokevirtual 175, 3) := by decide +kernel
theorem dX6_strict_7 : decode cX6_strict 7 = .ok (.iconst 0, 1) := by decide +kernel
theorem dX6_strict_8 : decode cX6_strict 8 = .ok (.istore_n 1, 1) := by decide +kernel
theorem dX6_strict_9 : decode cX6_strict 9 = .ok (.iload_n 1, 1) := by decide +kernel
theorem dX6_strict_10 : decode cX6_strict 10 = .ok (.aload_n 0, 1) := by decide +kernel
theorem dX6_strict_11 : decode cX6_strict 11 = .ok (.getfield 10, 3) := by decide +kernel
theorem dX6_strict_14 : decode cX6_strict 14 = .ok (.getfield 95, 3) := by decide +kernel
theorem dX6_strict_17 : decode cX6_strict 17 = .ok (.if_icmp .ge 25, 3) := by decide +kernel
theorem dX6_strict_20 : decode cX6_strict 20 = .ok (.aload_n 0, 1) := by decide +kernel
theorem dX6_strict_21 : decode cX6_strict 21 = .ok (.getfield 33, 3) := by decide +kernel
theorem dX6_strict_24 : decode cX6_strict 24 = .ok (.aload_n 0, 1) := by decide +kernel
theorem dX6_strict_25 : decode cX6_strict 25 = .ok (.getfield 10, 3) := by decide +kernel
theorem dX6_strict_28 : decode cX6_strict 28 = .ok (.getfield 104, 3) := by decide +kernel
theorem dX6_strict_31 : decode cX6_strict 31 = .ok (.iload_n 1, 1) := by decide +kernel
theorem dX6_strict_32 : decode cX6_strict 32 = .ok (.iaload, 1) := by decide +kernel
theorem dX6_strict_33 : decode cX6_strict 33 = .ok (.invokevirtual 180, 3) := by decide +kernel
theorem dX6_strict_36 : decode cX6_strict 36 = .ok (.iinc 1 1, 3) := by decide +kernel
theorem dX6_strict_39 : decode cX6_strict 39 = .ok (.goto (-30), 3) := by decide +kernel
theorem dX6_strict_42 : decode cX6_strict 42 = .ok (.aload_n 0, 1) := by decide +kernel
theorem dX6_strict_43 : decode cX6_strict 43 = .ok (.getfield 33, 3) := by decide +kernel
theorem dX6_strict_46 : decode cX6_strict 46 = .ok (.aload_n 0, 1) := by decide +kernel
theorem dX6_strict_47 : decode cX6_strict 47 = .ok (.getfield 10, 3) := by decide +kernel
theorem dX6_strict_50 : decode cX6_strict 50 = .ok (.getfield 60, 3) := by decide +kernel
theorem dX6_strict_53 : decode cX6_strict 53 = .ok (.invokevirtual 183, 3) := by decide +kernel
theorem dX6_strict_56 : decode cX6_strict 56 = .ok (.ifCond .ne 6, 3) := by decide +kernel
theorem dX6_strict_59 : decode cX6_strict 59 = .ok (.bipush (-3), 2) := by decide +kernel
theorem dX6_strict_61 : decode cX6_strict 61 = .ok (.ireturn, 1) := by decide +kernel
theorem dX6_strict_62 : decode cX6_strict 62 = .ok (.aload_n 0, 1) := by decide +kernel
theorem dX6_strict_63 : decode cX6_strict 63 = .ok (.getfield 10, 3) := by decide +kernel
theorem dX6_strict_66 : decode cX6_strict 66 = .ok (.aload_n 0, 1) := by decide +kernel
theorem dX6_strict_67 : decode cX6_strict 67 = .ok (.getfield 33, 3) := by decide +kernel
theorem dX6_strict_70 : decode cX6_strict 70 = .ok (.getfield 189, 3) := by decide +kernel
theorem dX6_strict_73 : decode cX6_strict 73 = .ok (.invokevirtual 195, 3) := by decide +kernel
theorem dX6_strict_76 : decode cX6_strict 76 = .ok (.aload_n 0, 1) := by decide +kernel
theorem dX6_strict_77 : decode cX6_strict 77 = .ok (.getfield 10, 3) := by decide +kernel
theorem dX6_strict_80 : decode cX6_strict 80 = .ok (.invokevirtual 199, 3) := by decide +kernel
theorem dX6_strict_83 : decode cX6_strict 83 = .ok (.ireturn, 1) := by decide +kernel
theorem dX6_spare_0 : decode cX6_spare 0 = .ok (.aload_n 0, 1) := by decide +kernel
theorem dX6_spare_1 : decode cX6_spare 1 = .ok (.getfield 10, 3) := by decide +kernel
theorem dX6_spare_4 : decode cX6_spare 4 = .ok (.iload_n 1, 1) := by decide +kernel
theorem dX6_spare_5 : decode cX6_spare 5 = .ok (.invokevirtual 101, 3) := by decide +kernel
theorem dX6_spare_8 : decode cX6_spare 8 = .ok (.ifCond .ne 5, 3) := by decide +kernel
theorem dX6_spare_11 : decode cX6_spare 11 = .ok (.iconst (-1), 1) := by decide +kernel
theorem dX6_spare_12 : decode cX6_spare 12 = .ok (.ireturn, 1) := by decide +kernel
theorem dX6_spare_13 : decode cX6_spare 13 = .ok (.aload_n 0, 1) := by decide +kernel
theorem dX6_spare_14 : decode cX6_spare 14 = .ok (.iload_n 1, 1) := by decide +kernel
theorem dX6_spare_15 : decode cX6_spare 15 = .ok (.aload_n 0, 1) := by decide +kernel
theorem dX6_spare_16 : decode cX6_spare 16 = .ok (.getfield 10, 3) := by decide +kernel
theorem dX6_spare_19 : decode cX6_spare 19 = .ok (.getfield 104, 3) := by decide +kernel
theorem dX6_spare_22 : decode cX6_spare 22 = .ok (.iload_n 1, 1) := by decide +kernel
theorem dX6_spare_23 : decode cX6_spare 23 = .ok (.iaload, 1) := by decide +kernel
theorem dX6_spare_24 : decode cX6_spare 24 = .ok (.invokevirtual 202, 3) := by decide +kernel
theorem dX6_spare_27 : decode cX6_spare 27 = .ok (.ireturn, 1) := by decide +kernel
theorem dX6_room_0 : decode cX6_room 0 = .ok (.aload_n 0, 1) := by decide +kernel
theorem dX6_room_1 : decode cX6_room 1 = .ok (.getfield 10, 3) := by decide +kernel
theorem dX6_room_4 : decode cX6_room 4 = .ok (.iload_n 1, 1) := by decide +kernel
theorem dX6_room_5 : decode cX6_room 5 = .ok (.invokevirtual 101, 3) := by decide +kernel
theorem dX6_room_8 : decode cX6_room 8 = .ok (.ifCond .ne 5, 3) := by decide +kernel
theorem dX6_room_11 : decode cX6_room 11 = .ok (.iconst (-1), 1) := by decide +kernel
theorem dX6_room_12 : decode cX6_room 12 = .ok (.ireturn, 1) := by decide +kernel
theorem dX6_room_13 : decode cX6_room 13 = .ok (.aload_n 0, 1) := by decide +kernel
theorem dX6_room_14 : decode cX6_room 14 = .ok (.iload_n 1, 1) := by decide +kernel
theorem dX6_room_15 : decode cX6_room 15 = .ok (.aload_n 0, 1) := by decide +kernel
theorem dX6_room_16 : decode cX6_room 16 = .ok (.getfield 10, 3) := by decide +kernel
theorem dX6_room_19 : decode cX6_room 19 = .ok (.invokevirtual 154, 3) := by decide +kernel
theorem dX6_room_22 : decode cX6_room 22 = .ok (.aload_n 0, 1) := by decide +kernel
theorem dX6_room_23 : decode cX6_room 23 = .ok (.getfield 10, 3) := by decide +kernel
theorem dX6_room_26 : decode cX6_room 26 = .ok (.getfield 104, 3) := by decide +kernel
theorem dX6_room_29 : decode cX6_room 29 = .ok (.iload_n 1, 1) := by decide +kernel
theorem dX6_room_30 : decode cX6_room 30 = .ok (.iaload, 1) := by decide +kernel
theorem dX6_room_31 : decode cX6_room 31 = .ok (.iconst (-1), 1) := by decide +kernel
theorem dX6_room_32 : decode cX6_room 32 = .ok (.ixor, 1) := by decide +kernel
theorem dX6_room_33 : decode cX6_room 33 = .ok (.iand, 1) := by decide +kernel
theorem dX6_room_34 : decode cX6_room 34 = .ok (.invokevirtual 202, 3) := by decide +kernel
theorem dX6_room_37 : decode cX6_room 37 = .ok (.ireturn, 1) := by decide +kernel
theorem dX6_idle_0 : decode cX6_idle 0 = .ok (.aload_n 0, 1) := by decide +kernel
theorem dX6_idle_1 : decode cX6_idle 1 = .ok (.invokevirtual 116, 3) := by decide +kernel
theorem dX6_idle_4 : decode cX6_idle 4 = .ok (.astore_n 1, 1) := by decide +kernel
theorem dX6_idle_5 : decode cX6_idle 5 = .ok (.iconst 0, 1) := by decide +kernel
theorem dX6_idle_6 : decode cX6_idle 6 = .ok (.istore_n 2, 1) := by decide +kernel
theorem dX6_idle_7 : decode cX6_idle 7 = .ok (.iconst 0, 1) := by decide +kernel
theorem dX6_idle_8 : decode cX6_idle 8 = .ok (.istore_n 3, 1) := by decide +kernel
theorem dX6_idle_9 : decode cX6_idle 9 = .ok (.iload_n 3, 1) := by decide +kernel
theorem dX6_idle_10 : decode cX6_idle 10 = .ok (.aload_n 0, 1) := by decide +kernel
theorem dX6_idle_11 : decode cX6_idle 11 = .ok (.getfield 10, 3) := by decide +kernel
theorem dX6_idle_14 : decode cX6_idle 14 = .ok (.getfield 95, 3) := by decide +kernel
theorem dX6_idle_17 : decode cX6_idle 17 = .ok (.if_icmp .ge 28, 3) := by decide +kernel
theorem dX6_idle_20 : decode cX6_idle 20 = .ok (.aload_n 1, 1) := by decide +kernel
theorem dX6_idle_21 : decode cX6_idle 21 = .ok (.aload_n 0, 1) := by decide +kernel
theorem dX6_idle_22 : decode cX6_idle 22 = .ok (.getfield 10, 3) := by decide +kernel
theorem dX6_idle_25 : decode cX6_idle 25 = .ok (.iload_n 3, 1) := by decide +kernel
theorem dX6_idle_26 : decode cX6_idle 26 = .ok (.iconst 0, 1) := by decide +kernel
theorem dX6_idle_27 : decode cX6_idle 27 = .ok (.invokevirtual 205, 3) := by decide +kernel
theorem dX6_idle_30 : decode cX6_idle 30 = .ok (.ifCond .eq 9, 3) := by decide +kernel
theorem dX6_idle_33 : decode cX6_idle 33 = .ok (.iload_n 2, 1) := by decide +kernel
theorem dX6_idle_34 : decode cX6_idle 34 = .ok (.iconst 1, 1) := by decide +kernel
theorem dX6_idle_35 : decode cX6_idle 35 = .ok (.iload_n 3, 1) := by decide +kernel
theorem dX6_idle_36 : decode cX6_idle 36 = .ok (.ishl, 1) := by decide +kernel
theorem dX6_idle_37 : decode cX6_idle 37 = .ok (.ior, 1) := by decide +kernel
theorem dX6_idle_38 : decode cX6_idle 38 = .ok (.istore_n 2, 1) := by decide +kernel
theorem dX6_idle_39 : decode cX6_idle 39 = .ok (.iinc 3 1, 3) := by decide +kernel
theorem dX6_idle_42 : decode cX6_idle 42 = .ok (.goto (-33), 3) := by decide +kernel
theorem dX6_idle_45 : decode cX6_idle 45 = .ok (.iload_n 2, 1) := by decide +kernel
theorem dX6_idle_46 : decode cX6_idle 46 = .ok (.ireturn, 1) := by decide +kernel
theorem dX6_small_0 : decode cX6_small 0 = .ok (.aload_n 0, 1) := by decide +kernel
theorem dX6_small_1 : decode cX6_small 1 = .ok (.invokevirtual 116, 3) := by decide +kernel
theorem dX6_small_4 : decode cX6_small 4 = .ok (.astore_n 1, 1) := by decide +kernel
theorem dX6_small_5 : decode cX6_small 5 = .ok (.iconst 0, 1) := by decide +kernel
theorem dX6_small_6 : decode cX6_small 6 = .ok (.istore_n 2, 1) := by decide +kernel
theorem dX6_small_7 : decode cX6_small 7 = .ok (.iconst 0, 1) := by decide +kernel
theorem dX6_small_8 : decode cX6_small 8 = .ok (.istore_n 3, 1) := by decide +kernel
theorem dX6_small_9 : decode cX6_small 9 = .ok (.iload_n 3, 1) := by decide +kernel
theorem dX6_small_10 : decode cX6_small 10 = .ok (.aload_n 0, 1) := by decide +kernel
theorem dX6_small_11 : decode cX6_small 11 = .ok (.getfield 10, 3) := by decide +kernel
theorem dX6_small_14 : decode cX6_small 14 = .ok (.getfield 95, 3) := by decide +kernel
theorem dX6_small_17 : decode cX6_small 17 = .ok (.if_icmp .ge 92, 3) := by decide +kernel
theorem dX6_small_20 : decode cX6_small 20 = .ok (.iconst 0, 1) := by decide +kernel
theorem dX6_small_21 : decode cX6_small 21 = .ok (.istore 4, 2) := by decide +kernel
theorem dX6_small_23 : decode cX6_small 23 = .ok (.iload 4, 2) := by decide +kernel
theorem dX6_small_25 : decode cX6_small 25 = .ok (.aload_n 0, 1) := by decide +kernel
theorem dX6_small_26 : decode cX6_small 26 = .ok (.getfield 10, 3) := by decide +kernel
theorem dX6_small_29 : decode cX6_small 29 = .ok (.getfield 60, 3) := by decide +kernel
theorem dX6_small_32 : decode cX6_small 32 = .ok (.if_icmp .ge 71, 3) := by decide +kernel
theorem dX6_small_35 : decode cX6_small 35 = .ok (.aload_n 0, 1) := by decide +kernel
theorem dX6_small_36 : decode cX6_small 36 = .ok (.getfield 10, 3) := by decide +kernel
theorem dX6_small_39 : decode cX6_small 39 = .ok (.getfield 104, 3) := by decide +kernel
theorem dX6_small_42 : decode cX6_small 42 = .ok (.iload_n 3, 1) := by decide +kernel
theorem dX6_small_43 : decode cX6_small 43 = .ok (.iaload, 1) := by decide +kernel
theorem dX6_small_44 : decode cX6_small 44 = .ok (.iconst 1, 1) := by decide +kernel
theorem dX6_small_45 : decode cX6_small 45 = .ok (.iload 4, 2) := by decide +kernel
theorem dX6_small_47 : decode cX6_small 47 = .ok (.ishl, 1) := by decide +kernel
theorem dX6_small_48 : decode cX6_small 48 = .ok (.iconst (-1), 1) := by decide +kernel
theorem dX6_small_49 : decode cX6_small 49 = .ok (.ixor, 1) := by decide +kernel
theorem dX6_small_50 : decode cX6_small 50 = .ok (.iand, 1) := by decide +kernel
theorem dX6_small_51 : decode cX6_small 51 = .ok (.istore 5, 2) := by decide +kernel
theorem dX6_small_53 : decode cX6_small 53 = .ok (.aload_n 0, 1) := by decide +kernel
theorem dX6_small_54 : decode cX6_small 54 = .ok (.getfield 10, 3) := by decide +kernel
theorem dX6_small_57 : decode cX6_small 57 = .ok (.getfield 104, 3) := by decide +kernel
theorem dX6_small_60 : decode cX6_small 60 = .ok (.iload_n 3, 1) := by decide +kernel
theorem dX6_small_61 : decode cX6_small 61 = .ok (.iaload, 1) := by decide +kernel
theorem dX6_small_62 : decode cX6_small 62 = .ok (.iload 4, 2) := by decide +kernel
theorem dX6_small_64 : decode cX6_small 64 = .ok (.invokestatic 145, 3) := by decide +kernel
theorem dX6_small_67 : decode cX6_small 67 = .ok (.ifCond .eq 30, 3) := by decide +kernel
theorem dX6_small_70 : decode cX6_small 70 = .ok (.aload_n 1, 1) := by decide +kernel
theorem dX6_small_71 : decode cX6_small 71 = .ok (.aload_n 0, 1) := by decide +kernel
theorem dX6_small_72 : decode cX6_small 72 = .ok (.getfield 10, 3) := by decide +kernel
theorem dX6_small_75 : decode cX6_small 75 = .ok (.iload_n 3, 1) := by decide +kernel
theorem dX6_small_76 : decode cX6_small 76 = .ok (.iload 5, 2) := by decide +kernel
theorem dX6_small_78 : decode cX6_small 78 = .ok (.invokevirtual 205, 3) := by decide +kernel
theorem dX6_small_81 : decode cX6_small 81 = .ok (.ifCond .eq 16, 3) := by decide +kernel
theorem dX6_small_84 : decode cX6_small 84 = .ok (.aload_n 0, 1) := by decide +kernel
theorem dX6_small_85 : decode cX6_small 85 = .ok (.getfield 10, 3) := by decide +kernel
theorem dX6_small_88 : decode cX6_small 88 = .ok (.iload_n 3, 1) := by decide +kernel
theorem dX6_small_89 : decode cX6_small 89 = .ok (.iload 5, 2) := by decide +kernel
theorem dX6_small_91 : decode cX6_small 91 = .ok (.invokevirtual 107, 3) := by decide +kernel
theorem dX6_small_94 : decode cX6_small 94 = .ok (.iinc 2 1, 3) := by decide +kernel
theorem dX6_small_97 : decode cX6_small 97 = .ok (.iinc 4 1, 3) := by decide +kernel
theorem dX6_small_100 : decode cX6_small 100 = .ok (.goto (-77), 3) := by decide +kernel
theorem dX6_small_103 : decode cX6_small 103 = .ok (.iinc 3 1, 3) := by decide +kernel
theorem dX6_small_106 : decode cX6_small 106 = .ok (.goto (-97), 3) := by decide +kernel
theorem dX6_small_109 : decode cX6_small 109 = .ok (.aload_n 0, 1) := by decide +kernel
theorem dX6_small_110 : decode cX6_small 110 = .ok (.getfield 10, 3) := by decide +kernel
theorem dX6_small_113 : decode cX6_small 113 = .ok (.invokevirtual 209, 3) := by decide +kernel
theorem dX6_small_116 : decode cX6_small 116 = .ok (.iload_n 2, 1) := by decide +kernel
theorem dX6_small_117 : decode cX6_small 117 = .ok (.ireturn, 1) := by decide +kernel
theorem dX6_row_0 : decode cX6_row 0 = .ok (.iload_n 1, 1) := by decide +kernel
theorem dX6_row_1 : decode cX6_row 1 = .ok (.invokestatic 212, 3) := by decide +kernel
theorem dX6_row_4 : decode cX6_row 4 = .ok (.ifCond .ne 5, 3) := by decide +kernel
theorem dX6_row_7 : decode cX6_row 7 = .ok (.iconst (-1), 1) := by decide +kernel
theorem dX6_row_8 : decode cX6_row 8 = .ok (.ireturn, 1) := by decide +kernel
theorem dX6_row_9 : decode cX6_row 9 = .ok (.iload_n 2, 1) := by decide +kernel
theorem dX6_row_10 : decode cX6_row 10 = .ok (.bipush 40, 2) := by decide +kernel
theorem dX6_row_12 : decode cX6_row 12 = .ok (.if_icmp .le 6, 3) := by decide +kernel
theorem dX6_row_15 : decode cX6_row 15 = .ok (.bipush (-2), 2) := by decide +kernel
theorem dX6_row_17 : decode cX6_row 17 = .ok (.ireturn, 1) := by decide +kernel
theorem dX6_row_18 : decode cX6_row 18 = .ok (.iload_n 2, 1) := by decide +kernel
theorem dX6_row_19 : decode cX6_row 19 = .ok (.ifCond .ge 6, 3) := by decide +kernel
theorem dX6_row_22 : decode cX6_row 22 = .ok (.bipush (-14), 2) := by decide +kernel
theorem dX6_row_24 : decode cX6_row 24 = .ok (.ireturn, 1) := by decide +kernel
theorem dX6_row_25 : decode cX6_row 25 = .ok (.aload_n 0, 1) := by decide +kernel
theorem dX6_row_26 : decode cX6_row 26 = .ok (.getfield 42, 3) := by decide +kernel
theorem dX6_row_29 : decode cX6_row 29 = .ok (.iload_n 1, 1) := by decide +kernel
theorem dX6_row_30 : decode cX6_row 30 = .ok (.iload_n 2, 1) := by decide +kernel
theorem dX6_row_31 : decode cX6_row 31 = .ok (.iastore, 1) := by decide +kernel
theorem dX6_row_32 : decode cX6_row 32 = .ok (.iconst 0, 1) := by decide +kernel
theorem dX6_row_33 : decode cX6_row 33 = .ok (.istore_n 3, 1) := by decide +kernel
theorem dX6_row_34 : decode cX6_row 34 = .ok (.iload_n 3, 1) := by decide +kernel
theorem dX6_row_35 : decode cX6_row 35 = .ok (.iload_n 2, 1) := by decide +kernel
theorem dX6_row_36 : decode cX6_row 36 = .ok (.if_icmp .ge 18, 3) := by decide +kernel
theorem dX6_row_39 : decode cX6_row 39 = .ok (.aload_n 0, 1) := by decide +kernel
theorem dX6_row_40 : decode cX6_row 40 = .ok (.getfield 39, 3) := by decide +kernel
theorem dX6_row_43 : decode cX6_row 43 = .ok (.iload_n 1, 1) := by decide +kernel
theorem dX6_row_44 : decode cX6_row 44 = .ok (.aaload, 1) := by decide +kernel
theorem dX6_row_45 : decode cX6_row 45 = .ok (.iload_n 3, 1) := by decide +kernel
theorem dX6_row_46 : decode cX6_row 46 = .ok (.iconst 0, 1) := by decide +kernel
theorem dX6_row_47 : decode cX6_row 47 = .ok (.iastore, 1) := by decide +kernel
theorem dX6_row_48 : decode cX6_row 48 = .ok (.iinc 3 1, 3) := by decide +kernel
theorem dX6_row_51 : decode cX6_row 51 = .ok (.goto (-17), 3) := by decide +kernel
theorem dX6_row_54 : decode cX6_row 54 = .ok (.iconst 1, 1) := by decide +kernel
theorem dX6_row_55 : decode cX6_row 55 = .ok (.ireturn, 1) := by decide +kernel
theorem dX6_lose_0 : decode cX6_lose 0 = .ok (.iload_n 1, 1) := by decide +kernel
theorem dX6_lose_1 : decode cX6_lose 1 = .ok (.invokestatic 212, 3) := by decide +kernel
theorem dX6_lose_4 : decode cX6_lose 4 = .ok (.ifCond .ne 5, 3) := by decide +kernel
theorem dX6_lose_7 : decode cX6_lose 7 = .ok (.iconst (-1), 1) := by decide +kernel
theorem dX6_lose_8 : decode cX6_lose 8 = .ok (.ireturn, 1) := by decide +kernel
theorem dX6_lose_9 : decode cX6_lose 9 = .ok (.aload_n 0, 1) := by decide +kernel
theorem dX6_lose_10 : decode cX6_lose 10 = .ok (.iload_n 1, 1) := by decide +kernel
theorem dX6_lose_11 : decode cX6_lose 11 = .ok (.invokevirtual 215, 3) := by decide +kernel
theorem dX6_lose_14 : decode cX6_lose 14 = .ok (.ifCond .ne 6, 3) := by decide +kernel
theorem dX6_lose_17 : decode cX6_lose 17 = .ok (.bipush (-11), 2) := by decide +kernel
theorem dX6_lose_19 : decode cX6_lose 19 = .ok (.ireturn, 1) := by decide +kernel
theorem dX6_lose_20 : decode cX6_lose 20 = .ok (.aload_n 0, 1) := by decide +kernel
theorem dX6_lose_21 : decode cX6_lose 21 = .ok (.getfield 42, 3) := by decide +kernel
theorem dX6_lose_24 : decode cX6_lose 24 = .ok (.iload_n 1, 1) := by decide +kernel
theorem dX6_lose_25 : decode cX6_lose 25 = .ok (.iaload, 1) := by decide +kernel
theorem dX6_lose_26 : decode cX6_lose 26 = .ok (.istore_n 2, 1) := by decide +kernel
theorem dX6_lose_27 : decode cX6_lose 27 = .ok (.aload_n 0, 1) := by decide +kernel
theorem dX6_lose_28 : decode cX6_lose 28 = .ok (.getfield 42, 3) := by decide +kernel
theorem dX6_lose_31 : decode cX6_lose 31 = .ok (.iload_n 1, 1) := by decide +kernel
theorem dX6_lose_32 : decode cX6_lose 32 = .ok (.iconst (-1), 1) := by decide +kernel
theorem dX6_lose_33 : decode cX6_lose 33 = .ok (.iastore, 1) := by decide +kernel
theorem dX6_lose_34 : decode cX6_lose 34 = .ok (.iload_n 2, 1) := by decide +kernel
theorem dX6_lose_35 : decode cX6_lose 35 = .ok (.ireturn, 1) := by decide +kernel
theorem dX6_put_0 : decode cX6_put 0 = .ok (.iload_n 1, 1) := by decide +kernel
theorem dX6_put_1 : decode cX6_put 1 = .ok (.invokestatic 212, 3) := by decide +kernel
theorem dX6_put_4 : decode cX6_put 4 = .ok (.ifCond .ne 5, 3) := by decide +kernel
theorem dX6_put_7 : decode cX6_put 7 = .ok (.iconst (-1), 1) := by decide +kernel
theorem dX6_put_8 : decode cX6_put 8 = .ok (.ireturn, 1) := by decide +kernel
theorem dX6_put_9 : decode cX6_put 9 = .ok (.aload_n 0, 1) := by decide +kernel
theorem dX6_put_10 : decode cX6_put 10 = .ok (.iload_n 1, 1) := by decide +kernel
theorem dX6_put_11 : decode cX6_put 11 = .ok (.invokevirtual 215, 3) := by decide +kernel
theorem dX6_put_14 : decode cX6_put 14 = .ok (.ifCond .ne 6, 3) := by decide +kernel
theorem dX6_put_17 : decode cX6_put 17 = .ok (.bipush (-11), 2) := by decide +kernel
theorem dX6_put_19 : decode cX6_put 19 = .ok (.ireturn, 1) := by decide +kernel
theorem dX6_put_20 : decode cX6_put 20 = .ok (.iload_n 2, 1) := by decide +kernel
theorem dX6_put_21 : decode cX6_put 21 = .ok (.ifCond .lt 13, 3) := by decide +kernel
theorem dX6_put_24 : decode cX6_put 24 = .ok (.iload_n 2, 1) := by decide +kernel
theorem dX6_put_25 : decode cX6_put 25 = .ok (.aload_n 0, 1) := by decide +kernel
theorem dX6_put_26 : decode cX6_put 26 = .ok (.getfield 42, 3) := by decide +kernel
theorem dX6_put_29 : decode cX6_put 29 = .ok (.iload_n 1, 1) := by decide +kernel
theorem dX6_put_30 : decode cX6_put 30 = .ok (.iaload, 1) := by decide +kernel
theorem dX6_put_31 : decode cX6_put 31 = .ok (.if_icmp .lt 6, 3) := by decide +kernel
theorem dX6_put_34 : decode cX6_put 34 = .ok (.bipush (-13), 2) := by decide +kernel
theorem dX6_put_36 : decode cX6_put 36 = .ok (.ireturn, 1) := by decide +kernel
theorem dX6_put_37 : decode cX6_put 37 = .ok (.aload_n 0, 1) := by decide +kernel
theorem dX6_put_38 : decode cX6_put 38 = .ok (.getfield 39, 3) := by decide +kernel
theorem dX6_put_41 : decode cX6_put 41 = .ok (.iload_n 1, 1) := by decide +kernel
theorem dX6_put_42 : decode cX6_put 42 = .ok (.aaload, 1) := by decide +kernel
theorem dX6_put_43 : decode cX6_put 43 = .ok (.iload_n 2, 1) := by decide +kernel
theorem dX6_put_44 : decode cX6_put 44 = .ok (.iload_n 3, 1) := by decide +kernel
theorem dX6_put_45 : decode cX6_put 45 = .ok (.iastore, 1) := by decide +kernel
theorem dX6_put_46 : decode cX6_put 46 = .ok (.iconst 1, 1) := by decide +kernel
theorem dX6_put_47 : decode cX6_put 47 = .ok (.ireturn, 1) := by decide +kernel
theorem dX6_get_0 : decode cX6_get 0 = .ok (.iload_n 1, 1) := by decide +kernel
theorem dX6_get_1 : decode cX6_get 1 = .ok (.invokestatic 212, 3) := by decide +kernel
theorem dX6_get_4 : decode cX6_get 4 = .ok (.ifCond .eq 17, 3) := by decide +kernel
theorem dX6_get_7 : decode cX6_get 7 = .ok (.iload_n 2, 1) := by decide +kernel
theorem dX6_get_8 : decode cX6_get 8 = .ok (.ifCond .lt 13, 3) := by decide +kernel
theorem dX6_get_11 : decode cX6_get 11 = .ok (.iload_n 2, 1) := by decide +kernel
theorem dX6_get_12 : decode cX6_get 12 = .ok (.aload_n 0, 1) := by decide +kernel
theorem dX6_get_13 : decode cX6_get 13 = .ok (.getfield 42, 3) := by decide +kernel
theorem dX6_get_16 : decode cX6_get 16 = .ok (.iload_n 1, 1) := by decide +kernel
theorem dX6_get_17 : decode cX6_get 17 = .ok (.iaload, 1) := by decide +kernel
theorem dX6_get_18 : decode cX6_get 18 = .ok (.if_icmp .lt 7, 3) := by decide +kernel
theorem dX6_get_21 : decode cX6_get 21 = .ok (.ldc2_w 218, 3) := by decide +kernel
theorem dX6_get_24 : decode cX6_get 24 = .ok (.lreturn, 1) := by decide +kernel
theorem dX6_get_25 : decode cX6_get 25 = .ok (.aload_n 0, 1) := by decide +kernel
theorem dX6_get_26 : decode cX6_get 26 = .ok (.getfield 39, 3) := by decide +kernel
theorem dX6_get_29 : decode cX6_get 29 = .ok (.iload_n 1, 1) := by decide +kernel
theorem dX6_get_30 : decode cX6_get 30 = .ok (.aaload, 1) := by decide +kernel
theorem dX6_get_31 : decode cX6_get 31 = .ok (.iload_n 2, 1) := by decide +kernel
theorem dX6_get_32 : decode cX6_get 32 = .ok (.iaload, 1) := by decide +kernel
theorem dX6_get_33 : decode cX6_get 33 = .ok (.i2l, 1) := by decide +kernel
theorem dX6_get_34 : decode cX6_get 34 = .ok (.lreturn, 1) := by decide +kernel
theorem dX6_copy_0 : decode cX6_copy 0 = .ok (.iload_n 1, 1) := by decide +kernel
theorem dX6_copy_1 : decode cX6_copy 1 = .ok (.invokestatic 212, 3) := by decide +kernel
theorem dX6_copy_4 : decode cX6_copy 4 = .ok (.ifCond .eq 10, 3) := by decide +kernel
theorem dX6_copy_7 : decode cX6_copy 7 = .ok (.iload_n 3, 1) := by decide +kernel
theorem dX6_copy_8 : decode cX6_copy 8 = .ok (.invokestatic 212, 3) := by decide +kernel
theorem dX6_copy_11 : decode cX6_copy 11 = .ok (.ifCond .ne 5, 3) := by decide +kernel
theorem dX6_copy_14 : decode cX6_copy 14 = .ok (.iconst (-1), 1) := by decide +kernel
theorem dX6_copy_15 : decode cX6_copy 15 = .ok (.ireturn, 1) := by decide +kernel
theorem dX6_copy_16 : decode cX6_copy 16 = .ok (.aload_n 0, 1) := by decide +kernel
theorem dX6_copy_17 : decode cX6_copy 17 = .ok (.iload_n 1, 1) := by decide +kernel
theorem dX6_copy_18 : decode cX6_copy 18 = .ok (.invokevirtual 215, 3) := by decide +kernel
theorem dX6_copy_21 : decode cX6_copy 21 = .ok (.ifCond .eq 11, 3) := by decide +kernel
theorem dX6_copy_24 : decode cX6_copy 24 = .ok (.aload_n 0, 1) := by decide +kernel
theorem dX6_copy_25 : decode cX6_copy 25 = .ok (.iload_n 3, 1) := by decide +kernel
theorem dX6_copy_26 : decode cX6_copy 26 = .ok (.invokevirtual 215, 3) := by decide +kernel
theorem dX6_copy_29 : decode cX6_copy 29 = .ok (.ifCond .ne 6, 3) := by decide +kernel
theorem dX6_copy_32 : decode cX6_copy 32 = .ok (.bipush (-11), 2) := by decide +kernel
theorem dX6_copy_34 : decode cX6_copy 34 = .ok (.ireturn, 1) := by decide +kernel
theorem dX6_copy_35 : decode cX6_copy 35 = .ok (.iload 5, 2) := by decide +kernel
theorem dX6_copy_37 : decode cX6_copy 37 = .ok (.ifCond .lt 12, 3) := by decide +kernel
theorem dX6_copy_40 : decode cX6_copy 40 = .ok (.iload_n 2, 1) := by decide +kernel
theorem dX6_copy_41 : decode cX6_copy 41 = .ok (.ifCond .lt 8, 3) := by decide +kernel
theorem dX6_copy_44 : decode cX6_copy 44 = .ok (.iload 4, 2) := by decide +kernel
theorem dX6_copy_46 : decode cX6_copy 46 = .ok (.ifCond .ge 6, 3) := by decide +kernel
theorem dX6_copy_49 : decode cX6_copy 49 = .ok (.bipush (-13), 2) := by decide +kernel
theorem dX6_copy_51 : decode cX6_copy 51 = .ok (.ireturn, 1) := by decide +kernel
theorem dX6_copy_52 : decode cX6_copy 52 = .ok (.iload 5, 2) := by decide +kernel
theorem dX6_copy_54 : decode cX6_copy 54 = .ok (.aload_n 0, 1) := by decide +kernel
theorem dX6_copy_55 : decode cX6_copy 55 = .ok (.getfield 42, 3) := by decide +kernel
theorem dX6_copy_58 : decode cX6_copy 58 = .ok (.iload_n 1, 1) := by decide +kernel
theorem dX6_copy_59 : decode cX6_copy 59 = .ok (.iaload, 1) := by decide +kernel
theorem dX6_copy_60 : decode cX6_copy 60 = .ok (.iload_n 2, 1) := by decide +kernel
theorem dX6_copy_61 : decode cX6_copy 61 = .ok (.isub, 1) := by decide +kernel
theorem dX6_copy_62 : decode cX6_copy 62 = .ok (.if_icmp .gt 17, 3) := by decide +kernel
theorem dX6_copy_65 : decode cX6_copy 65 = .ok (.iload 5, 2) := by decide +kernel
theorem dX6_copy_67 : decode cX6_copy 67 = .ok (.aload_n 0, 1) := by decide +kernel
theorem dX6_copy_68 : decode cX6_copy 68 = .ok (.getfield 42, 3) := by decide +kernel
theorem dX6_copy_71 : decode cX6_copy 71 = .ok (.iload_n 3, 1) := by decide +kernel
theorem dX6_copy_72 : decode cX6_copy 72 = .ok (.iaload, 1) := by decide +kernel
theorem dX6_copy_73 : decode cX6_copy 73 = .ok (.iload 4, 2) := by decide +kernel
theorem dX6_copy_75 : decode cX6_copy 75 = .ok (.isub, 1) := by decide +kernel
theorem dX6_copy_76 : decode cX6_copy 76 = .ok (.if_icmp .le 6, 3) := by decide +kernel
theorem dX6_copy_79 : decode cX6_copy 79 = .ok (.bipush (-13), 2) := by decide +kernel
theorem dX6_copy_81 : decode cX6_copy 81 = .ok (.ireturn, 1) := by decide +kernel
theorem dX6_copy_82 : decode cX6_copy 82 = .ok (.aload_n 0, 1) := by decide +kernel
theorem dX6_copy_83 : decode cX6_copy 83 = .ok (.getfield 39, 3) := by decide +kernel
theorem dX6_copy_86 : decode cX6_copy 86 = .ok (.iload_n 1, 1) := by decide +kernel
theorem dX6_copy_87 : decode cX6_copy 87 = .ok (.aaload, 1) := by decide +kernel
theorem dX6_copy_88 : decode cX6_copy 88 = .ok (.iload_n 2, 1) := by decide +kernel
theorem dX6_copy_89 : decode cX6_copy 89 = .ok (.aload_n 0, 1) := by decide +kernel
theorem dX6_copy_90 : decode cX6_copy 90 = .ok (.getfield 39, 3) := by decide +kernel
theorem dX6_copy_93 : decode cX6_copy 93 = .ok (.iload_n 3, 1) := by decide +kernel
theorem dX6_copy_94 : decode cX6_copy 94 = .ok (.aaload, 1) := by decide +kernel
theorem dX6_copy_95 : decode cX6_copy 95 = .ok (.iload 4, 2) := by decide +kernel
theorem dX6_copy_97 : decode cX6_copy 97 = .ok (.iload 5, 2) := by decide +kernel
theorem dX6_copy_99 : decode cX6_copy 99 = .ok (.invokestatic 220, 3) := by decide +kernel
theorem dX6_copy_102 : decode cX6_copy 102 = .ok (.iload 5, 2) := by decide +kernel
theorem dX6_copy_104 : decode cX6_copy 104 = .ok (.ireturn, 1) := by decide +kernel
theorem dX6_film_0 : decode cX6_film 0 = .ok (.iload_n 1, 1) := by decide +kernel
theorem dX6_film_1 : decode cX6_film 1 = .ok (.invokestatic 212, 3) := by decide +kernel
theorem dX6_film_4 : decode cX6_film 4 = .ok (.ifCond .eq 10, 3) := by decide +kernel
theorem dX6_film_7 : decode cX6_film 7 = .ok (.iload_n 2, 1) := by decide +kernel
theorem dX6_film_8 : decode cX6_film 8 = .ok (.invokestatic 113, 3) := by decide +kernel
theorem dX6_film_11 : decode cX6_film 11 = .ok (.ifCond .ne 5, 3) := by decide +kernel
theorem dX6_film_14 : decode cX6_film 14 = .ok (.iconst (-1), 1) := by decide +kernel
theorem dX6_film_15 : decode cX6_film 15 = .ok (.ireturn, 1) := by decide +kernel
theorem dX6_film_16 : decode cX6_film 16 = .ok (.aload_n 0, 1) := by decide +kernel
theorem dX6_film_17 : decode cX6_film 17 = .ok (.getfield 10, 3) := by decide +kernel
theorem dX6_film_20 : decode cX6_film 20 = .ok (.iload_n 3, 1) := by decide +kernel
theorem dX6_film_21 : decode cX6_film 21 = .ok (.invokevirtual 79, 3) := by decide +kernel
theorem dX6_film_24 : decode cX6_film 24 = .ok (.ifCond .eq 15, 3) := by decide +kernel
theorem dX6_film_27 : decode cX6_film 27 = .ok (.iload 4, 2) := by decide +kernel
theorem dX6_film_29 : decode cX6_film 29 = .ok (.ifCond .lt 10, 3) := by decide +kernel
theorem dX6_film_32 : decode cX6_film 32 = .ok (.iload 4, 2) := by decide +kernel
theorem dX6_film_34 : decode cX6_film 34 = .ok (.bipush 40, 2) := by decide +kernel
theorem dX6_film_36 : decode cX6_film 36 = .ok (.if_icmp .le 6, 3) := by decide +kernel
theorem dX6_film_39 : decode cX6_film 39 = .ok (.bipush (-2), 2) := by decide +kernel
theorem dX6_film_41 : decode cX6_film 41 = .ok (.ireturn, 1) := by decide +kernel
theorem dX6_film_42 : decode cX6_film 42 = .ok (.aload_n 0, 1) := by decide +kernel
theorem dX6_film_43 : decode cX6_film 43 = .ok (.invokevirtual 116, 3) := by decide +kernel
theorem dX6_film_46 : decode cX6_film 46 = .ok (.astore 5, 2) := by decide +kernel
theorem dX6_film_48 : decode cX6_film 48 = .ok (.iload 4, 2) := by decide +kernel
theorem dX6_film_50 : decode cX6_film 50 = .ok (.aload_n 0, 1) := by decide +kernel
theorem dX6_film_51 : decode cX6_film 51 = .ok (.getfield 10, 3) := by decide +kernel
theorem dX6_film_54 : decode cX6_film 54 = .ok (.invokevirtual 154, 3) := by decide +kernel
theorem dX6_film_57 : decode cX6_film 57 = .ok (.iload_n 3, 1) := by decide +kernel
theorem dX6_film_58 : decode cX6_film 58 = .ok (.isub, 1) := by decide +kernel
theorem dX6_film_59 : decode cX6_film 59 = .ok (.iconst 1, 1) := by decide +kernel
theorem dX6_film_60 : decode cX6_film 60 = .ok (.iadd, 1) := by decide +kernel
theorem dX6_film_61 : decode cX6_film 61 = .ok (.invokestatic 226, 3) := by decide +kernel
theorem dX6_film_64 : decode cX6_film 64 = .ok (.istore 6, 2) := by decide +kernel
theorem dX6_film_66 : decode cX6_film 66 = .ok (.iconst 0, 1) := by decide +kernel
theorem dX6_film_67 : decode cX6_film 67 = .ok (.istore 7, 2) := by decide +kernel
theorem dX6_film_69 : decode cX6_film 69 = .ok (.iload 7, 2) := by decide +kernel
theorem dX6_film_71 : decode cX6_film 71 = .ok (.iload 6, 2) := by decide +kernel
theorem dX6_film_73 : decode cX6_film 73 = .ok (.if_icmp .ge 28, 3) := by decide +kernel
theorem dX6_film_76 : decode cX6_film 76 = .ok (.aload_n 0, 1) := by decide +kernel
theorem dX6_film_77 : decode cX6_film 77 = .ok (.getfield 39, 3) := by decide +kernel
theorem dX6_film_80 : decode cX6_film 80 = .ok (.iload_n 1, 1) := by decide +kernel
theorem dX6_film_81 : decode cX6_film 81 = .ok (.aaload, 1) := by decide +kernel
theorem dX6_film_82 : decode cX6_film 82 = .ok (.iload 7, 2) := by decide +kernel
theorem dX6_film_84 : decode cX6_film 84 = .ok (.aload 5, 2) := by decide +kernel
theorem dX6_film_86 : decode cX6_film 86 = .ok (.iload_n 2, 1) := by decide +kernel
theorem dX6_film_87 : decode cX6_film 87 = .ok (.iload_n 3, 1) := by decide +kernel
theorem dX6_film_88 : decode cX6_film 88 = .ok (.iload 7, 2) := by decide +kernel
theorem dX6_film_90 : decode cX6_film 90 = .ok (.iadd, 1) := by decide +kernel
theorem dX6_film_91 : decode cX6_film 91 = .ok (.invokevirtual 120, 3) := by decide +kernel
theorem dX6_film_94 : decode cX6_film 94 = .ok (.iastore, 1) := by decide +kernel
theorem dX6_film_95 : decode cX6_film 95 = .ok (.iinc 7 1, 3) := by decide +kernel
theorem dX6_film_98 : decode cX6_film 98 = .ok (.goto (-29), 3) := by decide +kernel
theorem dX6_film_101 : decode cX6_film 101 = .ok (.aload_n 0, 1) := by decide +kernel
theorem dX6_film_102 : decode cX6_film 102 = .ok (.getfield 42, 3) := by decide +kernel
theorem dX6_film_105 : decode cX6_film 105 = .ok (.iload_n 1, 1) := by decide +kernel
theorem dX6_film_106 : decode cX6_film 106 = .ok (.iload 6, 2) := by decide +kernel
theorem dX6_film_108 : decode cX6_film 108 = .ok (.iastore, 1) := by decide +kernel
theorem dX6_film_109 : decode cX6_film 109 = .ok (.iload 6, 2) := by decide +kernel
theorem dX6_film_111 : decode cX6_film 111 = .ok (.ireturn, 1) := by decide +kernel
theorem dX6_judge_0 : decode cX6_judge 0 = .ok (.iload_n 1, 1) := by decide +kernel
theorem dX6_judge_1 : decode cX6_judge 1 = .ok (.invokestatic 212, 3) := by decide +kernel
theorem dX6_judge_4 : decode cX6_judge 4 = .ok (.ifCond .eq 10, 3) := by decide +kernel
theorem dX6_judge_7 : decode cX6_judge 7 = .ok (.iload_n 2, 1) := by decide +kernel
theorem dX6_judge_8 : decode cX6_judge 8 = .ok (.invokestatic 113, 3) := by decide +kernel
theorem dX6_judge_11 : decode cX6_judge 11 = .ok (.ifCond .ne 5, 3) := by decide +kernel
theorem dX6_judge_14 : decode cX6_judge 14 = .ok (.iconst (-1), 1) := by decide +kernel
theorem dX6_judge_15 : decode cX6_judge 15 = .ok (.ireturn, 1) := by decide +kernel
theorem dX6_judge_16 : decode cX6_judge 16 = .ok (.aload_n 0, 1) := by decide +kernel
theorem dX6_judge_17 : decode cX6_judge 17 = .ok (.getfield 10, 3) := by decide +kernel
theorem dX6_judge_20 : decode cX6_judge 20 = .ok (.iload_n 3, 1) := by decide +kernel
theorem dX6_judge_21 : decode cX6_judge 21 = .ok (.invokevirtual 79, 3) := by decide +kernel
theorem dX6_judge_24 : decode cX6_judge 24 = .ok (.ifCond .ne 6, 3) := by decide +kernel
theorem dX6_judge_27 : decode cX6_judge 27 = .ok (.bipush (-2), 2) := by decide +kernel
theorem dX6_judge_29 : decode cX6_judge 29 = .ok (.ireturn, 1) := by decide +kernel
theorem dX6_judge_30 : decode cX6_judge 30 = .ok (.aload_n 0, 1) := by decide +kernel
theorem dX6_judge_31 : decode cX6_judge 31 = .ok (.iload_n 1, 1) := by decide +kernel
theorem dX6_judge_32 : decode cX6_judge 32 = .ok (.invokevirtual 215, 3) := by decide +kernel
theorem dX6_judge_35 : decode cX6_judge 35 = .ok (.ifCond .ne 6, 3) := by decide +kernel
theorem dX6_judge_38 : decode cX6_judge 38 = .ok (.bipush (-11), 2) := by decide +kernel
theorem dX6_judge_40 : decode cX6_judge 40 = .ok (.ireturn, 1) := by decide +kernel
theorem dX6_judge_41 : decode cX6_judge 41 = .ok (.aload_n 0, 1) := by decide +kernel
theorem dX6_judge_42 : decode cX6_judge 42 = .ok (.invokevirtual 116, 3) := by decide +kernel
theorem dX6_judge_45 : decode cX6_judge 45 = .ok (.astore 4, 2) := by decide +kernel
theorem dX6_judge_47 : decode cX6_judge 47 = .ok (.iconst 0, 1) := by decide +kernel
theorem dX6_judge_48 : decode cX6_judge 48 = .ok (.istore 5, 2) := by decide +kernel
theorem dX6_judge_50 : decode cX6_judge 50 = .ok (.iload 5, 2) := by decide +kernel
theorem dX6_judge_52 : decode cX6_judge 52 = .ok (.aload_n 0, 1) := by decide +kernel
theorem dX6_judge_53 : decode cX6_judge 53 = .ok (.getfield 42, 3) := by decide +kernel
theorem dX6_judge_56 : decode cX6_judge 56 = .ok (.iload_n 1, 1) := by decide +kernel
theorem dX6_judge_57 : decode cX6_judge 57 = .ok (.iaload, 1) := by decide +kernel
theorem dX6_judge_58 : decode cX6_judge 58 = .ok (.if_icmp .ge 48, 3) := by decide +kernel
theorem dX6_judge_61 : decode cX6_judge 61 = .ok (.aload_n 0, 1) := by decide +kernel
theorem dX6_judge_62 : decode cX6_judge 62 = .ok (.getfield 10, 3) := by decide +kernel
theorem dX6_judge_65 : decode cX6_judge 65 = .ok (.iload_n 3, 1) := by decide +kernel
theorem dX6_judge_66 : decode cX6_judge 66 = .ok (.iload 5, 2) := by decide +kernel
theorem dX6_judge_68 : decode cX6_judge 68 = .ok (.iadd, 1) := by decide +kernel
theorem dX6_judge_69 : decode cX6_judge 69 = .ok (.invokevirtual 79, 3) := by decide +kernel
theorem dX6_judge_72 : decode cX6_judge 72 = .ok (.ifCond .eq 25, 3) := by decide +kernel
theorem dX6_judge_75 : decode cX6_judge 75 = .ok (.aload_n 0, 1) := by decide +kernel
theorem dX6_judge_76 : decode cX6_judge 76 = .ok (.getfield 39, 3) := by decide +kernel
theorem dX6_judge_79 : decode cX6_judge 79 = .ok (.iload_n 1, 1) := by decide +kernel
theorem dX6_judge_80 : decode cX6_judge 80 = .ok (.aaload, 1) := by decide +kernel
theorem dX6_judge_81 : decode cX6_judge 81 = .ok (.iload 5, 2) := by decide +kernel
theorem dX6_judge_83 : decode cX6_judge 83 = .ok (.iaload, 1) := by decide +kernel
theorem dX6_judge_84 : decode cX6_judge 84 = .ok (.aload 4, 2) := by decide +kernel
theorem dX6_judge_86 : decode cX6_judge 86 = .ok (.iload_n 2, 1) := by decide +kernel
theorem dX6_judge_87 : decode cX6_judge 87 = .ok (.iload_n 3, 1) := by decide +kernel
theorem dX6_judge_88 : decode cX6_judge 88 = .ok (.iload 5, 2) := by decide +kernel
theorem dX6_judge_90 : decode cX6_judge 90 = .ok (.iadd, 1) := by decide +kernel
theorem dX6_judge_91 : decode cX6_judge 91 = .ok (.invokevirtual 120, 3) := by decide +kernel
theorem dX6_judge_94 : decode cX6_judge 94 = .ok (.if_icmp .eq 6, 3) := by decide +kernel
theorem dX6_judge_97 : decode cX6_judge 97 = .ok (.iload 5, 2) := by decide +kernel
theorem dX6_judge_99 : decode cX6_judge 99 = .ok (.ireturn, 1) := by decide +kernel
theorem dX6_judge_100 : decode cX6_judge 100 = .ok (.iinc 5 1, 3) := by decide +kernel
theorem dX6_judge_103 : decode cX6_judge 103 = .ok (.goto (-53), 3) := by decide +kernel
theorem dX6_judge_106 : decode cX6_judge 106 = .ok (.bipush 100, 2) := by decide +kernel
theorem dX6_judge_108 : decode cX6_judge 108 = .ok (.aload_n 0, 1) := by decide +kernel
theorem dX6_judge_109 : decode cX6_judge 109 = .ok (.getfield 42, 3) := by decide +kernel
theorem dX6_judge_112 : decode cX6_judge 112 = .ok (.iload_n 1, 1) := by decide +kernel
theorem dX6_judge_113 : decode cX6_judge 113 = .ok (.iaload, 1) := by decide +kernel
theorem dX6_judge_114 : decode cX6_judge 114 = .ok (.iadd, 1) := by decide +kernel
theorem dX6_judge_115 : decode cX6_judge 115 = .ok (.ireturn, 1) := by decide +kernel
theorem dX6_feed_0 : decode cX6_feed 0 = .ok (.iload_n 1, 1) := by decide +kernel
theorem dX6_feed_1 : decode cX6_feed 1 = .ok (.bipush 32, 2) := by decide +kernel
theorem dX6_feed_3 : decode cX6_feed 3 = .ok (.if_icmp .lt 9, 3) := by decide +kernel
theorem dX6_feed_6 : decode cX6_feed 6 = .ok (.iload_n 1, 1) := by decide +kernel
theorem dX6_feed_7 : decode cX6_feed 7 = .ok (.bipush 126, 2) := by decide +kernel
theorem dX6_feed_9 : decode cX6_feed 9 = .ok (.if_icmp .le 6, 3) := by decide +kernel
theorem dX6_feed_12 : decode cX6_feed 12 = .ok (.bipush (-2), 2) := by decide +kernel
theorem dX6_feed_14 : decode cX6_feed 14 = .ok (.ireturn, 1) := by decide +kernel
theorem dX6_feed_15 : decode cX6_feed 15 = .ok (.aload_n 0, 1) := by decide +kernel
theorem dX6_feed_16 : decode cX6_feed 16 = .ok (.getfield 49, 3) := by decide +kernel
theorem dX6_feed_19 : decode cX6_feed 19 = .ok (.getfield 231, 3) := by decide +kernel
theorem dX6_feed_22 : decode cX6_feed 22 = .ok (.bipush 120, 2) := by decide +kernel
theorem dX6_feed_24 : decode cX6_feed 24 = .ok (.if_icmp .lt 6, 3) := by decide +kernel
theorem dX6_feed_27 : decode cX6_feed 27 = .ok (.bipush (-4), 2) := by decide +kernel
theorem dX6_feed_29 : decode cX6_feed 29 = .ok (.ireturn, 1) := by decide +kernel
theorem dX6_feed_30 : decode cX6_feed 30 = .ok (.aload_n 0, 1) := by decide +kernel
theorem dX6_feed_31 : decode cX6_feed 31 = .ok (.getfield 49, 3) := by decide +kernel
theorem dX6_feed_34 : decode cX6_feed 34 = .ok (.getfield 234, 3) := by decide +kernel
theorem dX6_feed_37 : decode cX6_feed 37 = .ok (.aload_n 0, 1) := by decide +kernel
theorem dX6_feed_38 : decode cX6_feed 38 = .ok (.getfield 49, 3) := by decide +kernel
theorem dX6_feed_41 : decode cX6_feed 41 = .ok (.getfield 231, 3) := by decide +kernel
theorem dX6_feed_44 : decode cX6_feed 44 = .ok (.iload_n 1, 1) := by decide +kernel
theorem dX6_feed_45 : decode cX6_feed 45 = .ok (.i2c, 1) := by decide +kernel
theorem dX6_feed_46 : decode cX6_feed 46 = .ok (.castore, 1) := by decide +kernel
theorem dX6_feed_47 : decode cX6_feed 47 = .ok (.aload_n 0, 1) := by decide +kernel
theorem dX6_feed_48 : decode cX6_feed 48 = .ok (.getfield 49, 3) := by decide +kernel
theorem dX6_feed_51 : decode cX6_feed 51 = .ok (.dup, 1) := by decide +kernel
theorem dX6_feed_52 : decode cX6_feed 52 = .ok (.getfield 231, 3) := by decide +kernel
theorem dX6_feed_55 : decode cX6_feed 55 = .ok (.iconst 1, 1) := by decide +kernel
theorem dX6_feed_56 : decode cX6_feed 56 = .ok (.iadd, 1) := by decide +kernel
theorem dX6_feed_57 : decode cX6_feed 57 = .ok (.putfield 231, 3) := by decide +kernel
theorem dX6_feed_60 : decode cX6_feed 60 = .ok (.aload_n 0, 1) := by decide +kernel
theorem dX6_feed_61 : decode cX6_feed 61 = .ok (.getfield 49, 3) := by decide +kernel
theorem dX6_feed_64 : decode cX6_feed 64 = .ok (.getfield 231, 3) := by decide +kernel
theorem dX6_feed_67 : decode cX6_feed 67 = .ok (.ireturn, 1) := by decide +kernel
theorem dX6_wipe_0 : decode cX6_wipe 0 = .ok (.aload_n 0, 1) := by decide +kernel
theorem dX6_wipe_1 : decode cX6_wipe 1 = .ok (.getfield 49, 3) := by decide +kernel
theorem dX6_wipe_4 : decode cX6_wipe 4 = .ok (.getfield 231, 3) := by decide +kernel
theorem dX6_wipe_7 : decode cX6_wipe 7 = .ok (.istore_n 1, 1) := by decide +kernel
theorem dX6_wipe_8 : decode cX6_wipe 8 = .ok (.aload_n 0, 1) := by decide +kernel
theorem dX6_wipe_9 : decode cX6_wipe 9 = .ok (.getfield 49, 3) := by decide +kernel
theorem dX6_wipe_12 : decode cX6_wipe 12 = .ok (.iconst 0, 1) := by decide +kernel
theorem dX6_wipe_13 : decode cX6_wipe 13 = .ok (.putfield 231, 3) := by decide +kernel
theorem dX6_wipe_16 : decode cX6_wipe 16 = .ok (.iload_n 1, 1) := by decide +kernel
theorem dX6_wipe_17 : decode cX6_wipe 17 = .ok (.ireturn, 1) := by decide +kernel
theorem dX6_read_0 : decode cX6_read 0 = .ok (.aload_n 0, 1) := by decide +kernel
theorem dX6_read_1 : decode cX6_read 1 = .ok (.getfield 49, 3) := by decide +kernel
theorem dX6_read_4 : decode cX6_read 4 = .ok (.invokevirtual 238, 3) := by decide +kernel
theorem dX6_read_7 : decode cX6_read 7 = .ok (.istore_n 1, 1) := by decide +kernel
theorem dX6_read_8 : decode cX6_read 8 = .ok (.iload_n 1, 1) := by decide +kernel
theorem dX6_read_9 : decode cX6_read 9 = .ok (.iconst (-1), 1) := by decide +kernel
theorem dX6_read_10 : decode cX6_read 10 = .ok (.if_icmp .ne 10, 3) := by decide +kernel
theorem dX6_read_13 : decode cX6_read 13 = .ok (.aload_n 0, 1) := by decide +kernel
theorem dX6_read_14 : decode cX6_read 14 = .ok (.invokevirtual 241, 3) := by decide +kernel
theorem dX6_read_17 : decode cX6_read 17 = .ok (.goto 7, 3) := by decide +kernel
theorem dX6_read_20 : decode cX6_read 20 = .ok (.bipush (-100), 2) := by decide +kernel
theorem dX6_read_22 : decode cX6_read 22 = .ok (.iload_n 1, 1) := by decide +kernel
theorem dX6_read_23 : decode cX6_read 23 = .ok (.isub, 1) := by decide +kernel
theorem dX6_read_24 : decode cX6_read 24 = .ok (.istore_n 2, 1) := by decide +kernel
theorem dX6_read_25 : decode cX6_read 25 = .ok (.aload_n 0, 1) := by decide +kernel
theorem dX6_read_26 : decode cX6_read 26 = .ok (.getfield 49, 3) := by decide +kernel
theorem dX6_read_29 : decode cX6_read 29 = .ok (.iconst 0, 1) := by decide +kernel
theorem dX6_read_30 : decode cX6_read 30 = .ok (.putfield 231, 3) := by decide +kernel
theorem dX6_read_33 : decode cX6_read 33 = .ok (.iload_n 2, 1) := by decide +kernel
theorem dX6_read_34 : decode cX6_read 34 = .ok (.ireturn, 1) := by decide +kernel
theorem dX6_spelled_0 : decode cX6_spelled 0 = .ok (.aload_n 0, 1) := by decide +kernel
theorem dX6_spelled_1 : decode cX6_spelled 1 = .ok (.getfield 56, 3) := by decide +kernel
theorem dX6_spelled_4 : decode cX6_spelled 4 = .ok (.aload_n 0, 1) := by decide +kernel
theorem dX6_spelled_5 : decode cX6_spelled 5 = .ok (.getfield 10, 3) := by decide +kernel
theorem dX6_spelled_8 : decode cX6_spelled 8 = .ok (.invokevirtual 244, 3) := by decide +kernel
theorem dX6_spelled_11 : decode cX6_spelled 11 = .ok (.iload_n 1, 1) := by decide +kernel
theorem dX6_spelled_12 : decode cX6_spelled 12 = .ok (.iconst (-1), 1) := by decide +kernel
theorem dX6_spelled_13 : decode cX6_spelled 13 = .ok (.if_icmp .ne 11, 3) := by decide +kernel
theorem dX6_spelled_16 : decode cX6_spelled 16 = .ok (.aload_n 0, 1) := by decide +kernel
theorem dX6_spelled_17 : decode cX6_spelled 17 = .ok (.getfield 56, 3) := by decide +kernel
theorem dX6_spelled_20 : decode cX6_spelled 20 = .ok (.getfield 248, 3) := by decide +kernel
theorem dX6_spelled_23 : decode cX6_spelled 23 = .ok (.ireturn, 1) := by decide +kernel
theorem dX6_spelled_24 : decode cX6_spelled 24 = .ok (.iload_n 1, 1) := by decide +kernel
theorem dX6_spelled_25 : decode cX6_spelled 25 = .ok (.ifCond .lt 14, 3) := by decide +kernel
theorem dX6_spelled_28 : decode cX6_spelled 28 = .ok (.iload_n 1, 1) := by decide +kernel
theorem dX6_spelled_29 : decode cX6_spelled 29 = .ok (.aload_n 0, 1) := by decide +kernel
theorem dX6_spelled_30 : decode cX6_spelled 30 = .ok (.getfield 56, 3) := by decide +kernel
theorem dX6_spelled_33 : decode cX6_spelled 33 = .ok (.getfield 248, 3) := by decide +kernel
theorem dX6_spelled_36 : decode cX6_spelled 36 = .ok (.if_icmp .lt 5, 3) := by decide +kernel
theorem dX6_spelled_39 : decode cX6_spelled 39 = .ok (.iconst (-1), 1) := by decide +kernel
theorem dX6_spelled_40 : decode cX6_spelled 40 = .ok (.ireturn, 1) := by decide +kernel
theorem dX6_spelled_41 : decode cX6_spelled 41 = .ok (.aload_n 0, 1) := by decide +kernel
theorem dX6_spelled_42 : decode cX6_spelled 42 = .ok (.getfield 56, 3) := by decide +kernel
theorem dX6_spelled_45 : decode cX6_spelled 45 = .ok (.getfield 249, 3) := by decide +kernel
theorem dX6_spelled_48 : decode cX6_spelled 48 = .ok (.iload_n 1, 1) := by decide +kernel
theorem dX6_spelled_49 : decode cX6_spelled 49 = .ok (.caload, 1) := by decide +kernel
theorem dX6_spelled_50 : decode cX6_spelled 50 = .ok (.ireturn, 1) := by decide +kernel
theorem dX6_image_0 : decode cX6_image 0 = .ok (.aload_n 0, 1) := by decide +kernel
theorem dX6_image_1 : decode cX6_image 1 = .ok (.getfield 16, 3) := by decide +kernel
theorem dX6_image_4 : decode cX6_image 4 = .ok (.aload_n 0, 1) := by decide +kernel
theorem dX6_image_5 : decode cX6_image 5 = .ok (.getfield 10, 3) := by decide +kernel
theorem dX6_image_8 : decode cX6_image 8 = .ok (.invokevirtual 252, 3) := by decide +kernel
theorem dX6_image_11 : decode cX6_image 11 = .ok (.aload_n 0, 1) := by decide +kernel
theorem dX6_image_12 : decode cX6_image 12 = .ok (.iconst 1, 1) := by decide +kernel
theorem dX6_image_13 : decode cX6_image 13 = .ok (.putfield 19, 3) := by decide +kernel
theorem dX6_image_16 : decode cX6_image 16 = .ok (.aload_n 0, 1) := by decide +kernel
theorem dX6_image_17 : decode cX6_image 17 = .ok (.getfield 10, 3) := by decide +kernel
theorem dX6_image_20 : decode cX6_image 20 = .ok (.getfield 60, 3) := by decide +kernel
theorem dX6_image_23 : decode cX6_image 23 = .ok (.ireturn, 1) := by decide +kernel
theorem dX6_undo_0 : decode cX6_undo 0 = .ok (.aload_n 0, 1) := by decide +kernel
theorem dX6_undo_1 : decode cX6_undo 1 = .ok (.getfield 19, 3) := by decide +kernel
theorem dX6_undo_4 : decode cX6_undo 4 = .ok (.ifCond .ne 6, 3) := by decide +kernel
theorem dX6_undo_7 : decode cX6_undo 7 = .ok (.bipush (-3), 2) := by decide +kernel
theorem dX6_undo_9 : decode cX6_undo 9 = .ok (.ireturn, 1) := by decide +kernel
theorem dX6_undo_10 : decode cX6_undo 10 = .ok (.aload_n 0, 1) := by decide +kernel
theorem dX6_undo_11 : decode cX6_undo 11 = .ok (.getfield 10, 3) := by decide +kernel
theorem dX6_undo_14 : decode cX6_undo 14 = .ok (.aload_n 0, 1) := by decide +kernel
theorem dX6_undo_15 : decode cX6_undo 15 = .ok (.getfield 16, 3) := by decide +kernel
theorem dX6_undo_18 : decode cX6_undo 18 = .ok (.invokevirtual 252, 3) := by decide +kernel
theorem dX6_undo_21 : decode cX6_undo 21 = .ok (.aload_n 0, 1) := by decide +kernel
theorem dX6_undo_22 : decode cX6_undo 22 = .ok (.getfield 10, 3) := by decide +kernel
theorem dX6_undo_25 : decode cX6_undo 25 = .ok (.getfield 60, 3) := by decide +kernel
theorem dX6_undo_28 : decode cX6_undo 28 = .ok (.ireturn, 1) := by decide +kernel
theorem dX6_count_0 : decode cX6_count 0 = .ok (.iload_n 1, 1) := by decide +kernel
theorem dX6_count_1 : decode cX6_count 1 = .ok (.tableswitch 103 0 6 #[43, 51, 59, 67, 75, 83, 88], 43) := by decide +kernel
theorem dX6_count_44 : decode cX6_count 44 = .ok (.aload_n 0, 1) := by decide +kernel
theorem dX6_count_45 : decode cX6_count 45 = .ok (.getfield 10, 3) := by decide +kernel
theorem dX6_count_48 : decode cX6_count 48 = .ok (.getfield 60, 3) := by decide +kernel
theorem dX6_count_51 : decode cX6_count 51 = .ok (.ireturn, 1) := by decide +kernel
theorem dX6_count_52 : decode cX6_count 52 = .ok (.aload_n 0, 1) := by decide +kernel
theorem dX6_count_53 : decode cX6_count 53 = .ok (.getfield 10, 3) := by decide +kernel
theorem dX6_count_56 : decode cX6_count 56 = .ok (.invokevirtual 199, 3) := by decide +kernel
theorem dX6_count_59 : decode cX6_count 59 = .ok (.ireturn, 1) := by decide +kernel
theorem dX6_count_60 : decode cX6_count 60 = .ok (.aload_n 0, 1) := by decide +kernel
theorem dX6_count_61 : decode cX6_count 61 = .ok (.getfield 10, 3) := by decide +kernel
theorem dX6_count_64 : decode cX6_count 64 = .ok (.getfield 82, 3) := by decide +kernel
theorem dX6_count_67 : decode cX6_count 67 = .ok (.ireturn, 1) := by decide +kernel
theorem dX6_count_68 : decode cX6_count 68 = .ok (.aload_n 0, 1) := by decide +kernel
theorem dX6_count_69 : decode cX6_count 69 = .ok (.getfield 10, 3) := by decide +kernel
theorem dX6_count_72 : decode cX6_count 72 = .ok (.getfield 95, 3) := by decide +kernel
theorem dX6_count_75 : decode cX6_count 75 = .ok (.ireturn, 1) := by decide +kernel
theorem dX6_count_76 : decode cX6_count 76 = .ok (.aload_n 0, 1) := by decide +kernel
theorem dX6_count_77 : decode cX6_count 77 = .ok (.getfield 49, 3) := by decide +kernel
theorem dX6_count_80 : decode cX6_count 80 = .ok (.getfield 231, 3) := by decide +kernel
theorem dX6_count_83 : decode cX6_count 83 = .ok (.ireturn, 1) := by decide +kernel
theorem dX6_count_84 : decode cX6_count 84 = .ok (.aload_n 0, 1) := by decide +kernel
theorem dX6_count_85 : decode cX6_count 85 = .ok (.invokevirtual 255, 3) := by decide +kernel
theorem dX6_count_88 : decode cX6_count 88 = .ok (.ireturn, 1) := by decide +kernel
theorem dX6_count_89 : decode cX6_count 89 = .ok (.aload_n 0, 1) := by decide +kernel
theorem dX6_count_90 : decode cX6_count 90 = .ok (.getfield 10, 3) := by decide +kernel
theorem dX6_count_93 : decode cX6_count 93 = .ok (.aload_n 0, 1) := by decide +kernel
theorem dX6_count_94 : decode cX6_count 94 = .ok (.getfield 10, 3) := by decide +kernel
theorem dX6_count_97 : decode cX6_count 97 = .ok (.invokevirtual 154, 3) := by decide +kernel
theorem dX6_count_100 : decode cX6_count 100 = .ok (.invokevirtual 161, 3) := by decide +kernel
theorem dX6_count_103 : decode cX6_count 103 = .ok (.ireturn, 1) := by decide +kernel
theorem dX6_count_104 : decode cX6_count 104 = .ok (.iconst (-1), 1) := by decide +kernel
theorem dX6_count_105 : decode cX6_count 105 = .ok (.ireturn, 1) := by decide +kernel
theorem dX6_has_0 : decode cX6_has 0 = .ok (.iload_n 0, 1) := by decide +kernel
theorem dX6_has_1 : decode cX6_has 1 = .ok (.iload_n 1, 1) := by decide +kernel
theorem dX6_has_2 : decode cX6_has 2 = .ok (.ishr, 1) := by decide +kernel
theorem dX6_has_3 : decode cX6_has 3 = .ok (.iconst 1, 1) := by decide +kernel
theorem dX6_has_4 : decode cX6_has 4 = .ok (.iand, 1) := by decide +kernel
theorem dX6_has_5 : decode cX6_has 5 = .ok (.iconst 1, 1) := by decide +kernel
theorem dX6_has_6 : decode cX6_has 6 = .ok (.if_icmp .ne 7, 3) := by decide +kernel
theorem dX6_has_9 : decode cX6_has 9 = .ok (.iconst 1, 1) := by decide +kernel
theorem dX6_has_10 : decode cX6_has 10 = .ok (.goto 4, 3) := by decide +kernel
theorem dX6_has_13 : decode cX6_has 13 = .ok (.iconst 0, 1) := by decide +kernel
theorem dX6_has_14 : decode cX6_has 14 = .ok (.ireturn, 1) := by decide +kernel
theorem dX6_isSide_0 : decode cX6_isSide 0 = .ok (.iload_n 0, 1) := by decide +kernel
theorem dX6_isSide_1 : decode cX6_isSide 1 = .ok (.ifCond .lt 12, 3) := by decide +kernel
theorem dX6_isSide_4 : decode cX6_isSide 4 = .ok (.iload_n 0, 1) := by decide +kernel
theorem dX6_isSide_5 : decode cX6_isSide 5 = .ok (.iconst 4, 1) := by decide +kernel
theorem dX6_isSide_6 : decode cX6_isSide 6 = .ok (.if_icmp .ge 7, 3) := by decide +kernel
theorem dX6_isSide_9 : decode cX6_isSide 9 = .ok (.iconst 1, 1) := by decide +kernel
theorem dX6_isSide_10 : decode cX6_isSide 10 = .ok (.goto 4, 3) := by decide +kernel
theorem dX6_isSide_13 : decode cX6_isSide 13 = .ok (.iconst 0, 1) := by decide +kernel
theorem dX6_isSide_14 : decode cX6_isSide 14 = .ok (.ireturn, 1) := by decide +kernel
theorem dX6_isEither_0 : decode cX6_isEither 0 = .ok (.iload_n 0, 1) := by decide +kernel
theorem dX6_isEither_1 : decode cX6_isEither 1 = .ok (.ifCond .eq 8, 3) := by decide +kernel
theorem dX6_isEither_4 : decode cX6_isEither 4 = .ok (.iload_n 0, 1) := by decide +kernel
theorem dX6_isEither_5 : decode cX6_isEither 5 = .ok (.iconst 1, 1) := by decide +kernel
theorem dX6_isEither_6 : decode cX6_isEither 6 = .ok (.if_icmp .ne 7, 3) := by decide +kernel
theorem dX6_isEither_9 : decode cX6_isEither 9 = .ok (.iconst 1, 1) := by decide +kernel
theorem dX6_isEither_10 : decode cX6_isEither 10 = .ok (.goto 4, 3) := by decide +kernel
theorem dX6_isEither_13 : decode cX6_isEither 13 = .ok (.iconst 0, 1) := by decide +kernel
theorem dX6_isEither_14 : decode cX6_isEither 14 = .ok (.ireturn, 1) := by decide +kernel
theorem dX6_isRow_0 : decode cX6_isRow 0 = .ok (.iload_n 0, 1) := by decide +kernel
theorem dX6_isRow_1 : decode cX6_isRow 1 = .ok (.ifCond .lt 12, 3) := by decide +kernel
theorem dX6_isRow_4 : decode cX6_isRow 4 = .ok (.iload_n 0, 1) := by decide +kernel
theorem dX6_isRow_5 : decode cX6_isRow 5 = .ok (.iconst 3, 1) := by decide +kernel
theorem dX6_isRow_6 : decode cX6_isRow 6 = .ok (.if_icmp .ge 7, 3) := by decide +kernel
theorem dX6_isRow_9 : decode cX6_isRow 9 = .ok (.iconst 1, 1) := by decide +kernel
theorem dX6_isRow_10 : decode cX6_isRow 10 = .ok (.goto 4, 3) := by decide +kernel
theorem dX6_isRow_13 : decode cX6_isRow 13 = .ok (.iconst 0, 1) := by decide +kernel
theorem dX6_isRow_14 : decode cX6_isRow 14 = .ok (.ireturn, 1) := by decide +kernel
theorem dX6_isThere_0 : decode cX6_isThere 0 = .ok (.aload_n 0, 1) := by decide +kernel
theorem dX6_isThere_1 : decode cX6_isThere 1 = .ok (.getfield 42, 3) := by decide +kernel
theorem dX6_isThere_4 : decode cX6_isThere 4 = .ok (.iload_n 1, 1) := by decide +kernel
theorem dX6_isThere_5 : decode cX6_isThere 5 = .ok (.iaload, 1) := by decide +kernel
theorem dX6_isThere_6 : decode cX6_isThere 6 = .ok (.iconst (-1), 1) := by decide +kernel
theorem dX6_isThere_7 : decode cX6_isThere 7 = .ok (.if_icmp .eq 7, 3) := by decide +kernel
theorem dX6_isThere_10 : decode cX6_isThere 10 = .ok (.iconst 1, 1) := by decide +kernel
theorem dX6_isThere_11 : decode cX6_isThere 11 = .ok (.goto 4, 3) := by decide +kernel
theorem dX6_isThere_14 : decode cX6_isThere 14 = .ok (.iconst 0, 1) := by decide +kernel
theorem dX6_isThere_15 : decode cX6_isThere 15 = .ok (.ireturn, 1) := by decide +kernel
theorem dX6_countRows_0 : decode cX6_countRows 0 = .ok (.iconst 0, 1) := by decide +kernel
theorem dX6_countRows_1 : decode cX6_countRows 1 = .ok (.istore_n 1, 1) := by decide +kernel
theorem dX6_countRows_2 : decode cX6_countRows 2 = .ok (.iconst 0, 1) := by decide +kernel
theorem dX6_countRows_3 : decode cX6_countRows 3 = .ok (.istore_n 2, 1) := by decide +kernel
theorem dX6_countRows_4 : decode cX6_countRows 4 = .ok (.iload_n 2, 1) := by decide +kernel
theorem dX6_countRows_5 : decode cX6_countRows 5 = .ok (.iconst 3, 1) := by decide +kernel
theorem dX6_countRows_6 : decode cX6_countRows 6 = .ok (.if_icmp .ge 20, 3) := by decide +kernel
theorem dX6_countRows_9 : decode cX6_countRows 9 = .ok (.aload_n 0, 1) := by decide +kernel
theorem dX6_countRows_10 : decode cX6_countRows 10 = .ok (.iload_n 2, 1) := by decide +kernel
theorem dX6_countRows_11 : decode cX6_countRows 11 = .ok (.invokevirtual 215, 3) := by decide +kernel
theorem dX6_countRows_14 : decode cX6_countRows 14 = .ok (.ifCond .eq 6, 3) := by decide +kernel
theorem dX6_countRows_17 : decode cX6_countRows 17 = .ok (.iinc 1 1, 3) := by decide +kernel
theorem dX6_countRows_20 : decode cX6_countRows 20 = .ok (.iinc 2 1, 3) := by decide +kernel
theorem dX6_countRows_23 : decode cX6_countRows 23 = .ok (.goto (-19), 3) := by decide +kernel
theorem dX6_countRows_26 : decode cX6_countRows 26 = .ok (.iload_n 1, 1) := by decide +kernel
theorem dX6_countRows_27 : decode cX6_countRows 27 = .ok (.ireturn, 1) := by decide +kernel
theorem dX6_freshRanks_0 : decode cX6_freshRanks 0 = .ok (.aload_n 0, 1) := by decide +kernel
theorem dX6_freshRanks_1 : decode cX6_freshRanks 1 = .ok (.getfield 26, 3) := by decide +kernel
theorem dX6_freshRanks_4 : decode cX6_freshRanks 4 = .ok (.aload_n 0, 1) := by decide +kernel
theorem dX6_freshRanks_5 : decode cX6_freshRanks 5 = .ok (.getfield 10, 3) := by decide +kernel
theorem dX6_freshRanks_8 : decode cX6_freshRanks 8 = .ok (.invokevirtual 258, 3) := by decide +kernel
theorem dX6_freshRanks_11 : decode cX6_freshRanks 11 = .ok (.aload_n 0, 1) := by decide +kernel
theorem dX6_freshRanks_12 : decode cX6_freshRanks 12 = .ok (.getfield 26, 3) := by decide +kernel
theorem dX6_freshRanks_15 : decode cX6_freshRanks 15 = .ok (.areturn, 1) := by decide +kernel
theorem dX6_listed_0 : decode cX6_listed 0 = .ok (.iload_n 2, 1) := by decide +kernel
theorem dX6_listed_1 : decode cX6_listed 1 = .ok (.invokestatic 113, 3) := by decide +kernel
theorem dX6_listed_4 : decode cX6_listed 4 = .ok (.ifCond .eq 8, 3) := by decide +kernel
theorem dX6_listed_7 : decode cX6_listed 7 = .ok (.iload_n 3, 1) := by decide +kernel
theorem dX6_listed_8 : decode cX6_listed 8 = .ok (.iconst (-1), 1) := by decide +kernel
theorem dX6_listed_9 : decode cX6_listed 9 = .ok (.if_icmp .ge 5, 3) := by decide +kernel
theorem dX6_listed_12 : decode cX6_listed 12 = .ok (.iconst (-1), 1) := by decide +kernel
theorem dX6_listed_13 : decode cX6_listed 13 = .ok (.ireturn, 1) := by decide +kernel
theorem dX6_listed_14 : decode cX6_listed 14 = .ok (.aload_n 0, 1) := by decide +kernel
theorem dX6_listed_15 : decode cX6_listed 15 = .ok (.invokevirtual 116, 3) := by decide +kernel
theorem dX6_listed_18 : decode cX6_listed 18 = .ok (.astore 4, 2) := by decide +kernel
theorem dX6_listed_20 : decode cX6_listed 20 = .ok (.aload_n 0, 1) := by decide +kernel
theorem dX6_listed_21 : decode cX6_listed 21 = .ok (.getfield 10, 3) := by decide +kernel
theorem dX6_listed_24 : decode cX6_listed 24 = .ok (.invokevirtual 154, 3) := by decide +kernel
theorem dX6_listed_27 : decode cX6_listed 27 = .ok (.istore 5, 2) := by decide +kernel
theorem dX6_listed_29 : decode cX6_listed 29 = .ok (.iconst 0, 1) := by decide +kernel
theorem dX6_listed_30 : decode cX6_listed 30 = .ok (.istore 6, 2) := by decide +kernel
theorem dX6_listed_32 : decode cX6_listed 32 = .ok (.iconst 0, 1) := by decide +kernel
theorem dX6_listed_33 : decode cX6_listed 33 = .ok (.istore 7, 2) := by decide +kernel
theorem dX6_listed_35 : decode cX6_listed 35 = .ok (.iload 7, 2) := by decide +kernel
theorem dX6_listed_37 : decode cX6_listed 37 = .ok (.iload 5, 2) := by decide +kernel
theorem dX6_listed_39 : decode cX6_listed 39 = .ok (.if_icmp .gt 36, 3) := by decide +kernel
theorem dX6_listed_42 : decode cX6_listed 42 = .ok (.aload 4, 2) := by decide +kernel
theorem dX6_listed_44 : decode cX6_listed 44 = .ok (.iload_n 1, 1) := by decide +kernel
theorem dX6_listed_45 : decode cX6_listed 45 = .ok (.iload_n 2, 1) := by decide +kernel
theorem dX6_listed_46 : decode cX6_listed 46 = .ok (.iload 7, 2) := by decide +kernel
theorem dX6_listed_48 : decode cX6_listed 48 = .ok (.invokevirtual 261, 3) := by decide +kernel
theorem dX6_listed_51 : decode cX6_listed 51 = .ok (.ifCond .ne 6, 3) := by decide +kernel
theorem dX6_listed_54 : decode cX6_listed 54 = .ok (.goto 15, 3) := by decide +kernel
theorem dX6_listed_57 : decode cX6_listed 57 = .ok (.iload 6, 2) := by decide +kernel
theorem dX6_listed_59 : decode cX6_listed 59 = .ok (.iload_n 3, 1) := by decide +kernel
theorem dX6_listed_60 : decode cX6_listed 60 = .ok (.if_icmp .ne 6, 3) := by decide +kernel
theorem dX6_listed_63 : decode cX6_listed 63 = .ok (.iload 7, 2) := by decide +kernel
theorem dX6_listed_65 : decode cX6_listed 65 = .ok (.ireturn, 1) := by decide +kernel
theorem dX6_listed_66 : decode cX6_listed 66 = .ok (.iinc 6 1, 3) := by decide +kernel
theorem dX6_listed_69 : decode cX6_listed 69 = .ok (.iinc 7 1, 3) := by decide +kernel
theorem dX6_listed_72 : decode cX6_listed 72 = .ok (.goto (-37), 3) := by decide +kernel
theorem dX6_listed_75 : decode cX6_listed 75 = .ok (.iload_n 3, 1) := by decide +kernel
theorem dX6_listed_76 : decode cX6_listed 76 = .ok (.iconst (-1), 1) := by decide +kernel
theorem dX6_listed_77 : decode cX6_listed 77 = .ok (.if_icmp .ne 8, 3) := by decide +kernel
theorem dX6_listed_80 : decode cX6_listed 80 = .ok (.iload 6, 2) := by decide +kernel
theorem dX6_listed_82 : decode cX6_listed 82 = .ok (.goto 4, 3) := by decide +kernel
theorem dX6_listed_85 : decode cX6_listed 85 = .ok (.iconst (-1), 1) := by decide +kernel
theorem dX6_listed_86 : decode cX6_listed 86 = .ok (.ireturn, 1) := by decide +kernel
theorem dX6_likewise_0 : decode cX6_likewise 0 = .ok (.aload_n 0, 1) := by decide +kernel
theorem dX6_likewise_1 : decode cX6_likewise 1 = .ok (.invokevirtual 116, 3) := by decide +kernel
theorem dX6_likewise_4 : decode cX6_likewise 4 = .ok (.astore_n 3, 1) := by decide +kernel
theorem dX6_likewise_5 : decode cX6_likewise 5 = .ok (.aload_n 0, 1) := by decide +kernel
theorem dX6_likewise_6 : decode cX6_likewise 6 = .ok (.getfield 10, 3) := by decide +kernel
theorem dX6_likewise_9 : decode cX6_likewise 9 = .ok (.getfield 104, 3) := by decide +kernel
theorem dX6_likewise_12 : decode cX6_likewise 12 = .ok (.iload_n 1, 1) := by decide +kernel
theorem dX6_likewise_13 : decode cX6_likewise 13 = .ok (.iaload, 1) := by decide +kernel
theorem dX6_likewise_14 : decode cX6_likewise 14 = .ok (.istore 4, 2) := by decide +kernel
theorem dX6_likewise_16 : decode cX6_likewise 16 = .ok (.iconst 0, 1) := by decide +kernel
theorem dX6_likewise_17 : decode cX6_likewise 17 = .ok (.istore 5, 2) := by decide +kernel
theorem dX6_likewise_19 : decode cX6_likewise 19 = .ok (.iconst 0, 1) := by decide +kernel
theorem dX6_likewise_20 : decode cX6_likewise 20 = .ok (.istore 6, 2) := by decide +kernel
theorem dX6_likewise_22 : decode cX6_likewise 22 = .ok (.iload 6, 2) := by decide +kernel
theorem dX6_likewise_24 : decode cX6_likewise 24 = .ok (.aload_n 0, 1) := by decide +kernel
theorem dX6_likewise_25 : decode cX6_likewise 25 = .ok (.getfield 10, 3) := by decide +kernel
theorem dX6_likewise_28 : decode cX6_likewise 28 = .ok (.getfield 60, 3) := by decide +kernel
theorem dX6_likewise_31 : decode cX6_likewise 31 = .ok (.if_icmp .ge 46, 3) := by decide +kernel
theorem dX6_likewise_34 : decode cX6_likewise 34 = .ok (.iload_n 2, 1) := by decide +kernel
theorem dX6_likewise_35 : decode cX6_likewise 35 = .ok (.iload 6, 2) := by decide +kernel
theorem dX6_likewise_37 : decode cX6_likewise 37 = .ok (.invokestatic 145, 3) := by decide +kernel
theorem dX6_likewise_40 : decode cX6_likewise 40 = .ok (.ifCond .eq 31, 3) := by decide +kernel
theorem dX6_likewise_43 : decode cX6_likewise 43 = .ok (.aload_n 3, 1) := by decide +kernel
theorem dX6_likewise_44 : decode cX6_likewise 44 = .ok (.aload_n 0, 1) := by decide +kernel
theorem dX6_likewise_45 : decode cX6_likewise 45 = .ok (.getfield 10, 3) := by decide +kernel
theorem dX6_likewise_48 : decode cX6_likewise 48 = .ok (.iload_n 1, 1) := by decide +kernel
theorem dX6_likewise_49 : decode cX6_likewise 49 = .ok (.iload 4, 2) := by decide +kernel
theorem dX6_likewise_51 : decode cX6_likewise 51 = .ok (.iconst 1, 1) := by decide +kernel
theorem dX6_likewise_52 : decode cX6_likewise 52 = .ok (.iload 6, 2) := by decide +kernel
theorem dX6_likewise_54 : decode cX6_likewise 54 = .ok (.ishl, 1) := by decide +kernel
theorem dX6_likewise_55 : decode cX6_likewise 55 = .ok (.ixor, 1) := by decide +kernel
theorem dX6_likewise_56 : decode cX6_likewise 56 = .ok (.invokevirtual 205, 3) := by decide +kernel
theorem dX6_likewise_59 : decode cX6_likewise 59 = .ok (.ifCond .eq 12, 3) := by decide +kernel
theorem dX6_likewise_62 : decode cX6_likewise 62 = .ok (.iload 5, 2) := by decide +kernel
theorem dX6_likewise_64 : decode cX6_likewise 64 = .ok (.iconst 1, 1) := by decide +kernel
theorem dX6_likewise_65 : decode cX6_likewise 65 = .ok (.iload 6, 2) := by decide +kernel
theorem dX6_likewise_67 : decode cX6_likewise 67 = .ok (.ishl, 1) := by decide +kernel
theorem dX6_likewise_68 : decode cX6_likewise 68 = .ok (.ior, 1) := by decide +kernel
theorem dX6_likewise_69 : decode cX6_likewise 69 = .ok (.istore 5, 2) := by decide +kernel
theorem dX6_likewise_71 : decode cX6_likewise 71 = .ok (.iinc 6 1, 3) := by decide +kernel
theorem dX6_likewise_74 : decode cX6_likewise 74 = .ok (.goto (-52), 3) := by decide +kernel
theorem dX6_likewise_77 : decode cX6_likewise 77 = .ok (.iload 5, 2) := by decide +kernel
theorem dX6_likewise_79 : decode cX6_likewise 79 = .ok (.ireturn, 1) := by decide +kernel
theorem dX6_doStatements_0 : decode cX6_doStatements 0 = .ok (.aload_n 0, 1) := by decide +kernel
theorem dX6_doStatements_1 : decode cX6_doStatements 1 = .ok (.getfield 49, 3) := by decide +kernel
theorem dX6_doStatements_4 : decode cX6_doStatements 4 = .ok (.invokevirtual 265, 3) := by decide +kernel
theorem dX6_doStatements_7 : decode cX6_doStatements 7 = .ok (.iconst 0, 1) := by decide +kernel
theorem dX6_doStatements_8 : decode cX6_doStatements 8 = .ok (.istore_n 1, 1) := by decide +kernel
theorem dX6_doStatements_9 : decode cX6_doStatements 9 = .ok (.iconst 1, 1) := by decide +kernel
theorem dX6_doStatements_10 : decode cX6_doStatements 10 = .ok (.istore_n 2, 1) := by decide +kernel
theorem dX6_doStatements_11 : decode cX6_doStatements 11 = .ok (.iconst 0, 1) := by decide +kernel
theorem dX6_doStatements_12 : decode cX6_doStatements 12 = .ok (.istore_n 3, 1) := by decide +kernel
theorem dX6_doStatements_13 : decode cX6_doStatements 13 = .ok (.iload_n 2, 1) := by decide +kernel
theorem dX6_doStatements_14 : decode cX6_doStatements 14 = .ok (.ifCond .eq 51, 3) := by decide +kernel
theorem dX6_doStatements_17 : decode cX6_doStatements 17 = .ok (.iload_n 3, 1) := by decide +kernel
theorem dX6_doStatements_18 : decode cX6_doStatements 18 = .ok (.aload_n 0, 1) := by decide +kernel
theorem dX6_doStatements_19 : decode cX6_doStatements 19 = .ok (.getfield 49, 3) := by decide +kernel
theorem dX6_doStatements_22 : decode cX6_doStatements 22 = .ok (.getfield 231, 3) := by decide +kernel
theorem dX6_doStatements_25 : decode cX6_doStatements 25 = .ok (.if_icmp .gt 40, 3) := by decide +kernel
theorem dX6_doStatements_28 : decode cX6_doStatements 28 = .ok (.aload_n 0, 1) := by decide +kernel
theorem dX6_doStatements_29 : decode cX6_doStatements 29 = .ok (.getfield 49, 3) := by decide +kernel
theorem dX6_doStatements_32 : decode cX6_doStatements 32 = .ok (.invokevirtual 268, 3) := by decide +kernel
theorem dX6_doStatements_35 : decode cX6_doStatements 35 = .ok (.aload_n 0, 1) := by decide +kernel
theorem dX6_doStatements_36 : decode cX6_doStatements 36 = .ok (.invokevirtual 271, 3) := by decide +kernel
theorem dX6_doStatements_39 : decode cX6_doStatements 39 = .ok (.ifCond .ne 9, 3) := by decide +kernel
theorem dX6_doStatements_42 : decode cX6_doStatements 42 = .ok (.sipush (-300), 3) := by decide +kernel
theorem dX6_doStatements_45 : decode cX6_doStatements 45 = .ok (.iload_n 1, 1) := by decide +kernel
theorem dX6_doStatements_46 : decode cX6_doStatements 46 = .ok (.isub, 1) := by decide +kernel
theorem dX6_doStatements_47 : decode cX6_doStatements 47 = .ok (.ireturn, 1) := by decide +kernel
theorem dX6_doStatements_48 : decode cX6_doStatements 48 = .ok (.iinc 1 1, 3) := by decide +kernel
theorem dX6_doStatements_51 : decode cX6_doStatements 51 = .ok (.aload_n 0, 1) := by decide +kernel
theorem dX6_doStatements_52 : decode cX6_doStatements 52 = .ok (.getfield 49, 3) := by decide +kernel
theorem dX6_doStatements_55 : decode cX6_doStatements 55 = .ok (.invokevirtual 275, 3) := by decide +kernel
theorem dX6_doStatements_58 : decode cX6_doStatements 58 = .ok (.istore_n 2, 1) := by decide +kernel
theorem dX6_doStatements_59 : decode cX6_doStatements 59 = .ok (.iinc 3 1, 3) := by decide +kernel
theorem dX6_doStatements_62 : decode cX6_doStatements 62 = .ok (.goto (-49), 3) := by decide +kernel
theorem dX6_doStatements_65 : decode cX6_doStatements 65 = .ok (.iload_n 1, 1) := by decide +kernel
theorem dX6_doStatements_66 : decode cX6_doStatements 66 = .ok (.ireturn, 1) := by decide +kernel
theorem dX6_isDone_0 : decode cX6_isDone 0 = .ok (.aload_n 0, 1) := by decide +kernel
theorem dX6_isDone_1 : decode cX6_isDone 1 = .ok (.getfield 49, 3) := by decide +kernel
theorem dX6_isDone_4 : decode cX6_isDone 4 = .ok (.getfield 278, 3) := by decide +kernel
theorem dX6_isDone_7 : decode cX6_isDone 7 = .ok (.tableswitch 207 1 6 #[37, 57, 85, 113, 160, 180], 37) := by decide +kernel
theorem dX6_isDone_44 : decode cX6_isDone 44 = .ok (.aload_n 0, 1) := by decide +kernel
theorem dX6_isDone_45 : decode cX6_isDone 45 = .ok (.aload_n 0, 1) := by decide +kernel
theorem dX6_isDone_46 : decode cX6_isDone 46 = .ok (.getfield 49, 3) := by decide +kernel
theorem dX6_isDone_49 : decode cX6_isDone 49 = .ok (.getfield 281, 3) := by decide +kernel
theorem dX6_isDone_52 : decode cX6_isDone 52 = .ok (.invokevirtual 284, 3) := by decide +kernel
theorem dX6_isDone_55 : decode cX6_isDone 55 = .ok (.ifCond .lt 7, 3) := by decide +kernel
theorem dX6_isDone_58 : decode cX6_isDone 58 = .ok (.iconst 1, 1) := by decide +kernel
theorem dX6_isDone_59 : decode cX6_isDone 59 = .ok (.goto 4, 3) := by decide +kernel
theorem dX6_isDone_62 : decode cX6_isDone 62 = .ok (.iconst 0, 1) := by decide +kernel
theorem dX6_isDone_63 : decode cX6_isDone 63 = .ok (.ireturn, 1) := by decide +kernel
theorem dX6_isDone_64 : decode cX6_isDone 64 = .ok (.aload_n 0, 1) := by decide +kernel
theorem dX6_isDone_65 : decode cX6_isDone 65 = .ok (.aload_n 0, 1) := by decide +kernel
theorem dX6_isDone_66 : decode cX6_isDone 66 = .ok (.getfield 49, 3) := by decide +kernel
theorem dX6_isDone_69 : decode cX6_isDone 69 = .ok (.getfield 281, 3) := by decide +kernel
theorem dX6_isDone_72 : decode cX6_isDone 72 = .ok (.aload_n 0, 1) := by decide +kernel
theorem dX6_isDone_73 : decode cX6_isDone 73 = .ok (.getfield 49, 3) := by decide +kernel
theorem dX6_isDone_76 : decode cX6_isDone 76 = .ok (.getfield 286, 3) := by decide +kernel
theorem dX6_isDone_79 : decode cX6_isDone 79 = .ok (.iconst 1, 1) := by decide +kernel
theorem dX6_isDone_80 : decode cX6_isDone 80 = .ok (.invokevirtual 289, 3) := by decide +kernel
theorem dX6_isDone_83 : decode cX6_isDone 83 = .ok (.ifCond .lt 7, 3) := by decide +kernel
theorem dX6_isDone_86 : decode cX6_isDone 86 = .ok (.iconst 1, 1) := by decide +kernel
theorem dX6_isDone_87 : decode cX6_isDone 87 = .ok (.goto 4, 3) := by decide +kernel
theorem dX6_isDone_90 : decode cX6_isDone 90 = .ok (.iconst 0, 1) := by decide +kernel
theorem dX6_isDone_91 : decode cX6_isDone 91 = .ok (.ireturn, 1) := by decide +kernel
theorem dX6_isDone_92 : decode cX6_isDone 92 = .ok (.aload_n 0, 1) := by decide +kernel
theorem dX6_isDone_93 : decode cX6_isDone 93 = .ok (.aload_n 0, 1) := by decide +kernel
theorem dX6_isDone_94 : decode cX6_isDone 94 = .ok (.getfield 49, 3) := by decide +kernel
theorem dX6_isDone_97 : decode cX6_isDone 97 = .ok (.getfield 281, 3) := by decide +kernel
theorem dX6_isDone_100 : decode cX6_isDone 100 = .ok (.aload_n 0, 1) := by decide +kernel
theorem dX6_isDone_101 : decode cX6_isDone 101 = .ok (.getfield 49, 3) := by decide +kernel
theorem dX6_isDone_104 : decode cX6_isDone 104 = .ok (.getfield 286, 3) := by decide +kernel
theorem dX6_isDone_107 : decode cX6_isDone 107 = .ok (.iconst 0, 1) := by decide +kernel
theorem dX6_isDone_108 : decode cX6_isDone 108 = .ok (.invokevirtual 289, 3) := by decide +kernel
theorem dX6_isDone_111 : decode cX6_isDone 111 = .ok (.ifCond .lt 7, 3) := by decide +kernel
theorem dX6_isDone_114 : decode cX6_isDone 114 = .ok (.iconst 1, 1) := by decide +kernel
theorem dX6_isDone_115 : decode cX6_isDone 115 = .ok (.goto 4, 3) := by decide +kernel
theorem dX6_isDone_118 : decode cX6_isDone 118 = .ok (.iconst 0, 1) := by decide +kernel
theorem dX6_isDone_119 : decode cX6_isDone 119 = .ok (.ireturn, 1) := by decide +kernel
theorem dX6_isDone_120 : decode cX6_isDone 120 = .ok (.aload_n 0, 1) := by decide +kernel
theorem dX6_isDone_121 : decode cX6_isDone 121 = .ok (.getfield 10, 3) := by decide +kernel
theorem dX6_isDone_124 : decode cX6_isDone 124 = .ok (.aload_n 0, 1) := by decide +kernel
theorem dX6_isDone_125 : decode cX6_isDone 125 = .ok (.getfield 49, 3) := by decide +kernel
theorem dX6_isDone_128 : decode cX6_isDone 128 = .ok (.getfield 281, 3) := by decide +kernel
theorem dX6_isDone_131 : decode cX6_isDone 131 = .ok (.invokevirtual 68, 3) := by decide +kernel
theorem dX6_isDone_134 : decode cX6_isDone 134 = .ok (.ifCond .eq 31, 3) := by decide +kernel
theorem dX6_isDone_137 : decode cX6_isDone 137 = .ok (.aload_n 0, 1) := by decide +kernel
theorem dX6_isDone_138 : decode cX6_isDone 138 = .ok (.aload_n 0, 1) := by decide +kernel
theorem dX6_isDone_139 : decode cX6_isDone 139 = .ok (.getfield 10, 3) := by decide +kernel
theorem dX6_isDone_142 : decode cX6_isDone 142 = .ok (.getfield 82, 3) := by decide +kernel
theorem dX6_isDone_145 : decode cX6_isDone 145 = .ok (.iconst 1, 1) := by decide +kernel
theorem dX6_isDone_146 : decode cX6_isDone 146 = .ok (.aload_n 0, 1) := by decide +kernel
theorem dX6_isDone_147 : decode cX6_isDone 147 = .ok (.getfield 49, 3) := by decide +kernel
theorem dX6_isDone_150 : decode cX6_isDone 150 = .ok (.getfield 281, 3) := by decide +kernel
theorem dX6_isDone_153 : decode cX6_isDone 153 = .ok (.ishl, 1) := by decide +kernel
theorem dX6_isDone_154 : decode cX6_isDone 154 = .ok (.ior, 1) := by decide +kernel
theorem dX6_isDone_155 : decode cX6_isDone 155 = .ok (.invokevirtual 292, 3) := by decide +kernel
theorem dX6_isDone_158 : decode cX6_isDone 158 = .ok (.ifCond .lt 7, 3) := by decide +kernel
theorem dX6_isDone_161 : decode cX6_isDone 161 = .ok (.iconst 1, 1) := by decide +kernel
theorem dX6_isDone_162 : decode cX6_isDone 162 = .ok (.goto 4, 3) := by decide +kernel
theorem dX6_isDone_165 : decode cX6_isDone 165 = .ok (.iconst 0, 1) := by decide +kernel
theorem dX6_isDone_166 : decode cX6_isDone 166 = .ok (.ireturn, 1) := by decide +kernel
theorem dX6_isDone_167 : decode cX6_isDone 167 = .ok (.aload_n 0, 1) := by decide +kernel
theorem dX6_isDone_168 : decode cX6_isDone 168 = .ok (.aload_n 0, 1) := by decide +kernel
theorem dX6_isDone_169 : decode cX6_isDone 169 = .ok (.getfield 49, 3) := by decide +kernel
theorem dX6_isDone_172 : decode cX6_isDone 172 = .ok (.getfield 294, 3) := by decide +kernel
theorem dX6_isDone_175 : decode cX6_isDone 175 = .ok (.invokevirtual 297, 3) := by decide +kernel
theorem dX6_isDone_178 : decode cX6_isDone 178 = .ok (.ifCond .lt 7, 3) := by decide +kernel
theorem dX6_isDone_181 : decode cX6_isDone 181 = .ok (.iconst 1, 1) := by decide +kernel
theorem dX6_isDone_182 : decode cX6_isDone 182 = .ok (.goto 4, 3) := by decide +kernel
theorem dX6_isDone_185 : decode cX6_isDone 185 = .ok (.iconst 0, 1) := by decide +kernel
theorem dX6_isDone_186 : decode cX6_isDone 186 = .ok (.ireturn, 1) := by decide +kernel
theorem dX6_isDone_187 : decode cX6_isDone 187 = .ok (.aload_n 0, 1) := by decide +kernel
theorem dX6_isDone_188 : decode cX6_isDone 188 = .ok (.aload_n 0, 1) := by decide +kernel
theorem dX6_isDone_189 : decode cX6_isDone 189 = .ok (.getfield 49, 3) := by decide +kernel
theorem dX6_isDone_192 : decode cX6_isDone 192 = .ok (.getfield 281, 3) := by decide +kernel
theorem dX6_isDone_195 : decode cX6_isDone 195 = .ok (.aload_n 0, 1) := by decide +kernel
theorem dX6_isDone_196 : decode cX6_isDone 196 = .ok (.getfield 49, 3) := by decide +kernel
theorem dX6_isDone_199 : decode cX6_isDone 199 = .ok (.getfield 286, 3) := by decide +kernel
theorem dX6_isDone_202 : decode cX6_isDone 202 = .ok (.invokevirtual 300, 3) := by decide +kernel
theorem dX6_isDone_205 : decode cX6_isDone 205 = .ok (.ifCond .lt 7, 3) := by decide +kernel
theorem dX6_isDone_208 : decode cX6_isDone 208 = .ok (.iconst 1, 1) := by decide +kernel
theorem dX6_isDone_209 : decode cX6_isDone 209 = .ok (.goto 4, 3) := by decide +kernel
theorem dX6_isDone_212 : decode cX6_isDone 212 = .ok (.iconst 0, 1) := by decide +kernel
theorem dX6_isDone_213 : decode cX6_isDone 213 = .ok (.ireturn, 1) := by decide +kernel
theorem dX6_isDone_214 : decode cX6_isDone 214 = .ok (.iconst 0, 1) := by decide +kernel
theorem dX6_isDone_215 : decode cX6_isDone 215 = .ok (.ireturn, 1) := by decide +kernel
theorem dX7_init_0 : decode cX7_init 0 = .ok (.aload_n 0, 1) := by decide +kernel
theorem dX7_init_1 : decode cX7_init 1 = .ok (.invokespecial 1, 3) := by decide +kernel
theorem dX7_init_4 : decode cX7_init 4 = .ok (.aload_n 0, 1) := by decide +kernel
theorem dX7_init_5 : decode cX7_init 5 = .ok (.iconst 1, 1) := by decide +kernel
theorem dX7_init_6 : decode cX7_init 6 = .ok (.putfield 7, 3) := by decide +kernel
theorem dX7_init_9 : decode cX7_init 9 = .ok (.aload_n 0, 1) := by decide +kernel
theorem dX7_init_10 : decode cX7_init 10 = .ok (.bipush 8, 2) := by decide +kernel
theorem dX7_init_12 : decode cX7_init 12 = .ok (.newarray .int, 2) := by decide +kernel
theorem dX7_init_14 : decode cX7_init 14 = .ok (.putfield 13, 3) := by decide +kernel
theorem dX7_init_17 : decode cX7_init 17 = .ok (.aload_n 0, 1) := by decide +kernel
theorem dX7_init_18 : decode cX7_init 18 = .ok (.bipush 8, 2) := by decide +kernel
theorem dX7_init_20 : decode cX7_init 20 = .ok (.newarray .int, 2) := by decide +kernel
theorem dX7_init_22 : decode cX7_init 22 = .ok (.putfield 17, 3) := by decide +kernel
theorem dX7_init_25 : decode cX7_init 25 = .ok (.aload_n 0, 1) := by decide +kernel
theorem dX7_init_26 : decode cX7_init 26 = .ok (.bipush 8, 2) := by decide +kernel
theorem dX7_init_28 : decode cX7_init 28 = .ok (.newarray .int, 2) := by decide +kernel
theorem dX7_init_30 : decode cX7_init 30 = .ok (.putfield 20, 3) := by decide +kernel
theorem dX7_init_33 : decode cX7_init 33 = .ok (.aload_n 0, 1) := by decide +kernel
theorem dX7_init_34 : decode cX7_init 34 = .ok (.iconst 3, 1) := by decide +kernel
theorem dX7_init_35 : decode cX7_init 35 = .ok (.newarray .int, 2) := by decide +kernel
theorem dX7_init_37 : decode cX7_init 37 = .ok (.dup, 1) := by decide +kernel
theorem dX7_init_38 : decode cX7_init 38 = .ok (.iconst 0, 1) := by decide +kernel
theorem dX7_init_39 : decode cX7_init 39 = .ok (.iconst (-1), 1) := by decide +kernel
theorem dX7_init_40 : decode cX7_init 40 = .ok (.iastore, 1) := by decide +kernel
theorem dX7_init_41 : decode cX7_init 41 = .ok (.dup, 1) := by decide +kernel
theorem dX7_init_42 : decode cX7_init 42 = .ok (.iconst 1, 1) := by decide +kernel
theorem dX7_init_43 : decode cX7_init 43 = .ok (.iconst (-1), 1) := by decide +kernel
theorem dX7_init_44 : decode cX7_init 44 = .ok (.iastore, 1) := by decide +kernel
theorem dX7_init_45 : decode cX7_init 45 = .ok (.dup, 1) := by decide +kernel
theorem dX7_init_46 : decode cX7_init 46 = .ok (.iconst 2, 1) := by decide +kernel
theorem dX7_init_47 : decode cX7_init 47 = .ok (.iconst (-1), 1) := by decide +kernel
theorem dX7_init_48 : decode cX7_init 48 = .ok (.iastore, 1) := by decide +kernel
theorem dX7_init_49 : decode cX7_init 49 = .ok (.putfield 23, 3) := by decide +kernel
theorem dX7_init_52 : decode cX7_init 52 = .ok (.aload_n 0, 1) := by decide +kernel
theorem dX7_init_53 : decode cX7_init 53 = .ok (.bipush 120, 2) := by decide +kernel
theorem dX7_init_55 : decode cX7_init 55 = .ok (.newarray .int, 2) := by decide +kernel
theorem dX7_init_57 : decode cX7_init 57 = .ok (.putfield 26, 3) := by decide +kernel
theorem dX7_init_60 : decode cX7_init 60 = .ok (.aload_n 0, 1) := by decide +kernel
theorem dX7_init_61 : decode cX7_init 61 = .ok (.bipush 40, 2) := by decide +kernel
theorem dX7_init_63 : decode cX7_init 63 = .ok (.newarray .int, 2) := by decide +kernel
theorem dX7_init_65 : decode cX7_init 65 = .ok (.putfield 29, 3) := by decide +kernel
theorem dX7_init_68 : decode cX7_init 68 = .ok (.aload_n 0, 1) := by decide +kernel
theorem dX7_init_69 : decode cX7_init 69 = .ok (.bipush 120, 2) := by decide +kernel
theorem dX7_init_71 : decode cX7_init 71 = .ok (.newarray .int, 2) := by decide +kernel
theorem dX7_init_73 : decode cX7_init 73 = .ok (.putfield 32, 3) := by decide +kernel
theorem dX7_init_76 : decode cX7_init 76 = .ok (.aload_n 0, 1) := by decide +kernel
theorem dX7_init_77 : decode cX7_init 77 = .ok (.sipush 256, 3) := by decide +kernel
theorem dX7_init_80 : decode cX7_init 80 = .ok (.newarray .int, 2) := by decide +kernel
theorem dX7_init_82 : decode cX7_init 82 = .ok (.putfield 35, 3) := by decide +kernel
theorem dX7_init_85 : decode cX7_init 85 = .ok (.aload_n 0, 1) := by decide +kernel
theorem dX7_init_86 : decode cX7_init 86 = .ok (.sipush 256, 3) := by decide +kernel
theorem dX7_init_89 : decode cX7_init 89 = .ok (.newarray .boolean, 2) := by decide +kernel
theorem dX7_init_91 : decode cX7_init 91 = .ok (.putfield 38, 3) := by decide +kernel
theorem dX7_init_94 : decode cX7_init 94 = .ok (.aload_n 0, 1) := by decide +kernel
theorem dX7_init_95 : decode cX7_init 95 = .ok (.sipush 256, 3) := by decide +kernel
theorem dX7_init_98 : decode cX7_init 98 = .ok (.newarray .boolean, 2) := by decide +kernel
theorem dX7_init_100 : decode cX7_init 100 = .ok (.putfield 42, 3) := by decide +kernel
theorem dX7_init_103 : decode cX7_init 103 = .ok (.aload_n 0, 1) := by decide +kernel
theorem dX7_init_104 : decode cX7_init 104 = .ok (.sipush 256, 3) := by decide +kernel
theorem dX7_init_107 : decode cX7_init 107 = .ok (.newarray .int, 2) := by decide +kernel
theorem dX7_init_109 : decode cX7_init 109 = .ok (.putfield 45, 3) := by decide +kernel
theorem dX7_init_112 : decode cX7_init 112 = .ok (.aload_n 0, 1) := by decide +kernel
theorem dX7_init_113 : decode cX7_init 113 = .ok (.sipush 256, 3) := by decide +kernel
theorem dX7_init_116 : decode cX7_init 116 = .ok (.newarray .int, 2) := by decide +kernel
theorem dX7_init_118 : decode cX7_init 118 = .ok (.putfield 48, 3) := by decide +kernel
theorem dX7_init_121 : decode cX7_init 121 = .ok (.aload_n 0, 1) := by decide +kernel
theorem dX7_init_122 : decode cX7_init 122 = .ok (.bipush 8, 2) := by decide +kernel
theorem dX7_init_124 : decode cX7_init 124 = .ok (.newarray .int, 2) := by decide +kernel
theorem dX7_init_126 : decode cX7_init 126 = .ok (.putfield 51, 3) := by decide +kernel
theorem dX7_init_129 : decode cX7_init 129 = .ok (.aload_n 0, 1) := by decide +kernel
theorem dX7_init_130 : decode cX7_init 130 = .ok (.sipush 256, 3) := by decide +kernel
theorem dX7_init_133 : decode cX7_init 133 = .ok (.newarray .boolean, 2) := by decide +kernel
theorem dX7_init_135 : decode cX7_init 135 = .ok (.putfield 54, 3) := by decide +kernel
theorem dX7_init_138 : decode cX7_init 138 = .ok (.aload_n 0, 1) := by decide +kernel
theorem dX7_init_139 : decode cX7_init 139 = .ok (.sipush 900, 3) := by decide +kernel
theorem dX7_init_142 : decode cX7_init 142 = .ok (.newarray .int, 2) := by decide +kernel
theorem dX7_init_144 : decode cX7_init 144 = .ok (.putfield 57, 3) := by decide +kernel
theorem dX7_init_147 : decode cX7_init 147 = .ok (.aload_n 0, 1) := by decide +kernel
theorem dX7_init_148 : decode cX7_init 148 = .ok (.bipush 27, 2) := by decide +kernel
theorem dX7_init_150 : decode cX7_init 150 = .ok (.newarray .int, 2) := by decide +kernel
theorem dX7_init_152 : decode cX7_init 152 = .ok (.putfield 60, 3) := by decide +kernel
theorem dX7_init_155 : decode cX7_init 155 = .ok (.return_, 1) := by decide +kernel
theorem dX7_in_0 : decode cX7_in 0 = .ok (.iload_n 0, 1) := by decide +kernel
theorem dX7_in_1 : decode cX7_in 1 = .ok (.iload_n 1, 1) := by decide +kernel
theorem dX7_in_2 : decode cX7_in 2 = .ok (.if_icmp .lt 12, 3) := by decide +kernel
theorem dX7_in_5 : decode cX7_in 5 = .ok (.iload_n 0, 1) := by decide +kernel
theorem dX7_in_6 : decode cX7_in 6 = .ok (.iload_n 2, 1) := by decide +kernel
theorem dX7_in_7 : decode cX7_in 7 = .ok (.if_icmp .gt 7, 3) := by decide +kernel
theorem dX7_in_10 : decode cX7_in 10 = .ok (.iconst 1, 1) := by decide +kernel
theorem dX7_in_11 : decode cX7_in 11 = .ok (.goto 4, 3) := by decide +kernel
theorem dX7_in_14 : decode cX7_in 14 = .ok (.iconst 0, 1) := by decide +kernel
theorem dX7_in_15 : decode cX7_in 15 = .ok (.ireturn, 1) := by decide +kernel
theorem dX7_isPost_0 : decode cX7_isPost 0 = .ok (.iload_n 1, 1) := by decide +kernel
theorem dX7_isPost_1 : decode cX7_isPost 1 = .ok (.iconst 0, 1) := by decide +kernel
theorem dX7_isPost_2 : decode cX7_isPost 2 = .ok (.aload_n 0, 1) := by decide +kernel
theorem dX7_isPost_3 : decode cX7_isPost 3 = .ok (.getfield 7, 3) := by decide +kernel
theorem dX7_isPost_6 : decode cX7_isPost 6 = .ok (.iconst 1, 1) := by decide +kernel
theorem dX7_isPost_7 : decode cX7_isPost 7 = .ok (.isub, 1) := by decide +kernel
theorem dX7_isPost_8 : decode cX7_isPost 8 = .ok (.invokestatic 63, 3) := by decide +kernel
theorem dX7_isPost_11 : decode cX7_isPost 11 = .ok (.ireturn, 1) := by decide +kernel
theorem dX7_isSet_0 : decode cX7_isSet 0 = .ok (.iload_n 1, 1) := by decide +kernel
theorem dX7_isSet_1 : decode cX7_isSet 1 = .ok (.iconst 0, 1) := by decide +kernel
theorem dX7_isSet_2 : decode cX7_isSet 2 = .ok (.aload_n 0, 1) := by decide +kernel
theorem dX7_isSet_3 : decode cX7_isSet 3 = .ok (.invokevirtual 67, 3) := by decide +kernel
theorem dX7_isSet_6 : decode cX7_isSet 6 = .ok (.invokestatic 63, 3) := by decide +kernel
theorem dX7_isSet_9 : decode cX7_isSet 9 = .ok (.ireturn, 1) := by decide +kernel
theorem dX7_isNumber_0 : decode cX7_isNumber 0 = .ok (.iload_n 1, 1) := by decide +kernel
theorem dX7_isNumber_1 : decode cX7_isNumber 1 = .ok (.iconst 0, 1) := by decide +kernel
theorem dX7_isNumber_2 : decode cX7_isNumber 2 = .ok (.aload_n 0, 1) := by decide +kernel
theorem dX7_isNumber_3 : decode cX7_isNumber 3 = .ok (.getfield 71, 3) := by decide +kernel
theorem dX7_isNumber_6 : decode cX7_isNumber 6 = .ok (.iconst 1, 1) := by decide +kernel
theorem dX7_isNumber_7 : decode cX7_isNumber 7 = .ok (.isub, 1) := by decide +kernel
theorem dX7_isNumber_8 : decode cX7_isNumber 8 = .ok (.invokestatic 63, 3) := by decide +kernel
theorem dX7_isNumber_11 : decode cX7_isNumber 11 = .ok (.ireturn, 1) := by decide +kernel
theorem dX7_isSide_0 : decode cX7_isSide 0 = .ok (.iload_n 0, 1) := by decide +kernel
theorem dX7_isSide_1 : decode cX7_isSide 1 = .ok (.iconst 0, 1) := by decide +kernel
theorem dX7_isSide_2 : decode cX7_isSide 2 = .ok (.iconst 3, 1) := by decide +kernel
theorem dX7_isSide_3 : decode cX7_isSide 3 = .ok (.invokestatic 63, 3) := by decide +kernel
theorem dX7_isSide_6 : decode cX7_isSide 6 = .ok (.ireturn, 1) := by decide +kernel
theorem dX7_all_0 : decode cX7_all 0 = .ok (.iconst 1, 1) := by decide +kernel
theorem dX7_all_1 : decode cX7_all 1 = .ok (.aload_n 0, 1) := by decide +kernel
theorem dX7_all_2 : decode cX7_all 2 = .ok (.getfield 7, 3) := by decide +kernel
theorem dX7_all_5 : decode cX7_all 5 = .ok (.ishl, 1) := by decide +kernel
theorem dX7_all_6 : decode cX7_all 6 = .ok (.iconst 1, 1) := by decide +kernel
theorem dX7_all_7 : decode cX7_all 7 = .ok (.isub, 1) := by decide +kernel
theorem dX7_all_8 : decode cX7_all 8 = .ok (.ireturn, 1) := by decide +kernel
theorem dX7_has_0 : decode cX7_has 0 = .ok (.iload_n 0, 1) := by decide +kernel
theorem dX7_has_1 : decode cX7_has 1 = .ok (.iload_n 1, 1) := by decide +kernel
theorem dX7_has_2 : decode cX7_has 2 = .ok (.ishr, 1) := by decide +kernel
theorem dX7_has_3 : decode cX7_has 3 = .ok (.iconst 1, 1) := by decide +kernel
theorem dX7_has_4 : decode cX7_has 4 = .ok (.iand, 1) := by decide +kernel
theorem dX7_has_5 : decode cX7_has 5 = .ok (.iconst 1, 1) := by decide +kernel
theorem dX7_has_6 : decode cX7_has 6 = .ok (.if_icmp .ne 7, 3) := by decide +kernel
theorem dX7_has_9 : decode cX7_has 9 = .ok (.iconst 1, 1) := by decide +kernel
theorem dX7_has_10 : decode cX7_has 10 = .ok (.goto 4, 3) := by decide +kernel
theorem dX7_has_13 : decode cX7_has 13 = .ok (.iconst 0, 1) := by decide +kernel
theorem dX7_has_14 : decode cX7_has 14 = .ok (.ireturn, 1) := by decide +kernel
theorem dX7_openPast_0 : decode cX7_openPast 0 = .ok (.aload_n 0, 1) := by decide +kernel
theorem dX7_openPast_1 : decode cX7_openPast 1 = .ok (.getfield 74, 3) := by decide +kernel
theorem dX7_openPast_4 : decode cX7_openPast 4 = .ok (.iload_n 1, 1) := by decide +kernel
theorem dX7_openPast_5 : decode cX7_openPast 5 = .ok (.iconst (-1), 1) := by decide +kernel
theorem dX7_openPast_6 : decode cX7_openPast 6 = .ok (.ixor, 1) := by decide +kernel
theorem dX7_openPast_7 : decode cX7_openPast 7 = .ok (.iand, 1) := by decide +kernel
theorem dX7_openPast_8 : decode cX7_openPast 8 = .ok (.istore_n 2, 1) := by decide +kernel
theorem dX7_openPast_9 : decode cX7_openPast 9 = .ok (.iconst 1, 1) := by decide +kernel
theorem dX7_openPast_10 : decode cX7_openPast 10 = .ok (.istore_n 3, 1) := by decide +kernel
theorem dX7_openPast_11 : decode cX7_openPast 11 = .ok (.iload_n 3, 1) := by decide +kernel
theorem dX7_openPast_12 : decode cX7_openPast 12 = .ok (.ifCond .eq 65, 3) := by decide +kernel
theorem dX7_openPast_15 : decode cX7_openPast 15 = .ok (.iconst 0, 1) := by decide +kernel
theorem dX7_openPast_16 : decode cX7_openPast 16 = .ok (.istore_n 3, 1) := by decide +kernel
theorem dX7_openPast_17 : decode cX7_openPast 17 = .ok (.iconst 0, 1) := by decide +kernel
theorem dX7_openPast_18 : decode cX7_openPast 18 = .ok (.istore 4, 2) := by decide +kernel
theorem dX7_openPast_20 : decode cX7_openPast 20 = .ok (.iload 4, 2) := by decide +kernel
theorem dX7_openPast_22 : decode cX7_openPast 22 = .ok (.aload_n 0, 1) := by decide +kernel
theorem dX7_openPast_23 : decode cX7_openPast 23 = .ok (.getfield 7, 3) := by decide +kernel
theorem dX7_openPast_26 : decode cX7_openPast 26 = .ok (.if_icmp .ge 48, 3) := by decide +kernel
theorem dX7_openPast_29 : decode cX7_openPast 29 = .ok (.iload_n 2, 1) := by decide +kernel
theorem dX7_openPast_30 : decode cX7_openPast 30 = .ok (.iload 4, 2) := by decide +kernel
theorem dX7_openPast_32 : decode cX7_openPast 32 = .ok (.invokestatic 77, 3) := by decide +kernel
theorem dX7_openPast_35 : decode cX7_openPast 35 = .ok (.ifCond .ne 33, 3) := by decide +kernel
theorem dX7_openPast_38 : decode cX7_openPast 38 = .ok (.iload_n 1, 1) := by decide +kernel
theorem dX7_openPast_39 : decode cX7_openPast 39 = .ok (.iload 4, 2) := by decide +kernel
theorem dX7_openPast_41 : decode cX7_openPast 41 = .ok (.invokestatic 77, 3) := by decide +kernel
theorem dX7_openPast_44 : decode cX7_openPast 44 = .ok (.ifCond .ne 24, 3) := by decide +kernel
theorem dX7_openPast_47 : decode cX7_openPast 47 = .ok (.aload_n 0, 1) := by decide +kernel
theorem dX7_openPast_48 : decode cX7_openPast 48 = .ok (.getfield 13, 3) := by decide +kernel
theorem dX7_openPast_51 : decode cX7_openPast 51 = .ok (.iload 4, 2) := by decide +kernel
theorem dX7_openPast_53 : decode cX7_openPast 53 = .ok (.iaload, 1) := by decide +kernel
theorem dX7_openPast_54 : decode cX7_openPast 54 = .ok (.iload_n 2, 1) := by decide +kernel
theorem dX7_openPast_55 : decode cX7_openPast 55 = .ok (.iand, 1) := by decide +kernel
theorem dX7_openPast_56 : decode cX7_openPast 56 = .ok (.ifCond .eq 12, 3) := by decide +kernel
theorem dX7_openPast_59 : decode cX7_openPast 59 = .ok (.iload_n 2, 1) := by decide +kernel
theorem dX7_openPast_60 : decode cX7_openPast 60 = .ok (.iconst 1, 1) := by decide +kernel
theorem dX7_openPast_61 : decode cX7_openPast 61 = .ok (.iload 4, 2) := by decide +kernel
theorem dX7_openPast_63 : decode cX7_openPast 63 = .ok (.ishl, 1) := by decide +kernel
theorem dX7_openPast_64 : decode cX7_openPast 64 = .ok (.ior, 1) := by decide +kernel
theorem dX7_openPast_65 : decode cX7_openPast 65 = .ok (.istore_n 2, 1) := by decide +kernel
theorem dX7_openPast_66 : decode cX7_openPast 66 = .ok (.iconst 1, 1) := by decide +kernel
theorem dX7_openPast_67 : decode cX7_openPast 67 = .ok (.istore_n 3, 1) := by decide +kernel
theorem dX7_openPast_68 : decode cX7_openPast 68 = .ok (.iinc 4 1, 3) := by decide +kernel
theorem dX7_openPast_71 : decode cX7_openPast 71 = .ok (.goto (-51), 3) := by decide +kernel
theorem dX7_openPast_74 : decode cX7_openPast 74 = .ok (.goto (-63), 3) := by decide +kernel
theorem dX7_openPast_77 : decode cX7_openPast 77 = .ok (.iload_n 2, 1) := by decide +kernel
theorem dX7_openPast_78 : decode cX7_openPast 78 = .ok (.ireturn, 1) := by decide +kernel
theorem dX7_cutOf_0 : decode cX7_cutOf 0 = .ok (.iload_n 1, 1) := by decide +kernel
theorem dX7_cutOf_1 : decode cX7_cutOf 1 = .ok (.istore_n 2, 1) := by decide +kernel
theorem dX7_cutOf_2 : decode cX7_cutOf 2 = .ok (.aload_n 0, 1) := by decide +kernel
theorem dX7_cutOf_3 : decode cX7_cutOf 3 = .ok (.invokevirtual 67, 3) := by decide +kernel
theorem dX7_cutOf_6 : decode cX7_cutOf 6 = .ok (.istore_n 3, 1) := by decide +kernel
theorem dX7_cutOf_7 : decode cX7_cutOf 7 = .ok (.iload_n 3, 1) := by decide +kernel
theorem dX7_cutOf_8 : decode cX7_cutOf 8 = .ok (.ifCond .lt 33, 3) := by decide +kernel
theorem dX7_cutOf_11 : decode cX7_cutOf 11 = .ok (.iload_n 1, 1) := by decide +kernel
theorem dX7_cutOf_12 : decode cX7_cutOf 12 = .ok (.aload_n 0, 1) := by decide +kernel
theorem dX7_cutOf_13 : decode cX7_cutOf 13 = .ok (.getfield 35, 3) := by decide +kernel
theorem dX7_cutOf_16 : decode cX7_cutOf 16 = .ok (.iload_n 3, 1) := by decide +kernel
theorem dX7_cutOf_17 : decode cX7_cutOf 17 = .ok (.iaload, 1) := by decide +kernel
theorem dX7_cutOf_18 : decode cX7_cutOf 18 = .ok (.iand, 1) := by decide +kernel
theorem dX7_cutOf_19 : decode cX7_cutOf 19 = .ok (.ifCond .ne 16, 3) := by decide +kernel
theorem dX7_cutOf_22 : decode cX7_cutOf 22 = .ok (.iload_n 3, 1) := by decide +kernel
theorem dX7_cutOf_23 : decode cX7_cutOf 23 = .ok (.invokestatic 81, 3) := by decide +kernel
theorem dX7_cutOf_26 : decode cX7_cutOf 26 = .ok (.iload_n 2, 1) := by decide +kernel
theorem dX7_cutOf_27 : decode cX7_cutOf 27 = .ok (.invokestatic 81, 3) := by decide +kernel
theorem dX7_cutOf_30 : decode cX7_cutOf 30 = .ok (.if_icmp .gt 5, 3) := by decide +kernel
theorem dX7_cutOf_33 : decode cX7_cutOf 33 = .ok (.iload_n 3, 1) := by decide +kernel
theorem dX7_cutOf_34 : decode cX7_cutOf 34 = .ok (.istore_n 2, 1) := by decide +kernel
theorem dX7_cutOf_35 : decode cX7_cutOf 35 = .ok (.iinc 3 (-1), 3) := by decide +kernel
theorem dX7_cutOf_38 : decode cX7_cutOf 38 = .ok (.goto (-31), 3) := by decide +kernel
theorem dX7_cutOf_41 : decode cX7_cutOf 41 = .ok (.iload_n 2, 1) := by decide +kernel
theorem dX7_cutOf_42 : decode cX7_cutOf 42 = .ok (.ireturn, 1) := by decide +kernel
theorem dX7_layCuts_0 : decode cX7_layCuts 0 = .ok (.iconst 0, 1) := by decide +kernel
theorem dX7_layCuts_1 : decode cX7_layCuts 1 = .ok (.istore_n 1, 1) := by decide +kernel
theorem dX7_layCuts_2 : decode cX7_layCuts 2 = .ok (.iload_n 1, 1) := by decide +kernel
theorem dX7_layCuts_3 : decode cX7_layCuts 3 = .ok (.aload_n 0, 1) := by decide +kernel
theorem dX7_layCuts_4 : decode cX7_layCuts 4 = .ok (.invokevirtual 67, 3) := by decide +kernel
theorem dX7_layCuts_7 : decode cX7_layCuts 7 = .ok (.if_icmp .gt 20, 3) := by decide +kernel
theorem dX7_layCuts_10 : decode cX7_layCuts 10 = .ok (.aload_n 0, 1) := by decide +kernel
theorem dX7_layCuts_11 : decode cX7_layCuts 11 = .ok (.getfield 35, 3) := by decide +kernel
theorem dX7_layCuts_14 : decode cX7_layCuts 14 = .ok (.iload_n 1, 1) := by decide +kernel
theorem dX7_layCuts_15 : decode cX7_layCuts 15 = .ok (.aload_n 0, 1) := by decide +kernel
theorem dX7_layCuts_16 : decode cX7_layCuts 16 = .ok (.iload_n 1, 1) := by decide +kernel
theorem dX7_layCuts_17 : decode cX7_layCuts 17 = .ok (.invokevirtual 87, 3) := by decide +kernel
theorem dX7_layCuts_20 : decode cX7_layCuts 20 = .ok (.iastore, 1) := by decide +kernel
theorem dX7_layCuts_21 : decode cX7_layCuts 21 = .ok (.iinc 1 1, 3) := by decide +kernel
theorem dX7_layCuts_24 : decode cX7_layCuts 24 = .ok (.goto (-22), 3) := by decide +kernel
theorem dX7_layCuts_27 : decode cX7_layCuts 27 = .ok (.return_, 1) := by decide +kernel
theorem dX7_meeting_0 : decode cX7_meeting 0 = .ok (.iconst 0, 1) := by decide +kernel
theorem dX7_meeting_1 : decode cX7_meeting 1 = .ok (.istore_n 3, 1) := by decide +kernel
theorem dX7_meeting_2 : decode cX7_meeting 2 = .ok (.iconst 0, 1) := by decide +kernel
theorem dX7_meeting_3 : decode cX7_meeting 3 = .ok (.istore 4, 2) := by decide +kernel
theorem dX7_meeting_5 : decode cX7_meeting 5 = .ok (.iload 4, 2) := by decide +kernel
theorem dX7_meeting_7 : decode cX7_meeting 7 = .ok (.aload_n 0, 1) := by decide +kernel
theorem dX7_meeting_8 : decode cX7_meeting 8 = .ok (.getfield 71, 3) := by decide +kernel
theorem dX7_meeting_11 : decode cX7_meeting 11 = .ok (.if_icmp .ge 38, 3) := by decide +kernel
theorem dX7_meeting_14 : decode cX7_meeting 14 = .ok (.iload_n 3, 1) := by decide +kernel
theorem dX7_meeting_15 : decode cX7_meeting 15 = .ok (.iload_n 2, 1) := by decide +kernel
theorem dX7_meeting_16 : decode cX7_meeting 16 = .ok (.iload 4, 2) := by decide +kernel
theorem dX7_meeting_18 : decode cX7_meeting 18 = .ok (.invokestatic 77, 3) := by decide +kernel
theorem dX7_meeting_21 : decode cX7_meeting 21 = .ok (.ifCond .ne 19, 3) := by decide +kernel
theorem dX7_meeting_24 : decode cX7_meeting 24 = .ok (.aload_n 0, 1) := by decide +kernel
theorem dX7_meeting_25 : decode cX7_meeting 25 = .ok (.getfield 20, 3) := by decide +kernel
theorem dX7_meeting_28 : decode cX7_meeting 28 = .ok (.iload 4, 2) := by decide +kernel
theorem dX7_meeting_30 : decode cX7_meeting 30 = .ok (.iaload, 1) := by decide +kernel
theorem dX7_meeting_31 : decode cX7_meeting 31 = .ok (.iload_n 1, 1) := by decide +kernel
theorem dX7_meeting_32 : decode cX7_meeting 32 = .ok (.iand, 1) := by decide +kernel
theorem dX7_meeting_33 : decode cX7_meeting 33 = .ok (.ifCond .eq 7, 3) := by decide +kernel
theorem dX7_meeting_36 : decode cX7_meeting 36 = .ok (.iconst 1, 1) := by decide +kernel
theorem dX7_meeting_37 : decode cX7_meeting 37 = .ok (.goto 4, 3) := by decide +kernel
theorem dX7_meeting_40 : decode cX7_meeting 40 = .ok (.iconst 0, 1) := by decide +kernel
theorem dX7_meeting_41 : decode cX7_meeting 41 = .ok (.iadd, 1) := by decide +kernel
theorem dX7_meeting_42 : decode cX7_meeting 42 = .ok (.istore_n 3, 1) := by decide +kernel
theorem dX7_meeting_43 : decode cX7_meeting 43 = .ok (.iinc 4 1, 3) := by decide +kernel
theorem dX7_meeting_46 : decode cX7_meeting 46 = .ok (.goto (-41), 3) := by decide +kernel
theorem dX7_meeting_49 : decode cX7_meeting 49 = .ok (.iload_n 3, 1) := by decide +kernel
theorem dX7_meeting_50 : decode cX7_meeting 50 = .ok (.ireturn, 1) := by decide +kernel
theorem dX7_layFree_0 : decode cX7_layFree 0 = .ok (.iload_n 1, 1) := by decide +kernel
theorem dX7_layFree_1 : decode cX7_layFree 1 = .ok (.ifCond .ne 7, 3) := by decide +kernel
theorem dX7_layFree_4 : decode cX7_layFree 4 = .ok (.aload_n 0, 1) := by decide +kernel
theorem dX7_layFree_5 : decode cX7_layFree 5 = .ok (.invokevirtual 90, 3) := by decide +kernel
theorem dX7_layFree_8 : decode cX7_layFree 8 = .ok (.iconst 0, 1) := by decide +kernel
theorem dX7_layFree_9 : decode cX7_layFree 9 = .ok (.istore_n 2, 1) := by decide +kernel
theorem dX7_layFree_10 : decode cX7_layFree 10 = .ok (.iload_n 2, 1) := by decide +kernel
theorem dX7_layFree_11 : decode cX7_layFree 11 = .ok (.aload_n 0, 1) := by decide +kernel
theorem dX7_layFree_12 : decode cX7_layFree 12 = .ok (.invokevirtual 67, 3) := by decide +kernel
theorem dX7_layFree_15 : decode cX7_layFree 15 = .ok (.if_icmp .gt 121, 3) := by decide +kernel
theorem dX7_layFree_18 : decode cX7_layFree 18 = .ok (.iload_n 1, 1) := by decide +kernel
theorem dX7_layFree_19 : decode cX7_layFree 19 = .ok (.ifCond .ne 32, 3) := by decide +kernel
theorem dX7_layFree_22 : decode cX7_layFree 22 = .ok (.aload_n 0, 1) := by decide +kernel
theorem dX7_layFree_23 : decode cX7_layFree 23 = .ok (.getfield 38, 3) := by decide +kernel
theorem dX7_layFree_26 : decode cX7_layFree 26 = .ok (.iload_n 2, 1) := by decide +kernel
theorem dX7_layFree_27 : decode cX7_layFree 27 = .ok (.aload_n 0, 1) := by decide +kernel
theorem dX7_layFree_28 : decode cX7_layFree 28 = .ok (.iload_n 2, 1) := by decide +kernel
theorem dX7_layFree_29 : decode cX7_layFree 29 = .ok (.invokevirtual 93, 3) := by decide +kernel
theorem dX7_layFree_32 : decode cX7_layFree 32 = .ok (.invokestatic 81, 3) := by decide +kernel
theorem dX7_layFree_35 : decode cX7_layFree 35 = .ok (.iload_n 2, 1) := by decide +kernel
theorem dX7_layFree_36 : decode cX7_layFree 36 = .ok (.invokestatic 81, 3) := by decide +kernel
theorem dX7_layFree_39 : decode cX7_layFree 39 = .ok (.if_icmp .ne 7, 3) := by decide +kernel
theorem dX7_layFree_42 : decode cX7_layFree 42 = .ok (.iconst 1, 1) := by decide +kernel
theorem dX7_layFree_43 : decode cX7_layFree 43 = .ok (.goto 4, 3) := by decide +kernel
theorem dX7_layFree_46 : decode cX7_layFree 46 = .ok (.iconst 0, 1) := by decide +kernel
theorem dX7_layFree_47 : decode cX7_layFree 47 = .ok (.bastore, 1) := by decide +kernel
theorem dX7_layFree_48 : decode cX7_layFree 48 = .ok (.goto 82, 3) := by decide +kernel
theorem dX7_layFree_51 : decode cX7_layFree 51 = .ok (.aload_n 0, 1) := by decide +kernel
theorem dX7_layFree_52 : decode cX7_layFree 52 = .ok (.iload_n 2, 1) := by decide +kernel
theorem dX7_layFree_53 : decode cX7_layFree 53 = .ok (.iconst 0, 1) := by decide +kernel
theorem dX7_layFree_54 : decode cX7_layFree 54 = .ok (.invokevirtual 96, 3) := by decide +kernel
theorem dX7_layFree_57 : decode cX7_layFree 57 = .ok (.iload_n 2, 1) := by decide +kernel
theorem dX7_layFree_58 : decode cX7_layFree 58 = .ok (.invokestatic 81, 3) := by decide +kernel
theorem dX7_layFree_61 : decode cX7_layFree 61 = .ok (.if_icmp .lt 7, 3) := by decide +kernel
theorem dX7_layFree_64 : decode cX7_layFree 64 = .ok (.iconst 1, 1) := by decide +kernel
theorem dX7_layFree_65 : decode cX7_layFree 65 = .ok (.goto 4, 3) := by decide +kernel
theorem dX7_layFree_68 : decode cX7_layFree 68 = .ok (.iconst 0, 1) := by decide +kernel
theorem dX7_layFree_69 : decode cX7_layFree 69 = .ok (.istore_n 3, 1) := by decide +kernel
theorem dX7_layFree_70 : decode cX7_layFree 70 = .ok (.iconst 0, 1) := by decide +kernel
theorem dX7_layFree_71 : decode cX7_layFree 71 = .ok (.istore 4, 2) := by decide +kernel
theorem dX7_layFree_73 : decode cX7_layFree 73 = .ok (.iload 4, 2) := by decide +kernel
theorem dX7_layFree_75 : decode cX7_layFree 75 = .ok (.aload_n 0, 1) := by decide +kernel
theorem dX7_layFree_76 : decode cX7_layFree 76 = .ok (.getfield 7, 3) := by decide +kernel
theorem dX7_layFree_79 : decode cX7_layFree 79 = .ok (.if_icmp .ge 44, 3) := by decide +kernel
theorem dX7_layFree_82 : decode cX7_layFree 82 = .ok (.iload_n 3, 1) := by decide +kernel
theorem dX7_layFree_83 : decode cX7_layFree 83 = .ok (.ifCond .eq 32, 3) := by decide +kernel
theorem dX7_layFree_86 : decode cX7_layFree 86 = .ok (.iload_n 2, 1) := by decide +kernel
theorem dX7_layFree_87 : decode cX7_layFree 87 = .ok (.iload 4, 2) := by decide +kernel
theorem dX7_layFree_89 : decode cX7_layFree 89 = .ok (.invokestatic 77, 3) := by decide +kernel
theorem dX7_layFree_92 : decode cX7_layFree 92 = .ok (.ifCond .eq 19, 3) := by decide +kernel
theorem dX7_layFree_95 : decode cX7_layFree 95 = .ok (.aload_n 0, 1) := by decide +kernel
theorem dX7_layFree_96 : decode cX7_layFree 96 = .ok (.getfield 38, 3) := by decide +kernel
theorem dX7_layFree_99 : decode cX7_layFree 99 = .ok (.iload_n 2, 1) := by decide +kernel
theorem dX7_layFree_100 : decode cX7_layFree 100 = .ok (.iconst 1, 1) := by decide +kernel
theorem dX7_layFree_101 : decode cX7_layFree 101 = .ok (.iload 4, 2) := by decide +kernel
theorem dX7_layFree_103 : decode cX7_layFree 103 = .ok (.ishl, 1) := by decide +kernel
theorem dX7_layFree_104 : decode cX7_layFree 104 = .ok (.iconst (-1), 1) := by decide +kernel
theorem dX7_layFree_105 : decode cX7_layFree 105 = .ok (.ixor, 1) := by decide +kernel
theorem dX7_layFree_106 : decode cX7_layFree 106 = .ok (.iand, 1) := by decide +kernel
theorem dX7_layFree_107 : decode cX7_layFree 107 = .ok (.baload, 1) := by decide +kernel
theorem dX7_layFree_108 : decode cX7_layFree 108 = .ok (.ifCond .eq 7, 3) := by decide +kernel
theorem dX7_layFree_111 : decode cX7_layFree 111 = .ok (.iconst 1, 1) := by decide +kernel
theorem dX7_layFree_112 : decode cX7_layFree 112 = .ok (.goto 4, 3) := by decide +kernel
theorem dX7_layFree_115 : decode cX7_layFree 115 = .ok (.iconst 0, 1) := by decide +kernel
theorem dX7_layFree_116 : decode cX7_layFree 116 = .ok (.istore_n 3, 1) := by decide +kernel
theorem dX7_layFree_117 : decode cX7_layFree 117 = .ok (.iinc 4 1, 3) := by decide +kernel
theorem dX7_layFree_120 : decode cX7_layFree 120 = .ok (.goto (-47), 3) := by decide +kernel
theorem dX7_layFree_123 : decode cX7_layFree 123 = .ok (.aload_n 0, 1) := by decide +kernel
theorem dX7_layFree_124 : decode cX7_layFree 124 = .ok (.getfield 38, 3) := by decide +kernel
theorem dX7_layFree_127 : decode cX7_layFree 127 = .ok (.iload_n 2, 1) := by decide +kernel
theorem dX7_layFree_128 : decode cX7_layFree 128 = .ok (.iload_n 3, 1) := by decide +kernel
theorem dX7_layFree_129 : decode cX7_layFree 129 = .ok (.bastore, 1) := by decide +kernel
theorem dX7_layFree_130 : decode cX7_layFree 130 = .ok (.iinc 2 1, 3) := by decide +kernel
theorem dX7_layFree_133 : decode cX7_layFree 133 = .ok (.goto (-123), 3) := by decide +kernel
theorem dX7_layFree_136 : decode cX7_layFree 136 = .ok (.return_, 1) := by decide +kernel
theorem dX7_layRanks_0 : decode cX7_layRanks 0 = .ok (.iconst 0, 1) := by decide +kernel
theorem dX7_layRanks_1 : decode cX7_layRanks 1 = .ok (.istore_n 1, 1) := by decide +kernel
theorem dX7_layRanks_2 : decode cX7_layRanks 2 = .ok (.iload_n 1, 1) := by decide +kernel
theorem dX7_layRanks_3 : decode cX7_layRanks 3 = .ok (.aload_n 0, 1) := by decide +kernel
theorem dX7_layRanks_4 : decode cX7_layRanks 4 = .ok (.invokevirtual 67, 3) := by decide +kernel
theorem dX7_layRanks_7 : decode cX7_layRanks 7 = .ok (.if_icmp .gt 75, 3) := by decide +kernel
theorem dX7_layRanks_10 : decode cX7_layRanks 10 = .ok (.aload_n 0, 1) := by decide +kernel
theorem dX7_layRanks_11 : decode cX7_layRanks 11 = .ok (.getfield 38, 3) := by decide +kernel
theorem dX7_layRanks_14 : decode cX7_layRanks 14 = .ok (.iload_n 1, 1) := by decide +kernel
theorem dX7_layRanks_15 : decode cX7_layRanks 15 = .ok (.baload, 1) := by decide +kernel
theorem dX7_layRanks_16 : decode cX7_layRanks 16 = .ok (.ifCond .eq 10, 3) := by decide +kernel
theorem dX7_layRanks_19 : decode cX7_layRanks 19 = .ok (.iload_n 1, 1) := by decide +kernel
theorem dX7_layRanks_20 : decode cX7_layRanks 20 = .ok (.invokestatic 81, 3) := by decide +kernel
theorem dX7_layRanks_23 : decode cX7_layRanks 23 = .ok (.goto 4, 3) := by decide +kernel
theorem dX7_layRanks_26 : decode cX7_layRanks 26 = .ok (.iconst 0, 1) := by decide +kernel
theorem dX7_layRanks_27 : decode cX7_layRanks 27 = .ok (.istore_n 2, 1) := by decide +kernel
theorem dX7_layRanks_28 : decode cX7_layRanks 28 = .ok (.iconst 0, 1) := by decide +kernel
theorem dX7_layRanks_29 : decode cX7_layRanks 29 = .ok (.istore_n 3, 1) := by decide +kernel
theorem dX7_layRanks_30 : decode cX7_layRanks 30 = .ok (.iload_n 3, 1) := by decide +kernel
theorem dX7_layRanks_31 : decode cX7_layRanks 31 = .ok (.aload_n 0, 1) := by decide +kernel
theorem dX7_layRanks_32 : decode cX7_layRanks 32 = .ok (.getfield 7, 3) := by decide +kernel
theorem dX7_layRanks_35 : decode cX7_layRanks 35 = .ok (.if_icmp .ge 34, 3) := by decide +kernel
theorem dX7_layRanks_38 : decode cX7_layRanks 38 = .ok (.iload_n 1, 1) := by decide +kernel
theorem dX7_layRanks_39 : decode cX7_layRanks 39 = .ok (.iload_n 3, 1) := by decide +kernel
theorem dX7_layRanks_40 : decode cX7_layRanks 40 = .ok (.invokestatic 77, 3) := by decide +kernel
theorem dX7_layRanks_43 : decode cX7_layRanks 43 = .ok (.ifCond .eq 20, 3) := by decide +kernel
theorem dX7_layRanks_46 : decode cX7_layRanks 46 = .ok (.iload_n 2, 1) := by decide +kernel
theorem dX7_layRanks_47 : decode cX7_layRanks 47 = .ok (.aload_n 0, 1) := by decide +kernel
theorem dX7_layRanks_48 : decode cX7_layRanks 48 = .ok (.getfield 45, 3) := by decide +kernel
theorem dX7_layRanks_51 : decode cX7_layRanks 51 = .ok (.iload_n 1, 1) := by decide +kernel
theorem dX7_layRanks_52 : decode cX7_layRanks 52 = .ok (.iconst 1, 1) := by decide +kernel
theorem dX7_layRanks_53 : decode cX7_layRanks 53 = .ok (.iload_n 3, 1) := by decide +kernel
theorem dX7_layRanks_54 : decode cX7_layRanks 54 = .ok (.ishl, 1) := by decide +kernel
theorem dX7_layRanks_55 : decode cX7_layRanks 55 = .ok (.iconst (-1), 1) := by decide +kernel
theorem dX7_layRanks_56 : decode cX7_layRanks 56 = .ok (.ixor, 1) := by decide +kernel
theorem dX7_layRanks_57 : decode cX7_layRanks 57 = .ok (.iand, 1) := by decide +kernel
theorem dX7_layRanks_58 : decode cX7_layRanks 58 = .ok (.iaload, 1) := by decide +kernel
theorem dX7_layRanks_59 : decode cX7_layRanks 59 = .ok (.invokestatic 100, 3) := by decide +kernel
theorem dX7_layRanks_62 : decode cX7_layRanks 62 = .ok (.istore_n 2, 1) := by decide +kernel
theorem dX7_layRanks_63 : decode cX7_layRanks 63 = .ok (.iinc 3 1, 3) := by decide +kernel
theorem dX7_layRanks_66 : decode cX7_layRanks 66 = .ok (.goto (-36), 3) := by decide +kernel
theorem dX7_layRanks_69 : decode cX7_layRanks 69 = .ok (.aload_n 0, 1) := by decide +kernel
theorem dX7_layRanks_70 : decode cX7_layRanks 70 = .ok (.getfield 45, 3) := by decide +kernel
theorem dX7_layRanks_73 : decode cX7_layRanks 73 = .ok (.iload_n 1, 1) := by decide +kernel
theorem dX7_layRanks_74 : decode cX7_layRanks 74 = .ok (.iload_n 2, 1) := by decide +kernel
theorem dX7_layRanks_75 : decode cX7_layRanks 75 = .ok (.iastore, 1) := by decide +kernel
theorem dX7_layRanks_76 : decode cX7_layRanks 76 = .ok (.iinc 1 1, 3) := by decide +kernel
theorem dX7_layRanks_79 : decode cX7_layRanks 79 = .ok (.goto (-77), 3) := by decide +kernel
theorem dX7_layRanks_82 : decode cX7_layRanks 82 = .ok (.iconst 0, 1) := by decide +kernel
theorem dX7_layRanks_83 : decode cX7_layRanks 83 = .ok (.istore_n 1, 1) := by decide +kernel
theorem dX7_layRanks_84 : decode cX7_layRanks 84 = .ok (.iload_n 1, 1) := by decide +kernel
theorem dX7_layRanks_85 : decode cX7_layRanks 85 = .ok (.aload_n 0, 1) := by decide +kernel
theorem dX7_layRanks_86 : decode cX7_layRanks 86 = .ok (.invokevirtual 67, 3) := by decide +kernel
theorem dX7_layRanks_89 : decode cX7_layRanks 89 = .ok (.if_icmp .gt 45, 3) := by decide +kernel
theorem dX7_layRanks_92 : decode cX7_layRanks 92 = .ok (.aload_n 0, 1) := by decide +kernel
theorem dX7_layRanks_93 : decode cX7_layRanks 93 = .ok (.getfield 42, 3) := by decide +kernel
theorem dX7_layRanks_96 : decode cX7_layRanks 96 = .ok (.iload_n 1, 1) := by decide +kernel
theorem dX7_layRanks_97 : decode cX7_layRanks 97 = .ok (.aload_n 0, 1) := by decide +kernel
theorem dX7_layRanks_98 : decode cX7_layRanks 98 = .ok (.getfield 38, 3) := by decide +kernel
theorem dX7_layRanks_101 : decode cX7_layRanks 101 = .ok (.iload_n 1, 1) := by decide +kernel
theorem dX7_layRanks_102 : decode cX7_layRanks 102 = .ok (.baload, 1) := by decide +kernel
theorem dX7_layRanks_103 : decode cX7_layRanks 103 = .ok (.ifCond .eq 23, 3) := by decide +kernel
theorem dX7_layRanks_106 : decode cX7_layRanks 106 = .ok (.iload_n 1, 1) := by decide +kernel
theorem dX7_layRanks_107 : decode cX7_layRanks 107 = .ok (.invokestatic 81, 3) := by decide +kernel
theorem dX7_layRanks_110 : decode cX7_layRanks 110 = .ok (.aload_n 0, 1) := by decide +kernel
theorem dX7_layRanks_111 : decode cX7_layRanks 111 = .ok (.getfield 45, 3) := by decide +kernel
theorem dX7_layRanks_114 : decode cX7_layRanks 114 = .ok (.aload_n 0, 1) := by decide +kernel
theorem dX7_layRanks_115 : decode cX7_layRanks 115 = .ok (.invokevirtual 67, 3) := by decide +kernel
theorem dX7_layRanks_118 : decode cX7_layRanks 118 = .ok (.iaload, 1) := by decide +kernel
theorem dX7_layRanks_119 : decode cX7_layRanks 119 = .ok (.if_icmp .ne 7, 3) := by decide +kernel
theorem dX7_layRanks_122 : decode cX7_layRanks 122 = .ok (.iconst 1, 1) := by decide +kernel
theorem dX7_layRanks_123 : decode cX7_layRanks 123 = .ok (.goto 4, 3) := by decide +kernel
theorem dX7_layRanks_126 : decode cX7_layRanks 126 = .ok (.iconst 0, 1) := by decide +kernel
theorem dX7_layRanks_127 : decode cX7_layRanks 127 = .ok (.bastore, 1) := by decide +kernel
theorem dX7_layRanks_128 : decode cX7_layRanks 128 = .ok (.iinc 1 1, 3) := by decide +kernel
theorem dX7_layRanks_131 : decode cX7_layRanks 131 = .ok (.goto (-47), 3) := by decide +kernel
theorem dX7_layRanks_134 : decode cX7_layRanks 134 = .ok (.return_, 1) := by decide +kernel
theorem dX7_isPastBase_0 : decode cX7_isPastBase 0 = .ok (.iconst 0, 1) := by decide +kernel
theorem dX7_isPastBase_1 : decode cX7_isPastBase 1 = .ok (.istore_n 2, 1) := by decide +kernel
theorem dX7_isPastBase_2 : decode cX7_isPastBase 2 = .ok (.iload_n 2, 1) := by decide +kernel
theorem dX7_isPastBase_3 : decode cX7_isPastBase 3 = .ok (.aload_n 0, 1) := by decide +kernel
theorem dX7_isPastBase_4 : decode cX7_isPastBase 4 = .ok (.invokevirtual 67, 3) := by decide +kernel
theorem dX7_isPastBase_7 : decode cX7_isPastBase 7 = .ok (.if_icmp .gt 26, 3) := by decide +kernel
theorem dX7_isPastBase_10 : decode cX7_isPastBase 10 = .ok (.aload_n 0, 1) := by decide +kernel
theorem dX7_isPastBase_11 : decode cX7_isPastBase 11 = .ok (.getfield 42, 3) := by decide +kernel
theorem dX7_isPastBase_14 : decode cX7_isPastBase 14 = .ok (.iload_n 2, 1) := by decide +kernel
theorem dX7_isPastBase_15 : decode cX7_isPastBase 15 = .ok (.baload, 1) := by decide +kernel
theorem dX7_isPastBase_16 : decode cX7_isPastBase 16 = .ok (.ifCond .eq 11, 3) := by decide +kernel
theorem dX7_isPastBase_19 : decode cX7_isPastBase 19 = .ok (.iload_n 2, 1) := by decide +kernel
theorem dX7_isPastBase_20 : decode cX7_isPastBase 20 = .ok (.iload_n 1, 1) := by decide +kernel
theorem dX7_isPastBase_21 : decode cX7_isPastBase 21 = .ok (.iand, 1) := by decide +kernel
theorem dX7_isPastBase_22 : decode cX7_isPastBase 22 = .ok (.ifCond .ne 5, 3) := by decide +kernel
theorem dX7_isPastBase_25 : decode cX7_isPastBase 25 = .ok (.iconst 1, 1) := by decide +kernel
theorem dX7_isPastBase_26 : decode cX7_isPastBase 26 = .ok (.ireturn, 1) := by decide +kernel
theorem dX7_isPastBase_27 : decode cX7_isPastBase 27 = .ok (.iinc 2 1, 3) := by decide +kernel
theorem dX7_isPastBase_30 : decode cX7_isPastBase 30 = .ok (.goto (-28), 3) := by decide +kernel
theorem dX7_isPastBase_33 : decode cX7_isPastBase 33 = .ok (.iconst 0, 1) := by decide +kernel
theorem dX7_isPastBase_34 : decode cX7_isPastBase 34 = .ok (.ireturn, 1) := by decide +kernel
theorem dX7_lay_0 : decode cX7_lay 0 = .ok (.aload_n 0, 1) := by decide +kernel
theorem dX7_lay_1 : decode cX7_lay 1 = .ok (.iload_n 1, 1) := by decide +kernel
theorem dX7_lay_2 : decode cX7_lay 2 = .ok (.iconst 2, 1) := by decide +kernel
theorem dX7_lay_3 : decode cX7_lay 3 = .ok (.irem, 1) := by decide +kernel
theorem dX7_lay_4 : decode cX7_lay 4 = .ok (.invokevirtual 105, 3) := by decide +kernel
theorem dX7_lay_7 : decode cX7_lay 7 = .ok (.aload_n 0, 1) := by decide +kernel
theorem dX7_lay_8 : decode cX7_lay 8 = .ok (.invokevirtual 109, 3) := by decide +kernel
theorem dX7_lay_11 : decode cX7_lay 11 = .ok (.iload_n 1, 1) := by decide +kernel
theorem dX7_lay_12 : decode cX7_lay 12 = .ok (.iconst 2, 1) := by decide +kernel
theorem dX7_lay_13 : decode cX7_lay 13 = .ok (.if_icmp .lt 34, 3) := by decide +kernel
theorem dX7_lay_16 : decode cX7_lay 16 = .ok (.iconst 0, 1) := by decide +kernel
theorem dX7_lay_17 : decode cX7_lay 17 = .ok (.istore_n 2, 1) := by decide +kernel
theorem dX7_lay_18 : decode cX7_lay 18 = .ok (.iload_n 2, 1) := by decide +kernel
theorem dX7_lay_19 : decode cX7_lay 19 = .ok (.aload_n 0, 1) := by decide +kernel
theorem dX7_lay_20 : decode cX7_lay 20 = .ok (.invokevirtual 67, 3) := by decide +kernel
theorem dX7_lay_23 : decode cX7_lay 23 = .ok (.if_icmp .gt 20, 3) := by decide +kernel
theorem dX7_lay_26 : decode cX7_lay 26 = .ok (.aload_n 0, 1) := by decide +kernel
theorem dX7_lay_27 : decode cX7_lay 27 = .ok (.getfield 38, 3) := by decide +kernel
theorem dX7_lay_30 : decode cX7_lay 30 = .ok (.iload_n 2, 1) := by decide +kernel
theorem dX7_lay_31 : decode cX7_lay 31 = .ok (.aload_n 0, 1) := by decide +kernel
theorem dX7_lay_32 : decode cX7_lay 32 = .ok (.iload_n 2, 1) := by decide +kernel
theorem dX7_lay_33 : decode cX7_lay 33 = .ok (.invokevirtual 112, 3) := by decide +kernel
theorem dX7_lay_36 : decode cX7_lay 36 = .ok (.bastore, 1) := by decide +kernel
theorem dX7_lay_37 : decode cX7_lay 37 = .ok (.iinc 2 1, 3) := by decide +kernel
theorem dX7_lay_40 : decode cX7_lay 40 = .ok (.goto (-22), 3) := by decide +kernel
theorem dX7_lay_43 : decode cX7_lay 43 = .ok (.aload_n 0, 1) := by decide +kernel
theorem dX7_lay_44 : decode cX7_lay 44 = .ok (.invokevirtual 109, 3) := by decide +kernel
theorem dX7_lay_47 : decode cX7_lay 47 = .ok (.return_, 1) := by decide +kernel
theorem dX7_begins_0 : decode cX7_begins 0 = .ok (.aload_n 0, 1) := by decide +kernel
theorem dX7_begins_1 : decode cX7_begins 1 = .ok (.iload_n 1, 1) := by decide +kernel
theorem dX7_begins_2 : decode cX7_begins 2 = .ok (.putfield 7, 3) := by decide +kernel
theorem dX7_begins_5 : decode cX7_begins 5 = .ok (.aload_n 0, 1) := by decide +kernel
theorem dX7_begins_6 : decode cX7_begins 6 = .ok (.iconst 0, 1) := by decide +kernel
theorem dX7_begins_7 : decode cX7_begins 7 = .ok (.putfield 74, 3) := by decide +kernel
theorem dX7_begins_10 : decode cX7_begins 10 = .ok (.aload_n 0, 1) := by decide +kernel
theorem dX7_begins_11 : decode cX7_begins 11 = .ok (.iconst 0, 1) := by decide +kernel
theorem dX7_begins_12 : decode cX7_begins 12 = .ok (.putfield 71, 3) := by decide +kernel
theorem dX7_begins_15 : decode cX7_begins 15 = .ok (.iconst 0, 1) := by decide +kernel
theorem dX7_begins_16 : decode cX7_begins 16 = .ok (.istore_n 2, 1) := by decide +kernel
theorem dX7_begins_17 : decode cX7_begins 17 = .ok (.iload_n 2, 1) := by decide +kernel
theorem dX7_begins_18 : decode cX7_begins 18 = .ok (.bipush 8, 2) := by decide +kernel
theorem dX7_begins_20 : decode cX7_begins 20 = .ok (.if_icmp .ge 23, 3) := by decide +kernel
theorem dX7_begins_23 : decode cX7_begins 23 = .ok (.aload_n 0, 1) := by decide +kernel
theorem dX7_begins_24 : decode cX7_begins 24 = .ok (.getfield 13, 3) := by decide +kernel
theorem dX7_begins_27 : decode cX7_begins 27 = .ok (.iload_n 2, 1) := by decide +kernel
theorem dX7_begins_28 : decode cX7_begins 28 = .ok (.iconst 0, 1) := by decide +kernel
theorem dX7_begins_29 : decode cX7_begins 29 = .ok (.iastore, 1) := by decide +kernel
theorem dX7_begins_30 : decode cX7_begins 30 = .ok (.aload_n 0, 1) := by decide +kernel
theorem dX7_begins_31 : decode cX7_begins 31 = .ok (.getfield 17, 3) := by decide +kernel
theorem dX7_begins_34 : decode cX7_begins 34 = .ok (.iload_n 2, 1) := by decide +kernel
theorem dX7_begins_35 : decode cX7_begins 35 = .ok (.iconst 0, 1) := by decide +kernel
theorem dX7_begins_36 : decode cX7_begins 36 = .ok (.iastore, 1) := by decide +kernel
theorem dX7_begins_37 : decode cX7_begins 37 = .ok (.iinc 2 1, 3) := by decide +kernel
theorem dX7_begins_40 : decode cX7_begins 40 = .ok (.goto (-23), 3) := by decide +kernel
theorem dX7_begins_43 : decode cX7_begins 43 = .ok (.return_, 1) := by decide +kernel
theorem dX7_posts_0 : decode cX7_posts 0 = .ok (.iload_n 1, 1) := by decide +kernel
theorem dX7_posts_1 : decode cX7_posts 1 = .ok (.iconst 1, 1) := by decide +kernel
theorem dX7_posts_2 : decode cX7_posts 2 = .ok (.bipush 8, 2) := by decide +kernel
theorem dX7_posts_4 : decode cX7_posts 4 = .ok (.invokestatic 63, 3) := by decide +kernel
theorem dX7_posts_7 : decode cX7_posts 7 = .ok (.ifCond .ne 6, 3) := by decide +kernel
theorem dX7_posts_10 : decode cX7_posts 10 = .ok (.bipush (-2), 2) := by decide +kernel
theorem dX7_posts_12 : decode cX7_posts 12 = .ok (.ireturn, 1) := by decide +kernel
theorem dX7_posts_13 : decode cX7_posts 13 = .ok (.aload_n 0, 1) := by decide +kernel
theorem dX7_posts_14 : decode cX7_posts 14 = .ok (.getfield 7, 3) := by decide +kernel
theorem dX7_posts_17 : decode cX7_posts 17 = .ok (.istore_n 2, 1) := by decide +kernel
theorem dX7_posts_18 : decode cX7_posts 18 = .ok (.aload_n 0, 1) := by decide +kernel
theorem dX7_posts_19 : decode cX7_posts 19 = .ok (.iload_n 1, 1) := by decide +kernel
theorem dX7_posts_20 : decode cX7_posts 20 = .ok (.invokevirtual 116, 3) := by decide +kernel
theorem dX7_posts_23 : decode cX7_posts 23 = .ok (.iload_n 2, 1) := by decide +kernel
theorem dX7_posts_24 : decode cX7_posts 24 = .ok (.ireturn, 1) := by decide +kernel
theorem dX7_road_0 : decode cX7_road 0 = .ok (.aload_n 0, 1) := by decide +kernel
theorem dX7_road_1 : decode cX7_road 1 = .ok (.iload_n 1, 1) := by decide +kernel
theorem dX7_road_2 : decode cX7_road 2 = .ok (.invokevirtual 119, 3) := by decide +kernel
theorem dX7_road_5 : decode cX7_road 5 = .ok (.ifCond .eq 11, 3) := by decide +kernel
theorem dX7_road_8 : decode cX7_road 8 = .ok (.aload_n 0, 1) := by decide +kernel
theorem dX7_road_9 : decode cX7_road 9 = .ok (.iload_n 2, 1) := by decide +kernel
theorem dX7_road_10 : decode cX7_road 10 = .ok (.invokevirtual 119, 3) := by decide +kernel
theorem dX7_road_13 : decode cX7_road 13 = .ok (.ifCond .ne 5, 3) := by decide +kernel
theorem dX7_road_16 : decode cX7_road 16 = .ok (.iconst (-1), 1) := by decide +kernel
theorem dX7_road_17 : decode cX7_road 17 = .ok (.ireturn, 1) := by decide +kernel
theorem dX7_road_18 : decode cX7_road 18 = .ok (.iload_n 3, 1) := by decide +kernel
theorem dX7_road_19 : decode cX7_road 19 = .ok (.iconst 0, 1) := by decide +kernel
theorem dX7_road_20 : decode cX7_road 20 = .ok (.iconst 1, 1) := by decide +kernel
theorem dX7_road_21 : decode cX7_road 21 = .ok (.invokestatic 63, 3) := by decide +kernel
theorem dX7_road_24 : decode cX7_road 24 = .ok (.ifCond .ne 6, 3) := by decide +kernel
theorem dX7_road_27 : decode cX7_road 27 = .ok (.bipush (-2), 2) := by decide +kernel
theorem dX7_road_29 : decode cX7_road 29 = .ok (.ireturn, 1) := by decide +kernel
theorem dX7_road_30 : decode cX7_road 30 = .ok (.iload_n 1, 1) := by decide +kernel
theorem dX7_road_31 : decode cX7_road 31 = .ok (.iload_n 2, 1) := by decide +kernel
theorem dX7_road_32 : decode cX7_road 32 = .ok (.if_icmp .ne 6, 3) := by decide +kernel
theorem dX7_road_35 : decode cX7_road 35 = .ok (.bipush (-3), 2) := by decide +kernel
theorem dX7_road_37 : decode cX7_road 37 = .ok (.ireturn, 1) := by decide +kernel
theorem dX7_road_38 : decode cX7_road 38 = .ok (.aload_n 0, 1) := by decide +kernel
theorem dX7_road_39 : decode cX7_road 39 = .ok (.getfield 13, 3) := by decide +kernel
theorem dX7_road_42 : decode cX7_road 42 = .ok (.iload_n 1, 1) := by decide +kernel
theorem dX7_road_43 : decode cX7_road 43 = .ok (.iaload, 1) := by decide +kernel
theorem dX7_road_44 : decode cX7_road 44 = .ok (.iload_n 2, 1) := by decide +kernel
theorem dX7_road_45 : decode cX7_road 45 = .ok (.ishr, 1) := by decide +kernel
theorem dX7_road_46 : decode cX7_road 46 = .ok (.iconst 1, 1) := by decide +kernel
theorem dX7_road_47 : decode cX7_road 47 = .ok (.iand, 1) := by decide +kernel
theorem dX7_road_48 : decode cX7_road 48 = .ok (.istore 4, 2) := by decide +kernel
theorem dX7_road_50 : decode cX7_road 50 = .ok (.aload_n 0, 1) := by decide +kernel
theorem dX7_road_51 : decode cX7_road 51 = .ok (.getfield 13, 3) := by decide +kernel
theorem dX7_road_54 : decode cX7_road 54 = .ok (.iload_n 1, 1) := by decide +kernel
theorem dX7_road_55 : decode cX7_road 55 = .ok (.aload_n 0, 1) := by decide +kernel
theorem dX7_road_56 : decode cX7_road 56 = .ok (.getfield 13, 3) := by decide +kernel
theorem dX7_road_59 : decode cX7_road 59 = .ok (.iload_n 1, 1) := by decide +kernel
theorem dX7_road_60 : decode cX7_road 60 = .ok (.iaload, 1) := by decide +kernel
theorem dX7_road_61 : decode cX7_road 61 = .ok (.iconst 1, 1) := by decide +kernel
theorem dX7_road_62 : decode cX7_road 62 = .ok (.iload_n 2, 1) := by decide +kernel
theorem dX7_road_63 : decode cX7_road 63 = .ok (.ishl, 1) := by decide +kernel
theorem dX7_road_64 : decode cX7_road 64 = .ok (.iconst (-1), 1) := by decide +kernel
theorem dX7_road_65 : decode cX7_road 65 = .ok (.ixor, 1) := by decide +kernel
theorem dX7_road_66 : decode cX7_road 66 = .ok (.iand, 1) := by decide +kernel
theorem dX7_road_67 : decode cX7_road 67 = .ok (.iload_n 3, 1) := by decide +kernel
theorem dX7_road_68 : decode cX7_road 68 = .ok (.iload_n 2, 1) := by decide +kernel
theorem dX7_road_69 : decode cX7_road 69 = .ok (.ishl, 1) := by decide +kernel
theorem dX7_road_70 : decode cX7_road 70 = .ok (.ior, 1) := by decide +kernel
theorem dX7_road_71 : decode cX7_road 71 = .ok (.iastore, 1) := by decide +kernel
theorem dX7_road_72 : decode cX7_road 72 = .ok (.iload 4, 2) := by decide +kernel
theorem dX7_road_74 : decode cX7_road 74 = .ok (.ireturn, 1) := by decide +kernel
theorem dX7_isRoad_0 : decode cX7_isRoad 0 = .ok (.aload_n 0, 1) := by decide +kernel
theorem dX7_isRoad_1 : decode cX7_isRoad 1 = .ok (.iload_n 1, 1) := by decide +kernel
theorem dX7_isRoad_2 : decode cX7_isRoad 2 = .ok (.invokevirtual 119, 3) := by decide +kernel
theorem dX7_isRoad_5 : decode cX7_isRoad 5 = .ok (.ifCond .eq 24, 3) := by decide +kernel
theorem dX7_isRoad_8 : decode cX7_isRoad 8 = .ok (.aload_n 0, 1) := by decide +kernel
theorem dX7_isRoad_9 : decode cX7_isRoad 9 = .ok (.iload_n 2, 1) := by decide +kernel
theorem dX7_isRoad_10 : decode cX7_isRoad 10 = .ok (.invokevirtual 119, 3) := by decide +kernel
theorem dX7_isRoad_13 : decode cX7_isRoad 13 = .ok (.ifCond .eq 16, 3) := by decide +kernel
theorem dX7_isRoad_16 : decode cX7_isRoad 16 = .ok (.aload_n 0, 1) := by decide +kernel
theorem dX7_isRoad_17 : decode cX7_isRoad 17 = .ok (.getfield 13, 3) := by decide +kernel
theorem dX7_isRoad_20 : decode cX7_isRoad 20 = .ok (.iload_n 1, 1) := by decide +kernel
theorem dX7_isRoad_21 : decode cX7_isRoad 21 = .ok (.iaload, 1) := by decide +kernel
theorem dX7_isRoad_22 : decode cX7_isRoad 22 = .ok (.iload_n 2, 1) := by decide +kernel
theorem dX7_isRoad_23 : decode cX7_isRoad 23 = .ok (.ishr, 1) := by decide +kernel
theorem dX7_isRoad_24 : decode cX7_isRoad 24 = .ok (.iconst 1, 1) := by decide +kernel
theorem dX7_isRoad_25 : decode cX7_isRoad 25 = .ok (.iand, 1) := by decide +kernel
theorem dX7_isRoad_26 : decode cX7_isRoad 26 = .ok (.goto 4, 3) := by decide +kernel
theorem dX7_isRoad_29 : decode cX7_isRoad 29 = .ok (.iconst (-1), 1) := by decide +kernel
theorem dX7_isRoad_30 : decode cX7_isRoad 30 = .ok (.ireturn, 1) := by decide +kernel
theorem dX7_targets_0 : decode cX7_targets 0 = .ok (.aload_n 0, 1) := by decide +kernel
theorem dX7_targets_1 : decode cX7_targets 1 = .ok (.iload_n 1, 1) := by decide +kernel
theorem dX7_targets_2 : decode cX7_targets 2 = .ok (.invokevirtual 122, 3) := by decide +kernel
theorem dX7_targets_5 : decode cX7_targets 5 = .ok (.ifCond .ne 6, 3) := by decide +kernel
theorem dX7_targets_8 : decode cX7_targets 8 = .ok (.bipush (-2), 2) := by decide +kernel
theorem dX7_targets_10 : decode cX7_targets 10 = .ok (.ireturn, 1) := by decide +kernel
theorem dX7_targets_11 : decode cX7_targets 11 = .ok (.aload_n 0, 1) := by decide +kernel
theorem dX7_targets_12 : decode cX7_targets 12 = .ok (.getfield 74, 3) := by decide +kernel
theorem dX7_targets_15 : decode cX7_targets 15 = .ok (.istore_n 2, 1) := by decide +kernel
theorem dX7_targets_16 : decode cX7_targets 16 = .ok (.aload_n 0, 1) := by decide +kernel
theorem dX7_targets_17 : decode cX7_targets 17 = .ok (.iload_n 1, 1) := by decide +kernel
theorem dX7_targets_18 : decode cX7_targets 18 = .ok (.putfield 74, 3) := by decide +kernel
theorem dX7_targets_21 : decode cX7_targets 21 = .ok (.iload_n 2, 1) := by decide +kernel
theorem dX7_targets_22 : decode cX7_targets 22 = .ok (.ireturn, 1) := by decide +kernel
theorem dX7_weigh_0 : decode cX7_weigh 0 = .ok (.aload_n 0, 1) := by decide +kernel
theorem dX7_weigh_1 : decode cX7_weigh 1 = .ok (.iload_n 1, 1) := by decide +kernel
theorem dX7_weigh_2 : decode cX7_weigh 2 = .ok (.invokevirtual 119, 3) := by decide +kernel
theorem dX7_weigh_5 : decode cX7_weigh 5 = .ok (.ifCond .ne 5, 3) := by decide +kernel
theorem dX7_weigh_8 : decode cX7_weigh 8 = .ok (.iconst (-1), 1) := by decide +kernel
theorem dX7_weigh_9 : decode cX7_weigh 9 = .ok (.ireturn, 1) := by decide +kernel
theorem dX7_weigh_10 : decode cX7_weigh 10 = .ok (.iload_n 2, 1) := by decide +kernel
theorem dX7_weigh_11 : decode cX7_weigh 11 = .ok (.iconst 0, 1) := by decide +kernel
theorem dX7_weigh_12 : decode cX7_weigh 12 = .ok (.bipush 99, 2) := by decide +kernel
theorem dX7_weigh_14 : decode cX7_weigh 14 = .ok (.invokestatic 63, 3) := by decide +kernel
theorem dX7_weigh_17 : decode cX7_weigh 17 = .ok (.ifCond .ne 6, 3) := by decide +kernel
theorem dX7_weigh_20 : decode cX7_weigh 20 = .ok (.bipush (-2), 2) := by decide +kernel
theorem dX7_weigh_22 : decode cX7_weigh 22 = .ok (.ireturn, 1) := by decide +kernel
theorem dX7_weigh_23 : decode cX7_weigh 23 = .ok (.aload_n 0, 1) := by decide +kernel
theorem dX7_weigh_24 : decode cX7_weigh 24 = .ok (.getfield 17, 3) := by decide +kernel
theorem dX7_weigh_27 : decode cX7_weigh 27 = .ok (.iload_n 1, 1) := by decide +kernel
theorem dX7_weigh_28 : decode cX7_weigh 28 = .ok (.iaload, 1) := by decide +kernel
theorem dX7_weigh_29 : decode cX7_weigh 29 = .ok (.istore_n 3, 1) := by decide +kernel
theorem dX7_weigh_30 : decode cX7_weigh 30 = .ok (.aload_n 0, 1) := by decide +kernel
theorem dX7_weigh_31 : decode cX7_weigh 31 = .ok (.getfield 17, 3) := by decide +kernel
theorem dX7_weigh_34 : decode cX7_weigh 34 = .ok (.iload_n 1, 1) := by decide +kernel
theorem dX7_weigh_35 : decode cX7_weigh 35 = .ok (.iload_n 2, 1) := by decide +kernel
theorem dX7_weigh_36 : decode cX7_weigh 36 = .ok (.iastore, 1) := by decide +kernel
theorem dX7_weigh_37 : decode cX7_weigh 37 = .ok (.iload_n 3, 1) := by decide +kernel
theorem dX7_weigh_38 : decode cX7_weigh 38 = .ok (.ireturn, 1) := by decide +kernel
theorem dX7_add_0 : decode cX7_add 0 = .ok (.aload_n 0, 1) := by decide +kernel
theorem dX7_add_1 : decode cX7_add 1 = .ok (.iload_n 1, 1) := by decide +kernel
theorem dX7_add_2 : decode cX7_add 2 = .ok (.invokevirtual 122, 3) := by decide +kernel
theorem dX7_add_5 : decode cX7_add 5 = .ok (.ifCond .ne 6, 3) := by decide +kernel
theorem dX7_add_8 : decode cX7_add 8 = .ok (.bipush (-2), 2) := by decide +kernel
theorem dX7_add_10 : decode cX7_add 10 = .ok (.ireturn, 1) := by decide +kernel
theorem dX7_add_11 : decode cX7_add 11 = .ok (.aload_n 0, 1) := by decide +kernel
theorem dX7_add_12 : decode cX7_add 12 = .ok (.getfield 71, 3) := by decide +kernel
theorem dX7_add_15 : decode cX7_add 15 = .ok (.bipush 8, 2) := by decide +kernel
theorem dX7_add_17 : decode cX7_add 17 = .ok (.if_icmp .ne 6, 3) := by decide +kernel
theorem dX7_add_20 : decode cX7_add 20 = .ok (.bipush (-4), 2) := by decide +kernel
theorem dX7_add_22 : decode cX7_add 22 = .ok (.ireturn, 1) := by decide +kernel
theorem dX7_add_23 : decode cX7_add 23 = .ok (.aload_n 0, 1) := by decide +kernel
theorem dX7_add_24 : decode cX7_add 24 = .ok (.getfield 20, 3) := by decide +kernel
theorem dX7_add_27 : decode cX7_add 27 = .ok (.aload_n 0, 1) := by decide +kernel
theorem dX7_add_28 : decode cX7_add 28 = .ok (.getfield 71, 3) := by decide +kernel
theorem dX7_add_31 : decode cX7_add 31 = .ok (.iload_n 1, 1) := by decide +kernel
theorem dX7_add_32 : decode cX7_add 32 = .ok (.iastore, 1) := by decide +kernel
theorem dX7_add_33 : decode cX7_add 33 = .ok (.aload_n 0, 1) := by decide +kernel
theorem dX7_add_34 : decode cX7_add 34 = .ok (.dup, 1) := by decide +kernel
theorem dX7_add_35 : decode cX7_add 35 = .ok (.getfield 71, 3) := by decide +kernel
theorem dX7_add_38 : decode cX7_add 38 = .ok (.iconst 1, 1) := by decide +kernel
theorem dX7_add_39 : decode cX7_add 39 = .ok (.iadd, 1) := by decide +kernel
theorem dX7_add_40 : decode cX7_add 40 = .ok (.putfield 71, 3) := by decide +kernel
theorem dX7_add_43 : decode cX7_add 43 = .ok (.aload_n 0, 1) := by decide +kernel
theorem dX7_add_44 : decode cX7_add 44 = .ok (.getfield 71, 3) := by decide +kernel
theorem dX7_add_47 : decode cX7_add 47 = .ok (.iconst 1, 1) := by decide +kernel
theorem dX7_add_48 : decode cX7_add 48 = .ok (.isub, 1) := by decide +kernel
theorem dX7_add_49 : decode cX7_add 49 = .ok (.ireturn, 1) := by decide +kernel
theorem dX7_change_0 : decode cX7_change 0 = .ok (.aload_n 0, 1) := by decide +kernel
theorem dX7_change_1 : decode cX7_change 1 = .ok (.iload_n 1, 1) := by decide +kernel
theorem dX7_change_2 : decode cX7_change 2 = .ok (.invokevirtual 125, 3) := by decide +kernel
theorem dX7_change_5 : decode cX7_change 5 = .ok (.ifCond .ne 5, 3) := by decide +kernel
theorem dX7_change_8 : decode cX7_change 8 = .ok (.iconst (-1), 1) := by decide +kernel
theorem dX7_change_9 : decode cX7_change 9 = .ok (.ireturn, 1) := by decide +kernel
theorem dX7_change_10 : decode cX7_change 10 = .ok (.aload_n 0, 1) := by decide +kernel
theorem dX7_change_11 : decode cX7_change 11 = .ok (.iload_n 2, 1) := by decide +kernel
theorem dX7_change_12 : decode cX7_change 12 = .ok (.invokevirtual 122, 3) := by decide +kernel
theorem dX7_change_15 : decode cX7_change 15 = .ok (.ifCond .ne 6, 3) := by decide +kernel
theorem dX7_change_18 : decode cX7_change 18 = .ok (.bipush (-2), 2) := by decide +kernel
theorem dX7_change_20 : decode cX7_change 20 = .ok (.ireturn, 1) := by decide +kernel
theorem dX7_change_21 : decode cX7_change 21 = .ok (.aload_n 0, 1) := by decide +kernel
theorem dX7_change_22 : decode cX7_change 22 = .ok (.getfield 20, 3) := by decide +kernel
theorem dX7_change_25 : decode cX7_change 25 = .ok (.iload_n 1, 1) := by decide +kernel
theorem dX7_change_26 : decode cX7_change 26 = .ok (.iaload, 1) := by decide +kernel
theorem dX7_change_27 : decode cX7_change 27 = .ok (.istore_n 3, 1) := by decide +kernel
theorem dX7_change_28 : decode cX7_change 28 = .ok (.aload_n 0, 1) := by decide +kernel
theorem dX7_change_29 : decode cX7_change 29 = .ok (.getfield 20, 3) := by decide +kernel
theorem dX7_change_32 : decode cX7_change 32 = .ok (.iload_n 1, 1) := by decide +kernel
theorem dX7_change_33 : decode cX7_change 33 = .ok (.iload_n 2, 1) := by decide +kernel
theorem dX7_change_34 : decode cX7_change 34 = .ok (.iastore, 1) := by decide +kernel
theorem dX7_change_35 : decode cX7_change 35 = .ok (.iload_n 3, 1) := by decide +kernel
theorem dX7_change_36 : decode cX7_change 36 = .ok (.ireturn, 1) := by decide +kernel
theorem dX7_goes_0 : decode cX7_goes 0 = .ok (.aload_n 0, 1) := by decide +kernel
theorem dX7_goes_1 : decode cX7_goes 1 = .ok (.dup, 1) := by decide +kernel
theorem dX7_goes_2 : decode cX7_goes 2 = .ok (.getfield 71, 3) := by decide +kernel
theorem dX7_goes_5 : decode cX7_goes 5 = .ok (.iconst 1, 1) := by decide +kernel
theorem dX7_goes_6 : decode cX7_goes 6 = .ok (.isub, 1) := by decide +kernel
theorem dX7_goes_7 : decode cX7_goes 7 = .ok (.putfield 71, 3) := by decide +kernel
theorem dX7_goes_10 : decode cX7_goes 10 = .ok (.iload_n 1, 1) := by decide +kernel
theorem dX7_goes_11 : decode cX7_goes 11 = .ok (.istore_n 2, 1) := by decide +kernel
theorem dX7_goes_12 : decode cX7_goes 12 = .ok (.iload_n 2, 1) := by decide +kernel
theorem dX7_goes_13 : decode cX7_goes 13 = .ok (.aload_n 0, 1) := by decide +kernel
theorem dX7_goes_14 : decode cX7_goes 14 = .ok (.getfield 71, 3) := by decide +kernel
theorem dX7_goes_17 : decode cX7_goes 17 = .ok (.if_icmp .ge 23, 3) := by decide +kernel
theorem dX7_goes_20 : decode cX7_goes 20 = .ok (.aload_n 0, 1) := by decide +kernel
theorem dX7_goes_21 : decode cX7_goes 21 = .ok (.getfield 20, 3) := by decide +kernel
theorem dX7_goes_24 : decode cX7_goes 24 = .ok (.iload_n 2, 1) := by decide +kernel
theorem dX7_goes_25 : decode cX7_goes 25 = .ok (.aload_n 0, 1) := by decide +kernel
theorem dX7_goes_26 : decode cX7_goes 26 = .ok (.getfield 20, 3) := by decide +kernel
theorem dX7_goes_29 : decode cX7_goes 29 = .ok (.iload_n 2, 1) := by decide +kernel
theorem dX7_goes_30 : decode cX7_goes 30 = .ok (.iconst 1, 1) := by decide +kernel
theorem dX7_goes_31 : decode cX7_goes 31 = .ok (.iadd, 1) := by decide +kernel
theorem dX7_goes_32 : decode cX7_goes 32 = .ok (.iaload, 1) := by decide +kernel
theorem dX7_goes_33 : decode cX7_goes 33 = .ok (.iastore, 1) := by decide +kernel
theorem dX7_goes_34 : decode cX7_goes 34 = .ok (.iinc 2 1, 3) := by decide +kernel
theorem dX7_goes_37 : decode cX7_goes 37 = .ok (.goto (-25), 3) := by decide +kernel
theorem dX7_goes_40 : decode cX7_goes 40 = .ok (.return_, 1) := by decide +kernel
theorem dX7_drop_0 : decode cX7_drop 0 = .ok (.aload_n 0, 1) := by decide +kernel
theorem dX7_drop_1 : decode cX7_drop 1 = .ok (.iload_n 1, 1) := by decide +kernel
theorem dX7_drop_2 : decode cX7_drop 2 = .ok (.invokevirtual 125, 3) := by decide +kernel
theorem dX7_drop_5 : decode cX7_drop 5 = .ok (.ifCond .ne 5, 3) := by decide +kernel
theorem dX7_drop_8 : decode cX7_drop 8 = .ok (.iconst (-1), 1) := by decide +kernel
theorem dX7_drop_9 : decode cX7_drop 9 = .ok (.ireturn, 1) := by decide +kernel
theorem dX7_drop_10 : decode cX7_drop 10 = .ok (.aload_n 0, 1) := by decide +kernel
theorem dX7_drop_11 : decode cX7_drop 11 = .ok (.iload_n 1, 1) := by decide +kernel
theorem dX7_drop_12 : decode cX7_drop 12 = .ok (.invokevirtual 128, 3) := by decide +kernel
theorem dX7_drop_15 : decode cX7_drop 15 = .ok (.aload_n 0, 1) := by decide +kernel
theorem dX7_drop_16 : decode cX7_drop 16 = .ok (.getfield 71, 3) := by decide +kernel
theorem dX7_drop_19 : decode cX7_drop 19 = .ok (.ireturn, 1) := by decide +kernel
theorem dX7_set_0 : decode cX7_set 0 = .ok (.aload_n 0, 1) := by decide +kernel
theorem dX7_set_1 : decode cX7_set 1 = .ok (.iload_n 1, 1) := by decide +kernel
theorem dX7_set_2 : decode cX7_set 2 = .ok (.invokevirtual 125, 3) := by decide +kernel
theorem dX7_set_5 : decode cX7_set 5 = .ok (.ifCond .eq 12, 3) := by decide +kernel
theorem dX7_set_8 : decode cX7_set 8 = .ok (.aload_n 0, 1) := by decide +kernel
theorem dX7_set_9 : decode cX7_set 9 = .ok (.getfield 20, 3) := by decide +kernel
theorem dX7_set_12 : decode cX7_set 12 = .ok (.iload_n 1, 1) := by decide +kernel
theorem dX7_set_13 : decode cX7_set 13 = .ok (.iaload, 1) := by decide +kernel
theorem dX7_set_14 : decode cX7_set 14 = .ok (.goto 4, 3) := by decide +kernel
theorem dX7_set_17 : decode cX7_set 17 = .ok (.iconst (-1), 1) := by decide +kernel
theorem dX7_set_18 : decode cX7_set 18 = .ok (.ireturn, 1) := by decide +kernel
theorem dX7_rank_0 : decode cX7_rank 0 = .ok (.iload_n 1, 1) := by decide +kernel
theorem dX7_rank_1 : decode cX7_rank 1 = .ok (.invokestatic 131, 3) := by decide +kernel
theorem dX7_rank_4 : decode cX7_rank 4 = .ok (.ifCond .ne 5, 3) := by decide +kernel
theorem dX7_rank_7 : decode cX7_rank 7 = .ok (.iconst (-1), 1) := by decide +kernel
theorem dX7_rank_8 : decode cX7_rank 8 = .ok (.ireturn, 1) := by decide +kernel
theorem dX7_rank_9 : decode cX7_rank 9 = .ok (.aload_n 0, 1) := by decide +kernel
theorem dX7_rank_10 : decode cX7_rank 10 = .ok (.iload_n 2, 1) := by decide +kernel
theorem dX7_rank_11 : decode cX7_rank 11 = .ok (.invokevirtual 122, 3) := by decide +kernel
theorem dX7_rank_14 : decode cX7_rank 14 = .ok (.ifCond .ne 6, 3) := by decide +kernel
theorem dX7_rank_17 : decode cX7_rank 17 = .ok (.bipush (-2), 2) := by decide +kernel
theorem dX7_rank_19 : decode cX7_rank 19 = .ok (.ireturn, 1) := by decide +kernel
theorem dX7_rank_20 : decode cX7_rank 20 = .ok (.aload_n 0, 1) := by decide +kernel
theorem dX7_rank_21 : decode cX7_rank 21 = .ok (.iload_n 1, 1) := by decide +kernel
theorem dX7_rank_22 : decode cX7_rank 22 = .ok (.invokevirtual 134, 3) := by decide +kernel
theorem dX7_rank_25 : decode cX7_rank 25 = .ok (.aload_n 0, 1) := by decide +kernel
theorem dX7_rank_26 : decode cX7_rank 26 = .ok (.getfield 45, 3) := by decide +kernel
theorem dX7_rank_29 : decode cX7_rank 29 = .ok (.iload_n 2, 1) := by decide +kernel
theorem dX7_rank_30 : decode cX7_rank 30 = .ok (.iaload, 1) := by decide +kernel
theorem dX7_rank_31 : decode cX7_rank 31 = .ok (.ireturn, 1) := by decide +kernel
theorem dX7_free_0 : decode cX7_free 0 = .ok (.iload_n 1, 1) := by decide +kernel
theorem dX7_free_1 : decode cX7_free 1 = .ok (.invokestatic 131, 3) := by decide +kernel
theorem dX7_free_4 : decode cX7_free 4 = .ok (.ifCond .ne 5, 3) := by decide +kernel
theorem dX7_free_7 : decode cX7_free 7 = .ok (.iconst (-1), 1) := by decide +kernel
theorem dX7_free_8 : decode cX7_free 8 = .ok (.ireturn, 1) := by decide +kernel
theorem dX7_free_9 : decode cX7_free 9 = .ok (.aload_n 0, 1) := by decide +kernel
theorem dX7_free_10 : decode cX7_free 10 = .ok (.iload_n 2, 1) := by decide +kernel
theorem dX7_free_11 : decode cX7_free 11 = .ok (.invokevirtual 122, 3) := by decide +kernel
theorem dX7_free_14 : decode cX7_free 14 = .ok (.ifCond .ne 6, 3) := by decide +kernel
theorem dX7_free_17 : decode cX7_free 17 = .ok (.bipush (-2), 2) := by decide +kernel
theorem dX7_free_19 : decode cX7_free 19 = .ok (.ireturn, 1) := by decide +kernel
theorem dX7_free_20 : decode cX7_free 20 = .ok (.aload_n 0, 1) := by decide +kernel
theorem dX7_free_21 : decode cX7_free 21 = .ok (.iload_n 1, 1) := by decide +kernel
theorem dX7_free_22 : decode cX7_free 22 = .ok (.invokevirtual 134, 3) := by decide +kernel
theorem dX7_free_25 : decode cX7_free 25 = .ok (.aload_n 0, 1) := by decide +kernel
theorem dX7_free_26 : decode cX7_free 26 = .ok (.getfield 38, 3) := by decide +kernel
theorem dX7_free_29 : decode cX7_free 29 = .ok (.iload_n 2, 1) := by decide +kernel
theorem dX7_free_30 : decode cX7_free 30 = .ok (.baload, 1) := by decide +kernel
theorem dX7_free_31 : decode cX7_free 31 = .ok (.ifCond .eq 7, 3) := by decide +kernel
theorem dX7_free_34 : decode cX7_free 34 = .ok (.iconst 1, 1) := by decide +kernel
theorem dX7_free_35 : decode cX7_free 35 = .ok (.goto 4, 3) := by decide +kernel
theorem dX7_free_38 : decode cX7_free 38 = .ok (.iconst 0, 1) := by decide +kernel
theorem dX7_free_39 : decode cX7_free 39 = .ok (.ireturn, 1) := by decide +kernel
theorem dX7_isCircuit_0 : decode cX7_isCircuit 0 = .ok (.aload_n 0, 1) := by decide +kernel
theorem dX7_isCircuit_1 : decode cX7_isCircuit 1 = .ok (.getfield 38, 3) := by decide +kernel
theorem dX7_isCircuit_4 : decode cX7_isCircuit 4 = .ok (.iload_n 1, 1) := by decide +kernel
theorem dX7_isCircuit_5 : decode cX7_isCircuit 5 = .ok (.baload, 1) := by decide +kernel
theorem dX7_isCircuit_6 : decode cX7_isCircuit 6 = .ok (.ifCond .ne 7, 3) := by decide +kernel
theorem dX7_isCircuit_9 : decode cX7_isCircuit 9 = .ok (.iconst 1, 1) := by decide +kernel
theorem dX7_isCircuit_10 : decode cX7_isCircuit 10 = .ok (.goto 4, 3) := by decide +kernel
theorem dX7_isCircuit_13 : decode cX7_isCircuit 13 = .ok (.iconst 0, 1) := by decide +kernel
theorem dX7_isCircuit_14 : decode cX7_isCircuit 14 = .ok (.istore_n 2, 1) := by decide +kernel
theorem dX7_isCircuit_15 : decode cX7_isCircuit 15 = .ok (.iconst 0, 1) := by decide +kernel
theorem dX7_isCircuit_16 : decode cX7_isCircuit 16 = .ok (.istore_n 3, 1) := by decide +kernel
theorem dX7_isCircuit_17 : decode cX7_isCircuit 17 = .ok (.iload_n 3, 1) := by decide +kernel
theorem dX7_isCircuit_18 : decode cX7_isCircuit 18 = .ok (.aload_n 0, 1) := by decide +kernel
theorem dX7_isCircuit_19 : decode cX7_isCircuit 19 = .ok (.getfield 7, 3) := by decide +kernel
theorem dX7_isCircuit_22 : decode cX7_isCircuit 22 = .ok (.if_icmp .ge 42, 3) := by decide +kernel
theorem dX7_isCircuit_25 : decode cX7_isCircuit 25 = .ok (.iload_n 2, 1) := by decide +kernel
theorem dX7_isCircuit_26 : decode cX7_isCircuit 26 = .ok (.ifCond .eq 30, 3) := by decide +kernel
theorem dX7_isCircuit_29 : decode cX7_isCircuit 29 = .ok (.iload_n 1, 1) := by decide +kernel
theorem dX7_isCircuit_30 : decode cX7_isCircuit 30 = .ok (.iload_n 3, 1) := by decide +kernel
theorem dX7_isCircuit_31 : decode cX7_isCircuit 31 = .ok (.invokestatic 77, 3) := by decide +kernel
theorem dX7_isCircuit_34 : decode cX7_isCircuit 34 = .ok (.ifCond .eq 18, 3) := by decide +kernel
theorem dX7_isCircuit_37 : decode cX7_isCircuit 37 = .ok (.aload_n 0, 1) := by decide +kernel
theorem dX7_isCircuit_38 : decode cX7_isCircuit 38 = .ok (.getfield 38, 3) := by decide +kernel
theorem dX7_isCircuit_41 : decode cX7_isCircuit 41 = .ok (.iload_n 1, 1) := by decide +kernel
theorem dX7_isCircuit_42 : decode cX7_isCircuit 42 = .ok (.iconst 1, 1) := by decide +kernel
theorem dX7_isCircuit_43 : decode cX7_isCircuit 43 = .ok (.iload_n 3, 1) := by decide +kernel
theorem dX7_isCircuit_44 : decode cX7_isCircuit 44 = .ok (.ishl, 1) := by decide +kernel
theorem dX7_isCircuit_45 : decode cX7_isCircuit 45 = .ok (.iconst (-1), 1) := by decide +kernel
theorem dX7_isCircuit_46 : decode cX7_isCircuit 46 = .ok (.ixor, 1) := by decide +kernel
theorem dX7_isCircuit_47 : decode cX7_isCircuit 47 = .ok (.iand, 1) := by decide +kernel
theorem dX7_isCircuit_48 : decode cX7_isCircuit 48 = .ok (.baload, 1) := by decide +kernel
theorem dX7_isCircuit_49 : decode cX7_isCircuit 49 = .ok (.ifCond .eq 7, 3) := by decide +kernel
theorem dX7_isCircuit_52 : decode cX7_isCircuit 52 = .ok (.iconst 1, 1) := by decide +kernel
theorem dX7_isCircuit_53 : decode cX7_isCircuit 53 = .ok (.goto 4, 3) := by decide +kernel
theorem dX7_isCircuit_56 : decode cX7_isCircuit 56 = .ok (.iconst 0, 1) := by decide +kernel
theorem dX7_isCircuit_57 : decode cX7_isCircuit 57 = .ok (.istore_n 2, 1) := by decide +kernel
theorem dX7_isCircuit_58 : decode cX7_isCircuit 58 = .ok (.iinc 3 1, 3) := by decide +kernel
theorem dX7_isCircuit_61 : decode cX7_isCircuit 61 = .ok (.goto (-44), 3) := by decide +kernel
theorem dX7_isCircuit_64 : decode cX7_isCircuit 64 = .ok (.iload_n 2, 1) := by decide +kernel
theorem dX7_isCircuit_65 : decode cX7_isCircuit 65 = .ok (.ireturn, 1) := by decide +kernel
theorem dX7_shutOf_0 : decode cX7_shutOf 0 = .ok (.iconst 0, 1) := by decide +kernel
theorem dX7_shutOf_1 : decode cX7_shutOf 1 = .ok (.istore_n 2, 1) := by decide +kernel
theorem dX7_shutOf_2 : decode cX7_shutOf 2 = .ok (.iconst 0, 1) := by decide +kernel
theorem dX7_shutOf_3 : decode cX7_shutOf 3 = .ok (.istore_n 3, 1) := by decide +kernel
theorem dX7_shutOf_4 : decode cX7_shutOf 4 = .ok (.iload_n 3, 1) := by decide +kernel
theorem dX7_shutOf_5 : decode cX7_shutOf 5 = .ok (.aload_n 0, 1) := by decide +kernel
theorem dX7_shutOf_6 : decode cX7_shutOf 6 = .ok (.getfield 7, 3) := by decide +kernel
theorem dX7_shutOf_9 : decode cX7_shutOf 9 = .ok (.if_icmp .ge 38, 3) := by decide +kernel
theorem dX7_shutOf_12 : decode cX7_shutOf 12 = .ok (.iload_n 2, 1) := by decide +kernel
theorem dX7_shutOf_13 : decode cX7_shutOf 13 = .ok (.aload_n 0, 1) := by decide +kernel
theorem dX7_shutOf_14 : decode cX7_shutOf 14 = .ok (.getfield 45, 3) := by decide +kernel
theorem dX7_shutOf_17 : decode cX7_shutOf 17 = .ok (.iload_n 1, 1) := by decide +kernel
theorem dX7_shutOf_18 : decode cX7_shutOf 18 = .ok (.iconst 1, 1) := by decide +kernel
theorem dX7_shutOf_19 : decode cX7_shutOf 19 = .ok (.iload_n 3, 1) := by decide +kernel
theorem dX7_shutOf_20 : decode cX7_shutOf 20 = .ok (.ishl, 1) := by decide +kernel
theorem dX7_shutOf_21 : decode cX7_shutOf 21 = .ok (.ior, 1) := by decide +kernel
theorem dX7_shutOf_22 : decode cX7_shutOf 22 = .ok (.iaload, 1) := by decide +kernel
theorem dX7_shutOf_23 : decode cX7_shutOf 23 = .ok (.aload_n 0, 1) := by decide +kernel
theorem dX7_shutOf_24 : decode cX7_shutOf 24 = .ok (.getfield 45, 3) := by decide +kernel
theorem dX7_shutOf_27 : decode cX7_shutOf 27 = .ok (.iload_n 1, 1) := by decide +kernel
theorem dX7_shutOf_28 : decode cX7_shutOf 28 = .ok (.iaload, 1) := by decide +kernel
theorem dX7_shutOf_29 : decode cX7_shutOf 29 = .ok (.if_icmp .ne 9, 3) := by decide +kernel
theorem dX7_shutOf_32 : decode cX7_shutOf 32 = .ok (.iconst 1, 1) := by decide +kernel
theorem dX7_shutOf_33 : decode cX7_shutOf 33 = .ok (.iload_n 3, 1) := by decide +kernel
theorem dX7_shutOf_34 : decode cX7_shutOf 34 = .ok (.ishl, 1) := by decide +kernel
theorem dX7_shutOf_35 : decode cX7_shutOf 35 = .ok (.goto 4, 3) := by decide +kernel
theorem dX7_shutOf_38 : decode cX7_shutOf 38 = .ok (.iconst 0, 1) := by decide +kernel
theorem dX7_shutOf_39 : decode cX7_shutOf 39 = .ok (.ior, 1) := by decide +kernel
theorem dX7_shutOf_40 : decode cX7_shutOf 40 = .ok (.istore_n 2, 1) := by decide +kernel
theorem dX7_shutOf_41 : decode cX7_shutOf 41 = .ok (.iinc 3 1, 3) := by decide +kernel
theorem dX7_shutOf_44 : decode cX7_shutOf 44 = .ok (.goto (-40), 3) := by decide +kernel
theorem dX7_shutOf_47 : decode cX7_shutOf 47 = .ok (.iload_n 2, 1) := by decide +kernel
theorem dX7_shutOf_48 : decode cX7_shutOf 48 = .ok (.ireturn, 1) := by decide +kernel
theorem dX7_listed_0 : decode cX7_listed 0 = .ok (.iload_n 1, 1) := by decide +kernel
theorem dX7_listed_1 : decode cX7_listed 1 = .ok (.invokestatic 131, 3) := by decide +kernel
theorem dX7_listed_4 : decode cX7_listed 4 = .ok (.ifCond .eq 8, 3) := by decide +kernel
theorem dX7_listed_7 : decode cX7_listed 7 = .ok (.iload_n 3, 1) := by decide +kernel
theorem dX7_listed_8 : decode cX7_listed 8 = .ok (.iconst (-1), 1) := by decide +kernel
theorem dX7_listed_9 : decode cX7_listed 9 = .ok (.if_icmp .ge 5, 3) := by decide +kernel
theorem dX7_listed_12 : decode cX7_listed 12 = .ok (.iconst (-1), 1) := by decide +kernel
theorem dX7_listed_13 : decode cX7_listed 13 = .ok (.ireturn, 1) := by decide +kernel
theorem dX7_listed_14 : decode cX7_listed 14 = .ok (.aload_n 0, 1) := by decide +kernel
theorem dX7_listed_15 : decode cX7_listed 15 = .ok (.iload_n 1, 1) := by decide +kernel
theorem dX7_listed_16 : decode cX7_listed 16 = .ok (.invokevirtual 134, 3) := by decide +kernel
theorem dX7_listed_19 : decode cX7_listed 19 = .ok (.iconst 0, 1) := by decide +kernel
theorem dX7_listed_20 : decode cX7_listed 20 = .ok (.istore 4, 2) := by decide +kernel
theorem dX7_listed_22 : decode cX7_listed 22 = .ok (.iconst 0, 1) := by decide +kernel
theorem dX7_listed_23 : decode cX7_listed 23 = .ok (.istore 5, 2) := by decide +kernel
theorem dX7_listed_25 : decode cX7_listed 25 = .ok (.iload 5, 2) := by decide +kernel
theorem dX7_listed_27 : decode cX7_listed 27 = .ok (.aload_n 0, 1) := by decide +kernel
theorem dX7_listed_28 : decode cX7_listed 28 = .ok (.invokevirtual 67, 3) := by decide +kernel
theorem dX7_listed_31 : decode cX7_listed 31 = .ok (.if_icmp .gt 84, 3) := by decide +kernel
theorem dX7_listed_34 : decode cX7_listed 34 = .ok (.iload_n 2, 1) := by decide +kernel
theorem dX7_listed_35 : decode cX7_listed 35 = .ok (.ifCond .ne 13, 3) := by decide +kernel
theorem dX7_listed_38 : decode cX7_listed 38 = .ok (.aload_n 0, 1) := by decide +kernel
theorem dX7_listed_39 : decode cX7_listed 39 = .ok (.getfield 42, 3) := by decide +kernel
theorem dX7_listed_42 : decode cX7_listed 42 = .ok (.iload 5, 2) := by decide +kernel
theorem dX7_listed_44 : decode cX7_listed 44 = .ok (.baload, 1) := by decide +kernel
theorem dX7_listed_45 : decode cX7_listed 45 = .ok (.goto 33, 3) := by decide +kernel
theorem dX7_listed_48 : decode cX7_listed 48 = .ok (.iload_n 2, 1) := by decide +kernel
theorem dX7_listed_49 : decode cX7_listed 49 = .ok (.iconst 1, 1) := by decide +kernel
theorem dX7_listed_50 : decode cX7_listed 50 = .ok (.if_icmp .ne 12, 3) := by decide +kernel
theorem dX7_listed_53 : decode cX7_listed 53 = .ok (.aload_n 0, 1) := by decide +kernel
theorem dX7_listed_54 : decode cX7_listed 54 = .ok (.iload 5, 2) := by decide +kernel
theorem dX7_listed_56 : decode cX7_listed 56 = .ok (.invokevirtual 137, 3) := by decide +kernel
theorem dX7_listed_59 : decode cX7_listed 59 = .ok (.goto 19, 3) := by decide +kernel
theorem dX7_listed_62 : decode cX7_listed 62 = .ok (.aload_n 0, 1) := by decide +kernel
theorem dX7_listed_63 : decode cX7_listed 63 = .ok (.iload 5, 2) := by decide +kernel
theorem dX7_listed_65 : decode cX7_listed 65 = .ok (.invokevirtual 140, 3) := by decide +kernel
theorem dX7_listed_68 : decode cX7_listed 68 = .ok (.iload 5, 2) := by decide +kernel
theorem dX7_listed_70 : decode cX7_listed 70 = .ok (.if_icmp .ne 7, 3) := by decide +kernel
theorem dX7_listed_73 : decode cX7_listed 73 = .ok (.iconst 1, 1) := by decide +kernel
theorem dX7_listed_74 : decode cX7_listed 74 = .ok (.goto 4, 3) := by decide +kernel
theorem dX7_listed_77 : decode cX7_listed 77 = .ok (.iconst 0, 1) := by decide +kernel
theorem dX7_listed_78 : decode cX7_listed 78 = .ok (.istore 6, 2) := by decide +kernel
theorem dX7_listed_80 : decode cX7_listed 80 = .ok (.iload 6, 2) := by decide +kernel
theorem dX7_listed_82 : decode cX7_listed 82 = .ok (.ifCond .eq 12, 3) := by decide +kernel
theorem dX7_listed_85 : decode cX7_listed 85 = .ok (.iload 4, 2) := by decide +kernel
theorem dX7_listed_87 : decode cX7_listed 87 = .ok (.iload_n 3, 1) := by decide +kernel
theorem dX7_listed_88 : decode cX7_listed 88 = .ok (.if_icmp .ne 6, 3) := by decide +kernel
theorem dX7_listed_91 : decode cX7_listed 91 = .ok (.iload 5, 2) := by decide +kernel
theorem dX7_listed_93 : decode cX7_listed 93 = .ok (.ireturn, 1) := by decide +kernel
theorem dX7_listed_94 : decode cX7_listed 94 = .ok (.iload 4, 2) := by decide +kernel
theorem dX7_listed_96 : decode cX7_listed 96 = .ok (.iload 6, 2) := by decide +kernel
theorem dX7_listed_98 : decode cX7_listed 98 = .ok (.ifCond .eq 7, 3) := by decide +kernel
theorem dX7_listed_101 : decode cX7_listed 101 = .ok (.iconst 1, 1) := by decide +kernel
theorem dX7_listed_102 : decode cX7_listed 102 = .ok (.goto 4, 3) := by decide +kernel
theorem dX7_listed_105 : decode cX7_listed 105 = .ok (.iconst 0, 1) := by decide +kernel
theorem dX7_listed_106 : decode cX7_listed 106 = .ok (.iadd, 1) := by decide +kernel
theorem dX7_listed_107 : decode cX7_listed 107 = .ok (.istore 4, 2) := by decide +kernel
theorem dX7_listed_109 : decode cX7_listed 109 = .ok (.iinc 5 1, 3) := by decide +kernel
theorem dX7_listed_112 : decode cX7_listed 112 = .ok (.goto (-87), 3) := by decide +kernel
theorem dX7_listed_115 : decode cX7_listed 115 = .ok (.iload_n 3, 1) := by decide +kernel
theorem dX7_listed_116 : decode cX7_listed 116 = .ok (.ifCond .ge 8, 3) := by decide +kernel
theorem dX7_listed_119 : decode cX7_listed 119 = .ok (.iload 4, 2) := by decide +kernel
theorem dX7_listed_121 : decode cX7_listed 121 = .ok (.goto 4, 3) := by decide +kernel
theorem dX7_listed_124 : decode cX7_listed 124 = .ok (.iconst (-1), 1) := by decide +kernel
theorem dX7_listed_125 : decode cX7_listed 125 = .ok (.ireturn, 1) := by decide +kernel
theorem dX7_base_0 : decode cX7_base 0 = .ok (.aload_n 0, 1) := by decide +kernel
theorem dX7_base_1 : decode cX7_base 1 = .ok (.iload_n 1, 1) := by decide +kernel
theorem dX7_base_2 : decode cX7_base 2 = .ok (.iconst 0, 1) := by decide +kernel
theorem dX7_base_3 : decode cX7_base 3 = .ok (.iload_n 2, 1) := by decide +kernel
theorem dX7_base_4 : decode cX7_base 4 = .ok (.invokevirtual 143, 3) := by decide +kernel
theorem dX7_base_7 : decode cX7_base 7 = .ok (.ireturn, 1) := by decide +kernel
theorem dX7_circuit_0 : decode cX7_circuit 0 = .ok (.aload_n 0, 1) := by decide +kernel
theorem dX7_circuit_1 : decode cX7_circuit 1 = .ok (.iload_n 1, 1) := by decide +kernel
theorem dX7_circuit_2 : decode cX7_circuit 2 = .ok (.iconst 1, 1) := by decide +kernel
theorem dX7_circuit_3 : decode cX7_circuit 3 = .ok (.iload_n 2, 1) := by decide +kernel
theorem dX7_circuit_4 : decode cX7_circuit 4 = .ok (.invokevirtual 143, 3) := by decide +kernel
theorem dX7_circuit_7 : decode cX7_circuit 7 = .ok (.ireturn, 1) := by decide +kernel
theorem dX7_flat_0 : decode cX7_flat 0 = .ok (.aload_n 0, 1) := by decide +kernel
theorem dX7_flat_1 : decode cX7_flat 1 = .ok (.iload_n 1, 1) := by decide +kernel
theorem dX7_flat_2 : decode cX7_flat 2 = .ok (.iconst 2, 1) := by decide +kernel
theorem dX7_flat_3 : decode cX7_flat 3 = .ok (.iload_n 2, 1) := by decide +kernel
theorem dX7_flat_4 : decode cX7_flat 4 = .ok (.invokevirtual 143, 3) := by decide +kernel
theorem dX7_flat_7 : decode cX7_flat 7 = .ok (.ireturn, 1) := by decide +kernel
theorem dX7_shut_0 : decode cX7_shut 0 = .ok (.iload_n 1, 1) := by decide +kernel
theorem dX7_shut_1 : decode cX7_shut 1 = .ok (.invokestatic 131, 3) := by decide +kernel
theorem dX7_shut_4 : decode cX7_shut 4 = .ok (.ifCond .ne 5, 3) := by decide +kernel
theorem dX7_shut_7 : decode cX7_shut 7 = .ok (.iconst (-1), 1) := by decide +kernel
theorem dX7_shut_8 : decode cX7_shut 8 = .ok (.ireturn, 1) := by decide +kernel
theorem dX7_shut_9 : decode cX7_shut 9 = .ok (.aload_n 0, 1) := by decide +kernel
theorem dX7_shut_10 : decode cX7_shut 10 = .ok (.iload_n 2, 1) := by decide +kernel
theorem dX7_shut_11 : decode cX7_shut 11 = .ok (.invokevirtual 122, 3) := by decide +kernel
theorem dX7_shut_14 : decode cX7_shut 14 = .ok (.ifCond .ne 6, 3) := by decide +kernel
theorem dX7_shut_17 : decode cX7_shut 17 = .ok (.bipush (-2), 2) := by decide +kernel
theorem dX7_shut_19 : decode cX7_shut 19 = .ok (.ireturn, 1) := by decide +kernel
theorem dX7_shut_20 : decode cX7_shut 20 = .ok (.aload_n 0, 1) := by decide +kernel
theorem dX7_shut_21 : decode cX7_shut 21 = .ok (.iload_n 1, 1) := by decide +kernel
theorem dX7_shut_22 : decode cX7_shut 22 = .ok (.invokevirtual 134, 3) := by decide +kernel
theorem dX7_shut_25 : decode cX7_shut 25 = .ok (.aload_n 0, 1) := by decide +kernel
theorem dX7_shut_26 : decode cX7_shut 26 = .ok (.iload_n 2, 1) := by decide +kernel
theorem dX7_shut_27 : decode cX7_shut 27 = .ok (.invokevirtual 140, 3) := by decide +kernel
theorem dX7_shut_30 : decode cX7_shut 30 = .ok (.ireturn, 1) := by decide +kernel
theorem dX7_loops_0 : decode cX7_loops 0 = .ok (.iload_n 1, 1) := by decide +kernel
theorem dX7_loops_1 : decode cX7_loops 1 = .ok (.invokestatic 131, 3) := by decide +kernel
theorem dX7_loops_4 : decode cX7_loops 4 = .ok (.ifCond .eq 12, 3) := by decide +kernel
theorem dX7_loops_7 : decode cX7_loops 7 = .ok (.iload_n 2, 1) := by decide +kernel
theorem dX7_loops_8 : decode cX7_loops 8 = .ok (.iconst 0, 1) := by decide +kernel
theorem dX7_loops_9 : decode cX7_loops 9 = .ok (.iconst 1, 1) := by decide +kernel
theorem dX7_loops_10 : decode cX7_loops 10 = .ok (.invokestatic 63, 3) := by decide +kernel
theorem dX7_loops_13 : decode cX7_loops 13 = .ok (.ifCond .ne 5, 3) := by decide +kernel
theorem dX7_loops_16 : decode cX7_loops 16 = .ok (.iconst (-1), 1) := by decide +kernel
theorem dX7_loops_17 : decode cX7_loops 17 = .ok (.ireturn, 1) := by decide +kernel
theorem dX7_loops_18 : decode cX7_loops 18 = .ok (.aload_n 0, 1) := by decide +kernel
theorem dX7_loops_19 : decode cX7_loops 19 = .ok (.iload_n 1, 1) := by decide +kernel
theorem dX7_loops_20 : decode cX7_loops 20 = .ok (.invokevirtual 134, 3) := by decide +kernel
theorem dX7_loops_23 : decode cX7_loops 23 = .ok (.iconst 0, 1) := by decide +kernel
theorem dX7_loops_24 : decode cX7_loops 24 = .ok (.istore_n 3, 1) := by decide +kernel
theorem dX7_loops_25 : decode cX7_loops 25 = .ok (.aload_n 0, 1) := by decide +kernel
theorem dX7_loops_26 : decode cX7_loops 26 = .ok (.invokevirtual 67, 3) := by decide +kernel
theorem dX7_loops_29 : decode cX7_loops 29 = .ok (.istore 4, 2) := by decide +kernel
theorem dX7_loops_31 : decode cX7_loops 31 = .ok (.iconst 0, 1) := by decide +kernel
theorem dX7_loops_32 : decode cX7_loops 32 = .ok (.istore 5, 2) := by decide +kernel
theorem dX7_loops_34 : decode cX7_loops 34 = .ok (.iload 5, 2) := by decide +kernel
theorem dX7_loops_36 : decode cX7_loops 36 = .ok (.aload_n 0, 1) := by decide +kernel
theorem dX7_loops_37 : decode cX7_loops 37 = .ok (.invokevirtual 67, 3) := by decide +kernel
theorem dX7_loops_40 : decode cX7_loops 40 = .ok (.if_icmp .gt 31, 3) := by decide +kernel
theorem dX7_loops_43 : decode cX7_loops 43 = .ok (.aload_n 0, 1) := by decide +kernel
theorem dX7_loops_44 : decode cX7_loops 44 = .ok (.getfield 42, 3) := by decide +kernel
theorem dX7_loops_47 : decode cX7_loops 47 = .ok (.iload 5, 2) := by decide +kernel
theorem dX7_loops_49 : decode cX7_loops 49 = .ok (.baload, 1) := by decide +kernel
theorem dX7_loops_50 : decode cX7_loops 50 = .ok (.ifCond .eq 15, 3) := by decide +kernel
theorem dX7_loops_53 : decode cX7_loops 53 = .ok (.iload_n 3, 1) := by decide +kernel
theorem dX7_loops_54 : decode cX7_loops 54 = .ok (.iload 5, 2) := by decide +kernel
theorem dX7_loops_56 : decode cX7_loops 56 = .ok (.ior, 1) := by decide +kernel
theorem dX7_loops_57 : decode cX7_loops 57 = .ok (.istore_n 3, 1) := by decide +kernel
theorem dX7_loops_58 : decode cX7_loops 58 = .ok (.iload 4, 2) := by decide +kernel
theorem dX7_loops_60 : decode cX7_loops 60 = .ok (.iload 5, 2) := by decide +kernel
theorem dX7_loops_62 : decode cX7_loops 62 = .ok (.iand, 1) := by decide +kernel
theorem dX7_loops_63 : decode cX7_loops 63 = .ok (.istore 4, 2) := by decide +kernel
theorem dX7_loops_65 : decode cX7_loops 65 = .ok (.iinc 5 1, 3) := by decide +kernel
theorem dX7_loops_68 : decode cX7_loops 68 = .ok (.goto (-34), 3) := by decide +kernel
theorem dX7_loops_71 : decode cX7_loops 71 = .ok (.iload_n 2, 1) := by decide +kernel
theorem dX7_loops_72 : decode cX7_loops 72 = .ok (.ifCond .ne 14, 3) := by decide +kernel
theorem dX7_loops_75 : decode cX7_loops 75 = .ok (.aload_n 0, 1) := by decide +kernel
theorem dX7_loops_76 : decode cX7_loops 76 = .ok (.invokevirtual 67, 3) := by decide +kernel
theorem dX7_loops_79 : decode cX7_loops 79 = .ok (.iload_n 3, 1) := by decide +kernel
theorem dX7_loops_80 : decode cX7_loops 80 = .ok (.iconst (-1), 1) := by decide +kernel
theorem dX7_loops_81 : decode cX7_loops 81 = .ok (.ixor, 1) := by decide +kernel
theorem dX7_loops_82 : decode cX7_loops 82 = .ok (.iand, 1) := by decide +kernel
theorem dX7_loops_83 : decode cX7_loops 83 = .ok (.goto 5, 3) := by decide +kernel
theorem dX7_loops_86 : decode cX7_loops 86 = .ok (.iload 4, 2) := by decide +kernel
theorem dX7_loops_88 : decode cX7_loops 88 = .ok (.ireturn, 1) := by decide +kernel
theorem dX7_round_0 : decode cX7_round 0 = .ok (.iload_n 1, 1) := by decide +kernel
theorem dX7_round_1 : decode cX7_round 1 = .ok (.invokestatic 131, 3) := by decide +kernel
theorem dX7_round_4 : decode cX7_round 4 = .ok (.ifCond .eq 11, 3) := by decide +kernel
theorem dX7_round_7 : decode cX7_round 7 = .ok (.aload_n 0, 1) := by decide +kernel
theorem dX7_round_8 : decode cX7_round 8 = .ok (.iload_n 3, 1) := by decide +kernel
theorem dX7_round_9 : decode cX7_round 9 = .ok (.invokevirtual 119, 3) := by decide +kernel
theorem dX7_round_12 : decode cX7_round 12 = .ok (.ifCond .ne 5, 3) := by decide +kernel
theorem dX7_round_15 : decode cX7_round 15 = .ok (.iconst (-1), 1) := by decide +kernel
theorem dX7_round_16 : decode cX7_round 16 = .ok (.ireturn, 1) := by decide +kernel
theorem dX7_round_17 : decode cX7_round 17 = .ok (.aload_n 0, 1) := by decide +kernel
theorem dX7_round_18 : decode cX7_round 18 = .ok (.iload_n 2, 1) := by decide +kernel
theorem dX7_round_19 : decode cX7_round 19 = .ok (.invokevirtual 122, 3) := by decide +kernel
theorem dX7_round_22 : decode cX7_round 22 = .ok (.ifCond .ne 6, 3) := by decide +kernel
theorem dX7_round_25 : decode cX7_round 25 = .ok (.bipush (-2), 2) := by decide +kernel
theorem dX7_round_27 : decode cX7_round 27 = .ok (.ireturn, 1) := by decide +kernel
theorem dX7_round_28 : decode cX7_round 28 = .ok (.aload_n 0, 1) := by decide +kernel
theorem dX7_round_29 : decode cX7_round 29 = .ok (.iload_n 1, 1) := by decide +kernel
theorem dX7_round_30 : decode cX7_round 30 = .ok (.invokevirtual 134, 3) := by decide +kernel
theorem dX7_round_33 : decode cX7_round 33 = .ok (.aload_n 0, 1) := by decide +kernel
theorem dX7_round_34 : decode cX7_round 34 = .ok (.getfield 42, 3) := by decide +kernel
theorem dX7_round_37 : decode cX7_round 37 = .ok (.iload_n 2, 1) := by decide +kernel
theorem dX7_round_38 : decode cX7_round 38 = .ok (.baload, 1) := by decide +kernel
theorem dX7_round_39 : decode cX7_round 39 = .ok (.ifCond .eq 11, 3) := by decide +kernel
theorem dX7_round_42 : decode cX7_round 42 = .ok (.iload_n 2, 1) := by decide +kernel
theorem dX7_round_43 : decode cX7_round 43 = .ok (.iload_n 3, 1) := by decide +kernel
theorem dX7_round_44 : decode cX7_round 44 = .ok (.invokestatic 77, 3) := by decide +kernel
theorem dX7_round_47 : decode cX7_round 47 = .ok (.ifCond .eq 6, 3) := by decide +kernel
theorem dX7_round_50 : decode cX7_round 50 = .ok (.bipush (-5), 2) := by decide +kernel
theorem dX7_round_52 : decode cX7_round 52 = .ok (.ireturn, 1) := by decide +kernel
theorem dX7_round_53 : decode cX7_round 53 = .ok (.iload_n 2, 1) := by decide +kernel
theorem dX7_round_54 : decode cX7_round 54 = .ok (.iconst 1, 1) := by decide +kernel
theorem dX7_round_55 : decode cX7_round 55 = .ok (.iload_n 3, 1) := by decide +kernel
theorem dX7_round_56 : decode cX7_round 56 = .ok (.ishl, 1) := by decide +kernel
theorem dX7_round_57 : decode cX7_round 57 = .ok (.ior, 1) := by decide +kernel
theorem dX7_round_58 : decode cX7_round 58 = .ok (.istore 4, 2) := by decide +kernel
theorem dX7_round_60 : decode cX7_round 60 = .ok (.iconst 0, 1) := by decide +kernel
theorem dX7_round_61 : decode cX7_round 61 = .ok (.istore 5, 2) := by decide +kernel
theorem dX7_round_63 : decode cX7_round 63 = .ok (.iconst 0, 1) := by decide +kernel
theorem dX7_round_64 : decode cX7_round 64 = .ok (.istore 6, 2) := by decide +kernel
theorem dX7_round_66 : decode cX7_round 66 = .ok (.iload 6, 2) := by decide +kernel
theorem dX7_round_68 : decode cX7_round 68 = .ok (.aload_n 0, 1) := by decide +kernel
theorem dX7_round_69 : decode cX7_round 69 = .ok (.getfield 7, 3) := by decide +kernel
theorem dX7_round_72 : decode cX7_round 72 = .ok (.if_icmp .ge 49, 3) := by decide +kernel
theorem dX7_round_75 : decode cX7_round 75 = .ok (.iload 5, 2) := by decide +kernel
theorem dX7_round_77 : decode cX7_round 77 = .ok (.iload 4, 2) := by decide +kernel
theorem dX7_round_79 : decode cX7_round 79 = .ok (.iload 6, 2) := by decide +kernel
theorem dX7_round_81 : decode cX7_round 81 = .ok (.invokestatic 77, 3) := by decide +kernel
theorem dX7_round_84 : decode cX7_round 84 = .ok (.ifCond .eq 27, 3) := by decide +kernel
theorem dX7_round_87 : decode cX7_round 87 = .ok (.aload_n 0, 1) := by decide +kernel
theorem dX7_round_88 : decode cX7_round 88 = .ok (.getfield 38, 3) := by decide +kernel
theorem dX7_round_91 : decode cX7_round 91 = .ok (.iload 4, 2) := by decide +kernel
theorem dX7_round_93 : decode cX7_round 93 = .ok (.iconst 1, 1) := by decide +kernel
theorem dX7_round_94 : decode cX7_round 94 = .ok (.iload 6, 2) := by decide +kernel
theorem dX7_round_96 : decode cX7_round 96 = .ok (.ishl, 1) := by decide +kernel
theorem dX7_round_97 : decode cX7_round 97 = .ok (.iconst (-1), 1) := by decide +kernel
theorem dX7_round_98 : decode cX7_round 98 = .ok (.ixor, 1) := by decide +kernel
theorem dX7_round_99 : decode cX7_round 99 = .ok (.iand, 1) := by decide +kernel
theorem dX7_round_100 : decode cX7_round 100 = .ok (.baload, 1) := by decide +kernel
theorem dX7_round_101 : decode cX7_round 101 = .ok (.ifCond .eq 10, 3) := by decide +kernel
theorem dX7_round_104 : decode cX7_round 104 = .ok (.iconst 1, 1) := by decide +kernel
theorem dX7_round_105 : decode cX7_round 105 = .ok (.iload 6, 2) := by decide +kernel
theorem dX7_round_107 : decode cX7_round 107 = .ok (.ishl, 1) := by decide +kernel
theorem dX7_round_108 : decode cX7_round 108 = .ok (.goto 4, 3) := by decide +kernel
theorem dX7_round_111 : decode cX7_round 111 = .ok (.iconst 0, 1) := by decide +kernel
theorem dX7_round_112 : decode cX7_round 112 = .ok (.ior, 1) := by decide +kernel
theorem dX7_round_113 : decode cX7_round 113 = .ok (.istore 5, 2) := by decide +kernel
theorem dX7_round_115 : decode cX7_round 115 = .ok (.iinc 6 1, 3) := by decide +kernel
theorem dX7_round_118 : decode cX7_round 118 = .ok (.goto (-52), 3) := by decide +kernel
theorem dX7_round_121 : decode cX7_round 121 = .ok (.iload 5, 2) := by decide +kernel
theorem dX7_round_123 : decode cX7_round 123 = .ok (.ireturn, 1) := by decide +kernel
theorem dX7_swap_0 : decode cX7_swap 0 = .ok (.iload_n 1, 1) := by decide +kernel
theorem dX7_swap_1 : decode cX7_swap 1 = .ok (.invokestatic 131, 3) := by decide +kernel
theorem dX7_swap_4 : decode cX7_swap 4 = .ok (.ifCond .eq 12, 3) := by decide +kernel
theorem dX7_swap_7 : decode cX7_swap 7 = .ok (.aload_n 0, 1) := by decide +kernel
theorem dX7_swap_8 : decode cX7_swap 8 = .ok (.iload 4, 2) := by decide +kernel
theorem dX7_swap_10 : decode cX7_swap 10 = .ok (.invokevirtual 119, 3) := by decide +kernel
theorem dX7_swap_13 : decode cX7_swap 13 = .ok (.ifCond .ne 5, 3) := by decide +kernel
theorem dX7_swap_16 : decode cX7_swap 16 = .ok (.iconst (-1), 1) := by decide +kernel
theorem dX7_swap_17 : decode cX7_swap 17 = .ok (.ireturn, 1) := by decide +kernel
theorem dX7_swap_18 : decode cX7_swap 18 = .ok (.aload_n 0, 1) := by decide +kernel
theorem dX7_swap_19 : decode cX7_swap 19 = .ok (.iload_n 2, 1) := by decide +kernel
theorem dX7_swap_20 : decode cX7_swap 20 = .ok (.invokevirtual 122, 3) := by decide +kernel
theorem dX7_swap_23 : decode cX7_swap 23 = .ok (.ifCond .eq 11, 3) := by decide +kernel
theorem dX7_swap_26 : decode cX7_swap 26 = .ok (.aload_n 0, 1) := by decide +kernel
theorem dX7_swap_27 : decode cX7_swap 27 = .ok (.iload_n 3, 1) := by decide +kernel
theorem dX7_swap_28 : decode cX7_swap 28 = .ok (.invokevirtual 122, 3) := by decide +kernel
theorem dX7_swap_31 : decode cX7_swap 31 = .ok (.ifCond .ne 6, 3) := by decide +kernel
theorem dX7_swap_34 : decode cX7_swap 34 = .ok (.bipush (-2), 2) := by decide +kernel
theorem dX7_swap_36 : decode cX7_swap 36 = .ok (.ireturn, 1) := by decide +kernel
theorem dX7_swap_37 : decode cX7_swap 37 = .ok (.aload_n 0, 1) := by decide +kernel
theorem dX7_swap_38 : decode cX7_swap 38 = .ok (.iload_n 1, 1) := by decide +kernel
theorem dX7_swap_39 : decode cX7_swap 39 = .ok (.invokevirtual 134, 3) := by decide +kernel
theorem dX7_swap_42 : decode cX7_swap 42 = .ok (.aload_n 0, 1) := by decide +kernel
theorem dX7_swap_43 : decode cX7_swap 43 = .ok (.getfield 42, 3) := by decide +kernel
theorem dX7_swap_46 : decode cX7_swap 46 = .ok (.iload_n 2, 1) := by decide +kernel
theorem dX7_swap_47 : decode cX7_swap 47 = .ok (.baload, 1) := by decide +kernel
theorem dX7_swap_48 : decode cX7_swap 48 = .ok (.ifCond .eq 30, 3) := by decide +kernel
theorem dX7_swap_51 : decode cX7_swap 51 = .ok (.aload_n 0, 1) := by decide +kernel
theorem dX7_swap_52 : decode cX7_swap 52 = .ok (.getfield 42, 3) := by decide +kernel
theorem dX7_swap_55 : decode cX7_swap 55 = .ok (.iload_n 3, 1) := by decide +kernel
theorem dX7_swap_56 : decode cX7_swap 56 = .ok (.baload, 1) := by decide +kernel
theorem dX7_swap_57 : decode cX7_swap 57 = .ok (.ifCond .eq 21, 3) := by decide +kernel
theorem dX7_swap_60 : decode cX7_swap 60 = .ok (.iload_n 2, 1) := by decide +kernel
theorem dX7_swap_61 : decode cX7_swap 61 = .ok (.iload 4, 2) := by decide +kernel
theorem dX7_swap_63 : decode cX7_swap 63 = .ok (.invokestatic 77, 3) := by decide +kernel
theorem dX7_swap_66 : decode cX7_swap 66 = .ok (.ifCond .eq 12, 3) := by decide +kernel
theorem dX7_swap_69 : decode cX7_swap 69 = .ok (.iload_n 3, 1) := by decide +kernel
theorem dX7_swap_70 : decode cX7_swap 70 = .ok (.iload 4, 2) := by decide +kernel
theorem dX7_swap_72 : decode cX7_swap 72 = .ok (.invokestatic 77, 3) := by decide +kernel
theorem dX7_swap_75 : decode cX7_swap 75 = .ok (.ifCond .eq 6, 3) := by decide +kernel
theorem dX7_swap_78 : decode cX7_swap 78 = .ok (.bipush (-5), 2) := by decide +kernel
theorem dX7_swap_80 : decode cX7_swap 80 = .ok (.ireturn, 1) := by decide +kernel
theorem dX7_swap_81 : decode cX7_swap 81 = .ok (.iconst 0, 1) := by decide +kernel
theorem dX7_swap_82 : decode cX7_swap 82 = .ok (.istore 5, 2) := by decide +kernel
theorem dX7_swap_84 : decode cX7_swap 84 = .ok (.iload_n 3, 1) := by decide +kernel
theorem dX7_swap_85 : decode cX7_swap 85 = .ok (.iload 5, 2) := by decide +kernel
theorem dX7_swap_87 : decode cX7_swap 87 = .ok (.invokestatic 77, 3) := by decide +kernel
theorem dX7_swap_90 : decode cX7_swap 90 = .ok (.ifCond .eq 33, 3) := by decide +kernel
theorem dX7_swap_93 : decode cX7_swap 93 = .ok (.iload_n 2, 1) := by decide +kernel
theorem dX7_swap_94 : decode cX7_swap 94 = .ok (.iload 5, 2) := by decide +kernel
theorem dX7_swap_96 : decode cX7_swap 96 = .ok (.invokestatic 77, 3) := by decide +kernel
theorem dX7_swap_99 : decode cX7_swap 99 = .ok (.ifCond .ne 24, 3) := by decide +kernel
theorem dX7_swap_102 : decode cX7_swap 102 = .ok (.aload_n 0, 1) := by decide +kernel
theorem dX7_swap_103 : decode cX7_swap 103 = .ok (.getfield 42, 3) := by decide +kernel
theorem dX7_swap_106 : decode cX7_swap 106 = .ok (.iload_n 2, 1) := by decide +kernel
theorem dX7_swap_107 : decode cX7_swap 107 = .ok (.iconst 1, 1) := by decide +kernel
theorem dX7_swap_108 : decode cX7_swap 108 = .ok (.iload 4, 2) := by decide +kernel
theorem dX7_swap_110 : decode cX7_swap 110 = .ok (.ishl, 1) := by decide +kernel
theorem dX7_swap_111 : decode cX7_swap 111 = .ok (.iconst (-1), 1) := by decide +kernel
theorem dX7_swap_112 : decode cX7_swap 112 = .ok (.ixor, 1) := by decide +kernel
theorem dX7_swap_113 : decode cX7_swap 113 = .ok (.iand, 1) := by decide +kernel
theorem dX7_swap_114 : decode cX7_swap 114 = .ok (.iconst 1, 1) := by decide +kernel
theorem dX7_swap_115 : decode cX7_swap 115 = .ok (.iload 5, 2) := by decide +kernel
theorem dX7_swap_117 : decode cX7_swap 117 = .ok (.ishl, 1) := by decide +kernel
theorem dX7_swap_118 : decode cX7_swap 118 = .ok (.ior, 1) := by decide +kernel
theorem dX7_swap_119 : decode cX7_swap 119 = .ok (.baload, 1) := by decide +kernel
theorem dX7_swap_120 : decode cX7_swap 120 = .ok (.ifCond .ne 9, 3) := by decide +kernel
theorem dX7_swap_123 : decode cX7_swap 123 = .ok (.iinc 5 1, 3) := by decide +kernel
theorem dX7_swap_126 : decode cX7_swap 126 = .ok (.goto (-42), 3) := by decide +kernel
theorem dX7_swap_129 : decode cX7_swap 129 = .ok (.iload 5, 2) := by decide +kernel
theorem dX7_swap_131 : decode cX7_swap 131 = .ok (.ireturn, 1) := by decide +kernel
theorem dX7_steps_0 : decode cX7_steps 0 = .ok (.iload_n 1, 1) := by decide +kernel
theorem dX7_steps_1 : decode cX7_steps 1 = .ok (.invokestatic 131, 3) := by decide +kernel
theorem dX7_steps_4 : decode cX7_steps 4 = .ok (.ifCond .ne 5, 3) := by decide +kernel
theorem dX7_steps_7 : decode cX7_steps 7 = .ok (.iconst (-1), 1) := by decide +kernel
theorem dX7_steps_8 : decode cX7_steps 8 = .ok (.ireturn, 1) := by decide +kernel
theorem dX7_steps_9 : decode cX7_steps 9 = .ok (.aload_n 0, 1) := by decide +kernel
theorem dX7_steps_10 : decode cX7_steps 10 = .ok (.iload_n 1, 1) := by decide +kernel
theorem dX7_steps_11 : decode cX7_steps 11 = .ok (.invokevirtual 134, 3) := by decide +kernel
theorem dX7_steps_14 : decode cX7_steps 14 = .ok (.iconst 0, 1) := by decide +kernel
theorem dX7_steps_15 : decode cX7_steps 15 = .ok (.istore_n 2, 1) := by decide +kernel
theorem dX7_steps_16 : decode cX7_steps 16 = .ok (.iconst 0, 1) := by decide +kernel
theorem dX7_steps_17 : decode cX7_steps 17 = .ok (.istore_n 3, 1) := by decide +kernel
theorem dX7_steps_18 : decode cX7_steps 18 = .ok (.iload_n 3, 1) := by decide +kernel
theorem dX7_steps_19 : decode cX7_steps 19 = .ok (.aload_n 0, 1) := by decide +kernel
theorem dX7_steps_20 : decode cX7_steps 20 = .ok (.invokevirtual 67, 3) := by decide +kernel
theorem dX7_steps_23 : decode cX7_steps 23 = .ok (.if_icmp .gt 62, 3) := by decide +kernel
theorem dX7_steps_26 : decode cX7_steps 26 = .ok (.iconst 0, 1) := by decide +kernel
theorem dX7_steps_27 : decode cX7_steps 27 = .ok (.istore 4, 2) := by decide +kernel
theorem dX7_steps_29 : decode cX7_steps 29 = .ok (.iload 4, 2) := by decide +kernel
theorem dX7_steps_31 : decode cX7_steps 31 = .ok (.iload_n 3, 1) := by decide +kernel
theorem dX7_steps_32 : decode cX7_steps 32 = .ok (.if_icmp .ge 47, 3) := by decide +kernel
theorem dX7_steps_35 : decode cX7_steps 35 = .ok (.iload_n 2, 1) := by decide +kernel
theorem dX7_steps_36 : decode cX7_steps 36 = .ok (.aload_n 0, 1) := by decide +kernel
theorem dX7_steps_37 : decode cX7_steps 37 = .ok (.getfield 42, 3) := by decide +kernel
theorem dX7_steps_40 : decode cX7_steps 40 = .ok (.iload_n 3, 1) := by decide +kernel
theorem dX7_steps_41 : decode cX7_steps 41 = .ok (.baload, 1) := by decide +kernel
theorem dX7_steps_42 : decode cX7_steps 42 = .ok (.ifCond .eq 28, 3) := by decide +kernel
theorem dX7_steps_45 : decode cX7_steps 45 = .ok (.aload_n 0, 1) := by decide +kernel
theorem dX7_steps_46 : decode cX7_steps 46 = .ok (.getfield 42, 3) := by decide +kernel
theorem dX7_steps_49 : decode cX7_steps 49 = .ok (.iload 4, 2) := by decide +kernel
theorem dX7_steps_51 : decode cX7_steps 51 = .ok (.baload, 1) := by decide +kernel
theorem dX7_steps_52 : decode cX7_steps 52 = .ok (.ifCond .eq 18, 3) := by decide +kernel
theorem dX7_steps_55 : decode cX7_steps 55 = .ok (.iload_n 3, 1) := by decide +kernel
theorem dX7_steps_56 : decode cX7_steps 56 = .ok (.iload 4, 2) := by decide +kernel
theorem dX7_steps_58 : decode cX7_steps 58 = .ok (.ixor, 1) := by decide +kernel
theorem dX7_steps_59 : decode cX7_steps 59 = .ok (.invokestatic 81, 3) := by decide +kernel
theorem dX7_steps_62 : decode cX7_steps 62 = .ok (.iconst 2, 1) := by decide +kernel
theorem dX7_steps_63 : decode cX7_steps 63 = .ok (.if_icmp .ne 7, 3) := by decide +kernel
theorem dX7_steps_66 : decode cX7_steps 66 = .ok (.iconst 1, 1) := by decide +kernel
theorem dX7_steps_67 : decode cX7_steps 67 = .ok (.goto 4, 3) := by decide +kernel
theorem dX7_steps_70 : decode cX7_steps 70 = .ok (.iconst 0, 1) := by decide +kernel
theorem dX7_steps_71 : decode cX7_steps 71 = .ok (.iadd, 1) := by decide +kernel
theorem dX7_steps_72 : decode cX7_steps 72 = .ok (.istore_n 2, 1) := by decide +kernel
theorem dX7_steps_73 : decode cX7_steps 73 = .ok (.iinc 4 1, 3) := by decide +kernel
theorem dX7_steps_76 : decode cX7_steps 76 = .ok (.goto (-47), 3) := by decide +kernel
theorem dX7_steps_79 : decode cX7_steps 79 = .ok (.iinc 3 1, 3) := by decide +kernel
theorem dX7_steps_82 : decode cX7_steps 82 = .ok (.goto (-64), 3) := by decide +kernel
theorem dX7_steps_85 : decode cX7_steps 85 = .ok (.iload_n 2, 1) := by decide +kernel
theorem dX7_steps_86 : decode cX7_steps 86 = .ok (.ireturn, 1) := by decide +kernel
theorem dX7_less_0 : decode cX7_less 0 = .ok (.iload_n 1, 1) := by decide +kernel
theorem dX7_less_1 : decode cX7_less 1 = .ok (.invokestatic 131, 3) := by decide +kernel
theorem dX7_less_4 : decode cX7_less 4 = .ok (.ifCond .ne 5, 3) := by decide +kernel
theorem dX7_less_7 : decode cX7_less 7 = .ok (.iconst (-1), 1) := by decide +kernel
theorem dX7_less_8 : decode cX7_less 8 = .ok (.ireturn, 1) := by decide +kernel
theorem dX7_less_9 : decode cX7_less 9 = .ok (.aload_n 0, 1) := by decide +kernel
theorem dX7_less_10 : decode cX7_less 10 = .ok (.iload_n 2, 1) := by decide +kernel
theorem dX7_less_11 : decode cX7_less 11 = .ok (.invokevirtual 122, 3) := by decide +kernel
theorem dX7_less_14 : decode cX7_less 14 = .ok (.ifCond .eq 35, 3) := by decide +kernel
theorem dX7_less_17 : decode cX7_less 17 = .ok (.aload_n 0, 1) := by decide +kernel
theorem dX7_less_18 : decode cX7_less 18 = .ok (.iload_n 3, 1) := by decide +kernel
theorem dX7_less_19 : decode cX7_less 19 = .ok (.invokevirtual 122, 3) := by decide +kernel
theorem dX7_less_22 : decode cX7_less 22 = .ok (.ifCond .eq 27, 3) := by decide +kernel
theorem dX7_less_25 : decode cX7_less 25 = .ok (.aload_n 0, 1) := by decide +kernel
theorem dX7_less_26 : decode cX7_less 26 = .ok (.iload 4, 2) := by decide +kernel
theorem dX7_less_28 : decode cX7_less 28 = .ok (.invokevirtual 122, 3) := by decide +kernel
theorem dX7_less_31 : decode cX7_less 31 = .ok (.ifCond .eq 18, 3) := by decide +kernel
theorem dX7_less_34 : decode cX7_less 34 = .ok (.iload_n 2, 1) := by decide +kernel
theorem dX7_less_35 : decode cX7_less 35 = .ok (.iload_n 3, 1) := by decide +kernel
theorem dX7_less_36 : decode cX7_less 36 = .ok (.iand, 1) := by decide +kernel
theorem dX7_less_37 : decode cX7_less 37 = .ok (.ifCond .ne 12, 3) := by decide +kernel
theorem dX7_less_40 : decode cX7_less 40 = .ok (.iload 4, 2) := by decide +kernel
theorem dX7_less_42 : decode cX7_less 42 = .ok (.iload_n 2, 1) := by decide +kernel
theorem dX7_less_43 : decode cX7_less 43 = .ok (.iload_n 3, 1) := by decide +kernel
theorem dX7_less_44 : decode cX7_less 44 = .ok (.ior, 1) := by decide +kernel
theorem dX7_less_45 : decode cX7_less 45 = .ok (.iand, 1) := by decide +kernel
theorem dX7_less_46 : decode cX7_less 46 = .ok (.ifCond .eq 6, 3) := by decide +kernel
theorem dX7_less_49 : decode cX7_less 49 = .ok (.bipush (-2), 2) := by decide +kernel
theorem dX7_less_51 : decode cX7_less 51 = .ok (.ireturn, 1) := by decide +kernel
theorem dX7_less_52 : decode cX7_less 52 = .ok (.aload_n 0, 1) := by decide +kernel
theorem dX7_less_53 : decode cX7_less 53 = .ok (.iload_n 1, 1) := by decide +kernel
theorem dX7_less_54 : decode cX7_less 54 = .ok (.invokevirtual 134, 3) := by decide +kernel
theorem dX7_less_57 : decode cX7_less 57 = .ok (.aload_n 0, 1) := by decide +kernel
theorem dX7_less_58 : decode cX7_less 58 = .ok (.getfield 45, 3) := by decide +kernel
theorem dX7_less_61 : decode cX7_less 61 = .ok (.iload 4, 2) := by decide +kernel
theorem dX7_less_63 : decode cX7_less 63 = .ok (.iload_n 3, 1) := by decide +kernel
theorem dX7_less_64 : decode cX7_less 64 = .ok (.ior, 1) := by decide +kernel
theorem dX7_less_65 : decode cX7_less 65 = .ok (.iaload, 1) := by decide +kernel
theorem dX7_less_66 : decode cX7_less 66 = .ok (.aload_n 0, 1) := by decide +kernel
theorem dX7_less_67 : decode cX7_less 67 = .ok (.getfield 45, 3) := by decide +kernel
theorem dX7_less_70 : decode cX7_less 70 = .ok (.iload_n 3, 1) := by decide +kernel
theorem dX7_less_71 : decode cX7_less 71 = .ok (.iaload, 1) := by decide +kernel
theorem dX7_less_72 : decode cX7_less 72 = .ok (.isub, 1) := by decide +kernel
theorem dX7_less_73 : decode cX7_less 73 = .ok (.ireturn, 1) := by decide +kernel
theorem dX7_weightOf_0 : decode cX7_weightOf 0 = .ok (.iconst 0, 1) := by decide +kernel
theorem dX7_weightOf_1 : decode cX7_weightOf 1 = .ok (.istore_n 2, 1) := by decide +kernel
theorem dX7_weightOf_2 : decode cX7_weightOf 2 = .ok (.iconst 0, 1) := by decide +kernel
theorem dX7_weightOf_3 : decode cX7_weightOf 3 = .ok (.istore_n 3, 1) := by decide +kernel
theorem dX7_weightOf_4 : decode cX7_weightOf 4 = .ok (.iload_n 3, 1) := by decide +kernel
theorem dX7_weightOf_5 : decode cX7_weightOf 5 = .ok (.aload_n 0, 1) := by decide +kernel
theorem dX7_weightOf_6 : decode cX7_weightOf 6 = .ok (.getfield 7, 3) := by decide +kernel
theorem dX7_weightOf_9 : decode cX7_weightOf 9 = .ok (.if_icmp .ge 30, 3) := by decide +kernel
theorem dX7_weightOf_12 : decode cX7_weightOf 12 = .ok (.iload_n 2, 1) := by decide +kernel
theorem dX7_weightOf_13 : decode cX7_weightOf 13 = .ok (.iload_n 1, 1) := by decide +kernel
theorem dX7_weightOf_14 : decode cX7_weightOf 14 = .ok (.iload_n 3, 1) := by decide +kernel
theorem dX7_weightOf_15 : decode cX7_weightOf 15 = .ok (.invokestatic 77, 3) := by decide +kernel
theorem dX7_weightOf_18 : decode cX7_weightOf 18 = .ok (.ifCond .eq 12, 3) := by decide +kernel
theorem dX7_weightOf_21 : decode cX7_weightOf 21 = .ok (.aload_n 0, 1) := by decide +kernel
theorem dX7_weightOf_22 : decode cX7_weightOf 22 = .ok (.getfield 17, 3) := by decide +kernel
theorem dX7_weightOf_25 : decode cX7_weightOf 25 = .ok (.iload_n 3, 1) := by decide +kernel
theorem dX7_weightOf_26 : decode cX7_weightOf 26 = .ok (.iaload, 1) := by decide +kernel
theorem dX7_weightOf_27 : decode cX7_weightOf 27 = .ok (.goto 4, 3) := by decide +kernel
theorem dX7_weightOf_30 : decode cX7_weightOf 30 = .ok (.iconst 0, 1) := by decide +kernel
theorem dX7_weightOf_31 : decode cX7_weightOf 31 = .ok (.iadd, 1) := by decide +kernel
theorem dX7_weightOf_32 : decode cX7_weightOf 32 = .ok (.istore_n 2, 1) := by decide +kernel
theorem dX7_weightOf_33 : decode cX7_weightOf 33 = .ok (.iinc 3 1, 3) := by decide +kernel
theorem dX7_weightOf_36 : decode cX7_weightOf 36 = .ok (.goto (-32), 3) := by decide +kernel
theorem dX7_weightOf_39 : decode cX7_weightOf 39 = .ok (.iload_n 2, 1) := by decide +kernel
theorem dX7_weightOf_40 : decode cX7_weightOf 40 = .ok (.ireturn, 1) := by decide +kernel
theorem dX7_heaviest_0 : decode cX7_heaviest 0 = .ok (.iload_n 1, 1) := by decide +kernel
theorem dX7_heaviest_1 : decode cX7_heaviest 1 = .ok (.invokestatic 131, 3) := by decide +kernel
theorem dX7_heaviest_4 : decode cX7_heaviest 4 = .ok (.ifCond .eq 12, 3) := by decide +kernel
theorem dX7_heaviest_7 : decode cX7_heaviest 7 = .ok (.iload_n 2, 1) := by decide +kernel
theorem dX7_heaviest_8 : decode cX7_heaviest 8 = .ok (.iconst 0, 1) := by decide +kernel
theorem dX7_heaviest_9 : decode cX7_heaviest 9 = .ok (.iconst 1, 1) := by decide +kernel
theorem dX7_heaviest_10 : decode cX7_heaviest 10 = .ok (.invokestatic 63, 3) := by decide +kernel
theorem dX7_heaviest_13 : decode cX7_heaviest 13 = .ok (.ifCond .ne 5, 3) := by decide +kernel
theorem dX7_heaviest_16 : decode cX7_heaviest 16 = .ok (.iconst (-1), 1) := by decide +kernel
theorem dX7_heaviest_17 : decode cX7_heaviest 17 = .ok (.ireturn, 1) := by decide +kernel
theorem dX7_heaviest_18 : decode cX7_heaviest 18 = .ok (.aload_n 0, 1) := by decide +kernel
theorem dX7_heaviest_19 : decode cX7_heaviest 19 = .ok (.iload_n 1, 1) := by decide +kernel
theorem dX7_heaviest_20 : decode cX7_heaviest 20 = .ok (.invokevirtual 134, 3) := by decide +kernel
theorem dX7_heaviest_23 : decode cX7_heaviest 23 = .ok (.iconst (-1), 1) := by decide +kernel
theorem dX7_heaviest_24 : decode cX7_heaviest 24 = .ok (.istore_n 3, 1) := by decide +kernel
theorem dX7_heaviest_25 : decode cX7_heaviest 25 = .ok (.iconst 0, 1) := by decide +kernel
theorem dX7_heaviest_26 : decode cX7_heaviest 26 = .ok (.istore 4, 2) := by decide +kernel
theorem dX7_heaviest_28 : decode cX7_heaviest 28 = .ok (.iload 4, 2) := by decide +kernel
theorem dX7_heaviest_30 : decode cX7_heaviest 30 = .ok (.aload_n 0, 1) := by decide +kernel
theorem dX7_heaviest_31 : decode cX7_heaviest 31 = .ok (.invokevirtual 67, 3) := by decide +kernel
theorem dX7_heaviest_34 : decode cX7_heaviest 34 = .ok (.if_icmp .gt 40, 3) := by decide +kernel
theorem dX7_heaviest_37 : decode cX7_heaviest 37 = .ok (.aload_n 0, 1) := by decide +kernel
theorem dX7_heaviest_38 : decode cX7_heaviest 38 = .ok (.getfield 42, 3) := by decide +kernel
theorem dX7_heaviest_41 : decode cX7_heaviest 41 = .ok (.iload 4, 2) := by decide +kernel
theorem dX7_heaviest_43 : decode cX7_heaviest 43 = .ok (.baload, 1) := by decide +kernel
theorem dX7_heaviest_44 : decode cX7_heaviest 44 = .ok (.ifCond .eq 24, 3) := by decide +kernel
theorem dX7_heaviest_47 : decode cX7_heaviest 47 = .ok (.iload_n 3, 1) := by decide +kernel
theorem dX7_heaviest_48 : decode cX7_heaviest 48 = .ok (.ifCond .lt 17, 3) := by decide +kernel
theorem dX7_heaviest_51 : decode cX7_heaviest 51 = .ok (.aload_n 0, 1) := by decide +kernel
theorem dX7_heaviest_52 : decode cX7_heaviest 52 = .ok (.iload 4, 2) := by decide +kernel
theorem dX7_heaviest_54 : decode cX7_heaviest 54 = .ok (.invokevirtual 147, 3) := by decide +kernel
theorem dX7_heaviest_57 : decode cX7_heaviest 57 = .ok (.aload_n 0, 1) := by decide +kernel
theorem dX7_heaviest_58 : decode cX7_heaviest 58 = .ok (.iload_n 3, 1) := by decide +kernel
theorem dX7_heaviest_59 : decode cX7_heaviest 59 = .ok (.invokevirtual 147, 3) := by decide +kernel
theorem dX7_heaviest_62 : decode cX7_heaviest 62 = .ok (.if_icmp .le 6, 3) := by decide +kernel
theorem dX7_heaviest_65 : decode cX7_heaviest 65 = .ok (.iload 4, 2) := by decide +kernel
theorem dX7_heaviest_67 : decode cX7_heaviest 67 = .ok (.istore_n 3, 1) := by decide +kernel
theorem dX7_heaviest_68 : decode cX7_heaviest 68 = .ok (.iinc 4 1, 3) := by decide +kernel
theorem dX7_heaviest_71 : decode cX7_heaviest 71 = .ok (.goto (-43), 3) := by decide +kernel
theorem dX7_heaviest_74 : decode cX7_heaviest 74 = .ok (.iload_n 2, 1) := by decide +kernel
theorem dX7_heaviest_75 : decode cX7_heaviest 75 = .ok (.ifCond .ne 7, 3) := by decide +kernel
theorem dX7_heaviest_78 : decode cX7_heaviest 78 = .ok (.iload_n 3, 1) := by decide +kernel
theorem dX7_heaviest_79 : decode cX7_heaviest 79 = .ok (.goto 8, 3) := by decide +kernel
theorem dX7_heaviest_82 : decode cX7_heaviest 82 = .ok (.aload_n 0, 1) := by decide +kernel
theorem dX7_heaviest_83 : decode cX7_heaviest 83 = .ok (.iload_n 3, 1) := by decide +kernel
theorem dX7_heaviest_84 : decode cX7_heaviest 84 = .ok (.invokevirtual 147, 3) := by decide +kernel
theorem dX7_heaviest_87 : decode cX7_heaviest 87 = .ok (.ireturn, 1) := by decide +kernel
theorem dX7_alike_0 : decode cX7_alike 0 = .ok (.iload_n 1, 1) := by decide +kernel
theorem dX7_alike_1 : decode cX7_alike 1 = .ok (.invokestatic 131, 3) := by decide +kernel
theorem dX7_alike_4 : decode cX7_alike 4 = .ok (.ifCond .eq 10, 3) := by decide +kernel
theorem dX7_alike_7 : decode cX7_alike 7 = .ok (.iload_n 2, 1) := by decide +kernel
theorem dX7_alike_8 : decode cX7_alike 8 = .ok (.invokestatic 131, 3) := by decide +kernel
theorem dX7_alike_11 : decode cX7_alike 11 = .ok (.ifCond .ne 5, 3) := by decide +kernel
theorem dX7_alike_14 : decode cX7_alike 14 = .ok (.iconst (-1), 1) := by decide +kernel
theorem dX7_alike_15 : decode cX7_alike 15 = .ok (.ireturn, 1) := by decide +kernel
theorem dX7_alike_16 : decode cX7_alike 16 = .ok (.aload_n 0, 1) := by decide +kernel
theorem dX7_alike_17 : decode cX7_alike 17 = .ok (.iload_n 1, 1) := by decide +kernel
theorem dX7_alike_18 : decode cX7_alike 18 = .ok (.invokevirtual 134, 3) := by decide +kernel
theorem dX7_alike_21 : decode cX7_alike 21 = .ok (.iconst 0, 1) := by decide +kernel
theorem dX7_alike_22 : decode cX7_alike 22 = .ok (.istore_n 3, 1) := by decide +kernel
theorem dX7_alike_23 : decode cX7_alike 23 = .ok (.iload_n 3, 1) := by decide +kernel
theorem dX7_alike_24 : decode cX7_alike 24 = .ok (.aload_n 0, 1) := by decide +kernel
theorem dX7_alike_25 : decode cX7_alike 25 = .ok (.invokevirtual 67, 3) := by decide +kernel
theorem dX7_alike_28 : decode cX7_alike 28 = .ok (.if_icmp .gt 21, 3) := by decide +kernel
theorem dX7_alike_31 : decode cX7_alike 31 = .ok (.aload_n 0, 1) := by decide +kernel
theorem dX7_alike_32 : decode cX7_alike 32 = .ok (.getfield 48, 3) := by decide +kernel
theorem dX7_alike_35 : decode cX7_alike 35 = .ok (.iload_n 3, 1) := by decide +kernel
theorem dX7_alike_36 : decode cX7_alike 36 = .ok (.aload_n 0, 1) := by decide +kernel
theorem dX7_alike_37 : decode cX7_alike 37 = .ok (.getfield 45, 3) := by decide +kernel
theorem dX7_alike_40 : decode cX7_alike 40 = .ok (.iload_n 3, 1) := by decide +kernel
theorem dX7_alike_41 : decode cX7_alike 41 = .ok (.iaload, 1) := by decide +kernel
theorem dX7_alike_42 : decode cX7_alike 42 = .ok (.iastore, 1) := by decide +kernel
theorem dX7_alike_43 : decode cX7_alike 43 = .ok (.iinc 3 1, 3) := by decide +kernel
theorem dX7_alike_46 : decode cX7_alike 46 = .ok (.goto (-23), 3) := by decide +kernel
theorem dX7_alike_49 : decode cX7_alike 49 = .ok (.aload_n 0, 1) := by decide +kernel
theorem dX7_alike_50 : decode cX7_alike 50 = .ok (.iload_n 2, 1) := by decide +kernel
theorem dX7_alike_51 : decode cX7_alike 51 = .ok (.invokevirtual 134, 3) := by decide +kernel
theorem dX7_alike_54 : decode cX7_alike 54 = .ok (.iconst 0, 1) := by decide +kernel
theorem dX7_alike_55 : decode cX7_alike 55 = .ok (.istore_n 3, 1) := by decide +kernel
theorem dX7_alike_56 : decode cX7_alike 56 = .ok (.iload_n 3, 1) := by decide +kernel
theorem dX7_alike_57 : decode cX7_alike 57 = .ok (.aload_n 0, 1) := by decide +kernel
theorem dX7_alike_58 : decode cX7_alike 58 = .ok (.invokevirtual 67, 3) := by decide +kernel
theorem dX7_alike_61 : decode cX7_alike 61 = .ok (.if_icmp .gt 26, 3) := by decide +kernel
theorem dX7_alike_64 : decode cX7_alike 64 = .ok (.aload_n 0, 1) := by decide +kernel
theorem dX7_alike_65 : decode cX7_alike 65 = .ok (.getfield 45, 3) := by decide +kernel
theorem dX7_alike_68 : decode cX7_alike 68 = .ok (.iload_n 3, 1) := by decide +kernel
theorem dX7_alike_69 : decode cX7_alike 69 = .ok (.iaload, 1) := by decide +kernel
theorem dX7_alike_70 : decode cX7_alike 70 = .ok (.aload_n 0, 1) := by decide +kernel
theorem dX7_alike_71 : decode cX7_alike 71 = .ok (.getfield 48, 3) := by decide +kernel
theorem dX7_alike_74 : decode cX7_alike 74 = .ok (.iload_n 3, 1) := by decide +kernel
theorem dX7_alike_75 : decode cX7_alike 75 = .ok (.iaload, 1) := by decide +kernel
theorem dX7_alike_76 : decode cX7_alike 76 = .ok (.if_icmp .eq 5, 3) := by decide +kernel
theorem dX7_alike_79 : decode cX7_alike 79 = .ok (.iload_n 3, 1) := by decide +kernel
theorem dX7_alike_80 : decode cX7_alike 80 = .ok (.ireturn, 1) := by decide +kernel
theorem dX7_alike_81 : decode cX7_alike 81 = .ok (.iinc 3 1, 3) := by decide +kernel
theorem dX7_alike_84 : decode cX7_alike 84 = .ok (.goto (-28), 3) := by decide +kernel
theorem dX7_alike_87 : decode cX7_alike 87 = .ok (.bipush (-5), 2) := by decide +kernel
theorem dX7_alike_89 : decode cX7_alike 89 = .ok (.ireturn, 1) := by decide +kernel
theorem dX7_cut_0 : decode cX7_cut 0 = .ok (.aload_n 0, 1) := by decide +kernel
theorem dX7_cut_1 : decode cX7_cut 1 = .ok (.iload_n 1, 1) := by decide +kernel
theorem dX7_cut_2 : decode cX7_cut 2 = .ok (.invokevirtual 122, 3) := by decide +kernel
theorem dX7_cut_5 : decode cX7_cut 5 = .ok (.ifCond .ne 6, 3) := by decide +kernel
theorem dX7_cut_8 : decode cX7_cut 8 = .ok (.bipush (-2), 2) := by decide +kernel
theorem dX7_cut_10 : decode cX7_cut 10 = .ok (.ireturn, 1) := by decide +kernel
theorem dX7_cut_11 : decode cX7_cut 11 = .ok (.aload_n 0, 1) := by decide +kernel
theorem dX7_cut_12 : decode cX7_cut 12 = .ok (.invokevirtual 90, 3) := by decide +kernel
theorem dX7_cut_15 : decode cX7_cut 15 = .ok (.aload_n 0, 1) := by decide +kernel
theorem dX7_cut_16 : decode cX7_cut 16 = .ok (.iload_n 1, 1) := by decide +kernel
theorem dX7_cut_17 : decode cX7_cut 17 = .ok (.invokevirtual 93, 3) := by decide +kernel
theorem dX7_cut_20 : decode cX7_cut 20 = .ok (.ireturn, 1) := by decide +kernel
theorem dX7_reach_0 : decode cX7_reach 0 = .ok (.aload_n 0, 1) := by decide +kernel
theorem dX7_reach_1 : decode cX7_reach 1 = .ok (.iload_n 1, 1) := by decide +kernel
theorem dX7_reach_2 : decode cX7_reach 2 = .ok (.invokevirtual 122, 3) := by decide +kernel
theorem dX7_reach_5 : decode cX7_reach 5 = .ok (.ifCond .ne 6, 3) := by decide +kernel
theorem dX7_reach_8 : decode cX7_reach 8 = .ok (.bipush (-2), 2) := by decide +kernel
theorem dX7_reach_10 : decode cX7_reach 10 = .ok (.ireturn, 1) := by decide +kernel
theorem dX7_reach_11 : decode cX7_reach 11 = .ok (.iload_n 1, 1) := by decide +kernel
theorem dX7_reach_12 : decode cX7_reach 12 = .ok (.istore_n 2, 1) := by decide +kernel
theorem dX7_reach_13 : decode cX7_reach 13 = .ok (.iconst 0, 1) := by decide +kernel
theorem dX7_reach_14 : decode cX7_reach 14 = .ok (.istore_n 3, 1) := by decide +kernel
theorem dX7_reach_15 : decode cX7_reach 15 = .ok (.iload_n 2, 1) := by decide +kernel
theorem dX7_reach_16 : decode cX7_reach 16 = .ok (.iload_n 3, 1) := by decide +kernel
theorem dX7_reach_17 : decode cX7_reach 17 = .ok (.if_icmp .eq 49, 3) := by decide +kernel
theorem dX7_reach_20 : decode cX7_reach 20 = .ok (.iload_n 2, 1) := by decide +kernel
theorem dX7_reach_21 : decode cX7_reach 21 = .ok (.istore_n 3, 1) := by decide +kernel
theorem dX7_reach_22 : decode cX7_reach 22 = .ok (.iconst 0, 1) := by decide +kernel
theorem dX7_reach_23 : decode cX7_reach 23 = .ok (.istore 4, 2) := by decide +kernel
theorem dX7_reach_25 : decode cX7_reach 25 = .ok (.iload 4, 2) := by decide +kernel
theorem dX7_reach_27 : decode cX7_reach 27 = .ok (.aload_n 0, 1) := by decide +kernel
theorem dX7_reach_28 : decode cX7_reach 28 = .ok (.getfield 7, 3) := by decide +kernel
theorem dX7_reach_31 : decode cX7_reach 31 = .ok (.if_icmp .ge 32, 3) := by decide +kernel
theorem dX7_reach_34 : decode cX7_reach 34 = .ok (.iload_n 2, 1) := by decide +kernel
theorem dX7_reach_35 : decode cX7_reach 35 = .ok (.iload_n 2, 1) := by decide +kernel
theorem dX7_reach_36 : decode cX7_reach 36 = .ok (.iload 4, 2) := by decide +kernel
theorem dX7_reach_38 : decode cX7_reach 38 = .ok (.invokestatic 77, 3) := by decide +kernel
theorem dX7_reach_41 : decode cX7_reach 41 = .ok (.ifCond .eq 13, 3) := by decide +kernel
theorem dX7_reach_44 : decode cX7_reach 44 = .ok (.aload_n 0, 1) := by decide +kernel
theorem dX7_reach_45 : decode cX7_reach 45 = .ok (.getfield 13, 3) := by decide +kernel
theorem dX7_reach_48 : decode cX7_reach 48 = .ok (.iload 4, 2) := by decide +kernel
theorem dX7_reach_50 : decode cX7_reach 50 = .ok (.iaload, 1) := by decide +kernel
theorem dX7_reach_51 : decode cX7_reach 51 = .ok (.goto 4, 3) := by decide +kernel
theorem dX7_reach_54 : decode cX7_reach 54 = .ok (.iconst 0, 1) := by decide +kernel
theorem dX7_reach_55 : decode cX7_reach 55 = .ok (.ior, 1) := by decide +kernel
theorem dX7_reach_56 : decode cX7_reach 56 = .ok (.istore_n 2, 1) := by decide +kernel
theorem dX7_reach_57 : decode cX7_reach 57 = .ok (.iinc 4 1, 3) := by decide +kernel
theorem dX7_reach_60 : decode cX7_reach 60 = .ok (.goto (-35), 3) := by decide +kernel
theorem dX7_reach_63 : decode cX7_reach 63 = .ok (.goto (-48), 3) := by decide +kernel
theorem dX7_reach_66 : decode cX7_reach 66 = .ok (.iload_n 2, 1) := by decide +kernel
theorem dX7_reach_67 : decode cX7_reach 67 = .ok (.ireturn, 1) := by decide +kernel
theorem dX7_canHave_0 : decode cX7_canHave 0 = .ok (.iconst 0, 1) := by decide +kernel
theorem dX7_canHave_1 : decode cX7_canHave 1 = .ok (.istore_n 3, 1) := by decide +kernel
theorem dX7_canHave_2 : decode cX7_canHave 2 = .ok (.iload_n 3, 1) := by decide +kernel
theorem dX7_canHave_3 : decode cX7_canHave 3 = .ok (.aload_n 0, 1) := by decide +kernel
theorem dX7_canHave_4 : decode cX7_canHave 4 = .ok (.invokevirtual 67, 3) := by decide +kernel
theorem dX7_canHave_7 : decode cX7_canHave 7 = .ok (.if_icmp .gt 32, 3) := by decide +kernel
theorem dX7_canHave_10 : decode cX7_canHave 10 = .ok (.iload_n 3, 1) := by decide +kernel
theorem dX7_canHave_11 : decode cX7_canHave 11 = .ok (.iload_n 1, 1) := by decide +kernel
theorem dX7_canHave_12 : decode cX7_canHave 12 = .ok (.iconst (-1), 1) := by decide +kernel
theorem dX7_canHave_13 : decode cX7_canHave 13 = .ok (.ixor, 1) := by decide +kernel
theorem dX7_canHave_14 : decode cX7_canHave 14 = .ok (.iand, 1) := by decide +kernel
theorem dX7_canHave_15 : decode cX7_canHave 15 = .ok (.ifCond .ne 18, 3) := by decide +kernel
theorem dX7_canHave_18 : decode cX7_canHave 18 = .ok (.aload_n 0, 1) := by decide +kernel
theorem dX7_canHave_19 : decode cX7_canHave 19 = .ok (.iload_n 3, 1) := by decide +kernel
theorem dX7_canHave_20 : decode cX7_canHave 20 = .ok (.iload_n 2, 1) := by decide +kernel
theorem dX7_canHave_21 : decode cX7_canHave 21 = .ok (.invokevirtual 96, 3) := by decide +kernel
theorem dX7_canHave_24 : decode cX7_canHave 24 = .ok (.iload_n 3, 1) := by decide +kernel
theorem dX7_canHave_25 : decode cX7_canHave 25 = .ok (.invokestatic 81, 3) := by decide +kernel
theorem dX7_canHave_28 : decode cX7_canHave 28 = .ok (.if_icmp .ge 5, 3) := by decide +kernel
theorem dX7_canHave_31 : decode cX7_canHave 31 = .ok (.iconst 0, 1) := by decide +kernel
theorem dX7_canHave_32 : decode cX7_canHave 32 = .ok (.ireturn, 1) := by decide +kernel
theorem dX7_canHave_33 : decode cX7_canHave 33 = .ok (.iinc 3 1, 3) := by decide +kernel
theorem dX7_canHave_36 : decode cX7_canHave 36 = .ok (.goto (-34), 3) := by decide +kernel
theorem dX7_canHave_39 : decode cX7_canHave 39 = .ok (.iconst 1, 1) := by decide +kernel
theorem dX7_canHave_40 : decode cX7_canHave 40 = .ok (.ireturn, 1) := by decide +kernel
theorem dX7_partners_0 : decode cX7_partners 0 = .ok (.aload_n 0, 1) := by decide +kernel
theorem dX7_partners_1 : decode cX7_partners 1 = .ok (.iload_n 1, 1) := by decide +kernel
theorem dX7_partners_2 : decode cX7_partners 2 = .ok (.invokevirtual 122, 3) := by decide +kernel
theorem dX7_partners_5 : decode cX7_partners 5 = .ok (.ifCond .ne 6, 3) := by decide +kernel
theorem dX7_partners_8 : decode cX7_partners 8 = .ok (.bipush (-2), 2) := by decide +kernel
theorem dX7_partners_10 : decode cX7_partners 10 = .ok (.ireturn, 1) := by decide +kernel
theorem dX7_partners_11 : decode cX7_partners 11 = .ok (.aload_n 0, 1) := by decide +kernel
theorem dX7_partners_12 : decode cX7_partners 12 = .ok (.iload_n 1, 1) := by decide +kernel
theorem dX7_partners_13 : decode cX7_partners 13 = .ok (.iconst 0, 1) := by decide +kernel
theorem dX7_partners_14 : decode cX7_partners 14 = .ok (.invokevirtual 150, 3) := by decide +kernel
theorem dX7_partners_17 : decode cX7_partners 17 = .ok (.ifCond .ne 6, 3) := by decide +kernel
theorem dX7_partners_20 : decode cX7_partners 20 = .ok (.bipush (-5), 2) := by decide +kernel
theorem dX7_partners_22 : decode cX7_partners 22 = .ok (.ireturn, 1) := by decide +kernel
theorem dX7_partners_23 : decode cX7_partners 23 = .ok (.iconst 0, 1) := by decide +kernel
theorem dX7_partners_24 : decode cX7_partners 24 = .ok (.istore_n 2, 1) := by decide +kernel
theorem dX7_partners_25 : decode cX7_partners 25 = .ok (.iconst 0, 1) := by decide +kernel
theorem dX7_partners_26 : decode cX7_partners 26 = .ok (.istore_n 3, 1) := by decide +kernel
theorem dX7_partners_27 : decode cX7_partners 27 = .ok (.iload_n 1, 1) := by decide +kernel
theorem dX7_partners_28 : decode cX7_partners 28 = .ok (.istore 4, 2) := by decide +kernel
theorem dX7_partners_30 : decode cX7_partners 30 = .ok (.iconst 0, 1) := by decide +kernel
theorem dX7_partners_31 : decode cX7_partners 31 = .ok (.istore 5, 2) := by decide +kernel
theorem dX7_partners_33 : decode cX7_partners 33 = .ok (.iload 5, 2) := by decide +kernel
theorem dX7_partners_35 : decode cX7_partners 35 = .ok (.aload_n 0, 1) := by decide +kernel
theorem dX7_partners_36 : decode cX7_partners 36 = .ok (.getfield 7, 3) := by decide +kernel
theorem dX7_partners_39 : decode cX7_partners 39 = .ok (.if_icmp .ge 97, 3) := by decide +kernel
theorem dX7_partners_42 : decode cX7_partners 42 = .ok (.iload_n 1, 1) := by decide +kernel
theorem dX7_partners_43 : decode cX7_partners 43 = .ok (.iload 5, 2) := by decide +kernel
theorem dX7_partners_45 : decode cX7_partners 45 = .ok (.invokestatic 77, 3) := by decide +kernel
theorem dX7_partners_48 : decode cX7_partners 48 = .ok (.ifCond .ne 6, 3) := by decide +kernel
theorem dX7_partners_51 : decode cX7_partners 51 = .ok (.goto 79, 3) := by decide +kernel
theorem dX7_partners_54 : decode cX7_partners 54 = .ok (.iload 4, 2) := by decide +kernel
theorem dX7_partners_56 : decode cX7_partners 56 = .ok (.iconst 1, 1) := by decide +kernel
theorem dX7_partners_57 : decode cX7_partners 57 = .ok (.iload 5, 2) := by decide +kernel
theorem dX7_partners_59 : decode cX7_partners 59 = .ok (.ishl, 1) := by decide +kernel
theorem dX7_partners_60 : decode cX7_partners 60 = .ok (.iconst (-1), 1) := by decide +kernel
theorem dX7_partners_61 : decode cX7_partners 61 = .ok (.ixor, 1) := by decide +kernel
theorem dX7_partners_62 : decode cX7_partners 62 = .ok (.iand, 1) := by decide +kernel
theorem dX7_partners_63 : decode cX7_partners 63 = .ok (.istore 4, 2) := by decide +kernel
theorem dX7_partners_65 : decode cX7_partners 65 = .ok (.iconst 0, 1) := by decide +kernel
theorem dX7_partners_66 : decode cX7_partners 66 = .ok (.istore 6, 2) := by decide +kernel
theorem dX7_partners_68 : decode cX7_partners 68 = .ok (.iload_n 3, 1) := by decide +kernel
theorem dX7_partners_69 : decode cX7_partners 69 = .ok (.iload 6, 2) := by decide +kernel
theorem dX7_partners_71 : decode cX7_partners 71 = .ok (.invokestatic 77, 3) := by decide +kernel
theorem dX7_partners_74 : decode cX7_partners 74 = .ok (.ifCond .ne 33, 3) := by decide +kernel
theorem dX7_partners_77 : decode cX7_partners 77 = .ok (.aload_n 0, 1) := by decide +kernel
theorem dX7_partners_78 : decode cX7_partners 78 = .ok (.getfield 20, 3) := by decide +kernel
theorem dX7_partners_81 : decode cX7_partners 81 = .ok (.iload 6, 2) := by decide +kernel
theorem dX7_partners_83 : decode cX7_partners 83 = .ok (.iaload, 1) := by decide +kernel
theorem dX7_partners_84 : decode cX7_partners 84 = .ok (.iload 5, 2) := by decide +kernel
theorem dX7_partners_86 : decode cX7_partners 86 = .ok (.invokestatic 77, 3) := by decide +kernel
theorem dX7_partners_89 : decode cX7_partners 89 = .ok (.ifCond .eq 18, 3) := by decide +kernel
theorem dX7_partners_92 : decode cX7_partners 92 = .ok (.aload_n 0, 1) := by decide +kernel
theorem dX7_partners_93 : decode cX7_partners 93 = .ok (.iload 4, 2) := by decide +kernel
theorem dX7_partners_95 : decode cX7_partners 95 = .ok (.iload_n 3, 1) := by decide +kernel
theorem dX7_partners_96 : decode cX7_partners 96 = .ok (.iconst 1, 1) := by decide +kernel
theorem dX7_partners_97 : decode cX7_partners 97 = .ok (.iload 6, 2) := by decide +kernel
theorem dX7_partners_99 : decode cX7_partners 99 = .ok (.ishl, 1) := by decide +kernel
theorem dX7_partners_100 : decode cX7_partners 100 = .ok (.ior, 1) := by decide +kernel
theorem dX7_partners_101 : decode cX7_partners 101 = .ok (.invokevirtual 150, 3) := by decide +kernel
theorem dX7_partners_104 : decode cX7_partners 104 = .ok (.ifCond .ne 9, 3) := by decide +kernel
theorem dX7_partners_107 : decode cX7_partners 107 = .ok (.iinc 6 1, 3) := by decide +kernel
theorem dX7_partners_110 : decode cX7_partners 110 = .ok (.goto (-42), 3) := by decide +kernel
theorem dX7_partners_113 : decode cX7_partners 113 = .ok (.iload_n 3, 1) := by decide +kernel
theorem dX7_partners_114 : decode cX7_partners 114 = .ok (.iconst 1, 1) := by decide +kernel
theorem dX7_partners_115 : decode cX7_partners 115 = .ok (.iload 6, 2) := by decide +kernel
theorem dX7_partners_117 : decode cX7_partners 117 = .ok (.ishl, 1) := by decide +kernel
theorem dX7_partners_118 : decode cX7_partners 118 = .ok (.ior, 1) := by decide +kernel
theorem dX7_partners_119 : decode cX7_partners 119 = .ok (.istore_n 3, 1) := by decide +kernel
theorem dX7_partners_120 : decode cX7_partners 120 = .ok (.bipush 10, 2) := by decide +kernel
theorem dX7_partners_122 : decode cX7_partners 122 = .ok (.iload_n 2, 1) := by decide +kernel
theorem dX7_partners_123 : decode cX7_partners 123 = .ok (.imul, 1) := by decide +kernel
theorem dX7_partners_124 : decode cX7_partners 124 = .ok (.iload 6, 2) := by decide +kernel
theorem dX7_partners_126 : decode cX7_partners 126 = .ok (.iadd, 1) := by decide +kernel
theorem dX7_partners_127 : decode cX7_partners 127 = .ok (.iconst 1, 1) := by decide +kernel
theorem dX7_partners_128 : decode cX7_partners 128 = .ok (.iadd, 1) := by decide +kernel
theorem dX7_partners_129 : decode cX7_partners 129 = .ok (.istore_n 2, 1) := by decide +kernel
theorem dX7_partners_130 : decode cX7_partners 130 = .ok (.iinc 5 1, 3) := by decide +kernel
theorem dX7_partners_133 : decode cX7_partners 133 = .ok (.goto (-100), 3) := by decide +kernel
theorem dX7_partners_136 : decode cX7_partners 136 = .ok (.iload_n 2, 1) := by decide +kernel
theorem dX7_partners_137 : decode cX7_partners 137 = .ok (.ireturn, 1) := by decide +kernel
theorem dX7_turned_0 : decode cX7_turned 0 = .ok (.aload_n 0, 1) := by decide +kernel
theorem dX7_turned_1 : decode cX7_turned 1 = .ok (.iconst 0, 1) := by decide +kernel
theorem dX7_turned_2 : decode cX7_turned 2 = .ok (.putfield 71, 3) := by decide +kernel
theorem dX7_turned_5 : decode cX7_turned 5 = .ok (.iconst 0, 1) := by decide +kernel
theorem dX7_turned_6 : decode cX7_turned 6 = .ok (.istore_n 1, 1) := by decide +kernel
theorem dX7_turned_7 : decode cX7_turned 7 = .ok (.iload_n 1, 1) := by decide +kernel
theorem dX7_turned_8 : decode cX7_turned 8 = .ok (.aload_n 0, 1) := by decide +kernel
theorem dX7_turned_9 : decode cX7_turned 9 = .ok (.getfield 7, 3) := by decide +kernel
theorem dX7_turned_12 : decode cX7_turned 12 = .ok (.if_icmp .ge 49, 3) := by decide +kernel
theorem dX7_turned_15 : decode cX7_turned 15 = .ok (.aload_n 0, 1) := by decide +kernel
theorem dX7_turned_16 : decode cX7_turned 16 = .ok (.getfield 74, 3) := by decide +kernel
theorem dX7_turned_19 : decode cX7_turned 19 = .ok (.iload_n 1, 1) := by decide +kernel
theorem dX7_turned_20 : decode cX7_turned 20 = .ok (.invokestatic 77, 3) := by decide +kernel
theorem dX7_turned_23 : decode cX7_turned 23 = .ok (.ifCond .ne 32, 3) := by decide +kernel
theorem dX7_turned_26 : decode cX7_turned 26 = .ok (.aload_n 0, 1) := by decide +kernel
theorem dX7_turned_27 : decode cX7_turned 27 = .ok (.getfield 20, 3) := by decide +kernel
theorem dX7_turned_30 : decode cX7_turned 30 = .ok (.aload_n 0, 1) := by decide +kernel
theorem dX7_turned_31 : decode cX7_turned 31 = .ok (.getfield 71, 3) := by decide +kernel
theorem dX7_turned_34 : decode cX7_turned 34 = .ok (.iconst 1, 1) := by decide +kernel
theorem dX7_turned_35 : decode cX7_turned 35 = .ok (.iload_n 1, 1) := by decide +kernel
theorem dX7_turned_36 : decode cX7_turned 36 = .ok (.ishl, 1) := by decide +kernel
theorem dX7_turned_37 : decode cX7_turned 37 = .ok (.aload_n 0, 1) := by decide +kernel
theorem dX7_turned_38 : decode cX7_turned 38 = .ok (.getfield 13, 3) := by decide +kernel
theorem dX7_turned_41 : decode cX7_turned 41 = .ok (.iload_n 1, 1) := by decide +kernel
theorem dX7_turned_42 : decode cX7_turned 42 = .ok (.iaload, 1) := by decide +kernel
theorem dX7_turned_43 : decode cX7_turned 43 = .ok (.ior, 1) := by decide +kernel
theorem dX7_turned_44 : decode cX7_turned 44 = .ok (.iastore, 1) := by decide +kernel
theorem dX7_turned_45 : decode cX7_turned 45 = .ok (.aload_n 0, 1) := by decide +kernel
theorem dX7_turned_46 : decode cX7_turned 46 = .ok (.dup, 1) := by decide +kernel
theorem dX7_turned_47 : decode cX7_turned 47 = .ok (.getfield 71, 3) := by decide +kernel
theorem dX7_turned_50 : decode cX7_turned 50 = .ok (.iconst 1, 1) := by decide +kernel
theorem dX7_turned_51 : decode cX7_turned 51 = .ok (.iadd, 1) := by decide +kernel
theorem dX7_turned_52 : decode cX7_turned 52 = .ok (.putfield 71, 3) := by decide +kernel
theorem dX7_turned_55 : decode cX7_turned 55 = .ok (.iinc 1 1, 3) := by decide +kernel
theorem dX7_turned_58 : decode cX7_turned 58 = .ok (.goto (-51), 3) := by decide +kernel
theorem dX7_turned_61 : decode cX7_turned 61 = .ok (.aload_n 0, 1) := by decide +kernel
theorem dX7_turned_62 : decode cX7_turned 62 = .ok (.getfield 71, 3) := by decide +kernel
theorem dX7_turned_65 : decode cX7_turned 65 = .ok (.ireturn, 1) := by decide +kernel
theorem dX7_canTake_0 : decode cX7_canTake 0 = .ok (.iconst 0, 1) := by decide +kernel
theorem dX7_canTake_1 : decode cX7_canTake 1 = .ok (.istore_n 3, 1) := by decide +kernel
theorem dX7_canTake_2 : decode cX7_canTake 2 = .ok (.iload_n 3, 1) := by decide +kernel
theorem dX7_canTake_3 : decode cX7_canTake 3 = .ok (.iconst 1, 1) := by decide +kernel
theorem dX7_canTake_4 : decode cX7_canTake 4 = .ok (.aload_n 0, 1) := by decide +kernel
theorem dX7_canTake_5 : decode cX7_canTake 5 = .ok (.getfield 71, 3) := by decide +kernel
theorem dX7_canTake_8 : decode cX7_canTake 8 = .ok (.ishl, 1) := by decide +kernel
theorem dX7_canTake_9 : decode cX7_canTake 9 = .ok (.if_icmp .ge 82, 3) := by decide +kernel
theorem dX7_canTake_12 : decode cX7_canTake 12 = .ok (.iconst 0, 1) := by decide +kernel
theorem dX7_canTake_13 : decode cX7_canTake 13 = .ok (.istore 4, 2) := by decide +kernel
theorem dX7_canTake_15 : decode cX7_canTake 15 = .ok (.iconst 0, 1) := by decide +kernel
theorem dX7_canTake_16 : decode cX7_canTake 16 = .ok (.istore 5, 2) := by decide +kernel
theorem dX7_canTake_18 : decode cX7_canTake 18 = .ok (.iload 5, 2) := by decide +kernel
theorem dX7_canTake_20 : decode cX7_canTake 20 = .ok (.aload_n 0, 1) := by decide +kernel
theorem dX7_canTake_21 : decode cX7_canTake 21 = .ok (.getfield 71, 3) := by decide +kernel
theorem dX7_canTake_24 : decode cX7_canTake 24 = .ok (.if_icmp .ge 34, 3) := by decide +kernel
theorem dX7_canTake_27 : decode cX7_canTake 27 = .ok (.iload 4, 2) := by decide +kernel
theorem dX7_canTake_29 : decode cX7_canTake 29 = .ok (.iload_n 3, 1) := by decide +kernel
theorem dX7_canTake_30 : decode cX7_canTake 30 = .ok (.iload 5, 2) := by decide +kernel
theorem dX7_canTake_32 : decode cX7_canTake 32 = .ok (.invokestatic 77, 3) := by decide +kernel
theorem dX7_canTake_35 : decode cX7_canTake 35 = .ok (.ifCond .eq 13, 3) := by decide +kernel
theorem dX7_canTake_38 : decode cX7_canTake 38 = .ok (.aload_n 0, 1) := by decide +kernel
theorem dX7_canTake_39 : decode cX7_canTake 39 = .ok (.getfield 20, 3) := by decide +kernel
theorem dX7_canTake_42 : decode cX7_canTake 42 = .ok (.iload 5, 2) := by decide +kernel
theorem dX7_canTake_44 : decode cX7_canTake 44 = .ok (.iaload, 1) := by decide +kernel
theorem dX7_canTake_45 : decode cX7_canTake 45 = .ok (.goto 4, 3) := by decide +kernel
theorem dX7_canTake_48 : decode cX7_canTake 48 = .ok (.iconst 0, 1) := by decide +kernel
theorem dX7_canTake_49 : decode cX7_canTake 49 = .ok (.ior, 1) := by decide +kernel
theorem dX7_canTake_50 : decode cX7_canTake 50 = .ok (.istore 4, 2) := by decide +kernel
theorem dX7_canTake_52 : decode cX7_canTake 52 = .ok (.iinc 5 1, 3) := by decide +kernel
theorem dX7_canTake_55 : decode cX7_canTake 55 = .ok (.goto (-37), 3) := by decide +kernel
theorem dX7_canTake_58 : decode cX7_canTake 58 = .ok (.iload_n 3, 1) := by decide +kernel
theorem dX7_canTake_59 : decode cX7_canTake 59 = .ok (.iload_n 1, 1) := by decide +kernel
theorem dX7_canTake_60 : decode cX7_canTake 60 = .ok (.ishr, 1) := by decide +kernel
theorem dX7_canTake_61 : decode cX7_canTake 61 = .ok (.iload_n 1, 1) := by decide +kernel
theorem dX7_canTake_62 : decode cX7_canTake 62 = .ok (.ishl, 1) := by decide +kernel
theorem dX7_canTake_63 : decode cX7_canTake 63 = .ok (.iload_n 3, 1) := by decide +kernel
theorem dX7_canTake_64 : decode cX7_canTake 64 = .ok (.if_icmp .ne 21, 3) := by decide +kernel
theorem dX7_canTake_67 : decode cX7_canTake 67 = .ok (.iload 4, 2) := by decide +kernel
theorem dX7_canTake_69 : decode cX7_canTake 69 = .ok (.iload_n 2, 1) := by decide +kernel
theorem dX7_canTake_70 : decode cX7_canTake 70 = .ok (.iconst (-1), 1) := by decide +kernel
theorem dX7_canTake_71 : decode cX7_canTake 71 = .ok (.ixor, 1) := by decide +kernel
theorem dX7_canTake_72 : decode cX7_canTake 72 = .ok (.iand, 1) := by decide +kernel
theorem dX7_canTake_73 : decode cX7_canTake 73 = .ok (.invokestatic 81, 3) := by decide +kernel
theorem dX7_canTake_76 : decode cX7_canTake 76 = .ok (.iload_n 3, 1) := by decide +kernel
theorem dX7_canTake_77 : decode cX7_canTake 77 = .ok (.invokestatic 81, 3) := by decide +kernel
theorem dX7_canTake_80 : decode cX7_canTake 80 = .ok (.if_icmp .ge 5, 3) := by decide +kernel
theorem dX7_canTake_83 : decode cX7_canTake 83 = .ok (.iconst 0, 1) := by decide +kernel
theorem dX7_canTake_84 : decode cX7_canTake 84 = .ok (.ireturn, 1) := by decide +kernel
theorem dX7_canTake_85 : decode cX7_canTake 85 = .ok (.iinc 3 1, 3) := by decide +kernel
theorem dX7_canTake_88 : decode cX7_canTake 88 = .ok (.goto (-86), 3) := by decide +kernel
theorem dX7_canTake_91 : decode cX7_canTake 91 = .ok (.iconst 1, 1) := by decide +kernel
theorem dX7_canTake_92 : decode cX7_canTake 92 = .ok (.ireturn, 1) := by decide +kernel
theorem dX7_strict_0 : decode cX7_strict 0 = .ok (.aload_n 0, 1) := by decide +kernel
theorem dX7_strict_1 : decode cX7_strict 1 = .ok (.iconst 0, 1) := by decide +kernel
theorem dX7_strict_2 : decode cX7_strict 2 = .ok (.iconst 0, 1) := by decide +kernel
theorem dX7_strict_3 : decode cX7_strict 3 = .ok (.invokevirtual 153, 3) := by decide +kernel
theorem dX7_strict_6 : decode cX7_strict 6 = .ok (.ifCond .ne 6, 3) := by decide +kernel
theorem dX7_strict_9 : decode cX7_strict 9 = .ok (.bipush (-3), 2) := by decide +kernel
theorem dX7_strict_11 : decode cX7_strict 11 = .ok (.ireturn, 1) := by decide +kernel
theorem dX7_strict_12 : decode cX7_strict 12 = .ok (.iconst 0, 1) := by decide +kernel
theorem dX7_strict_13 : decode cX7_strict 13 = .ok (.istore_n 1, 1) := by decide +kernel
theorem dX7_strict_14 : decode cX7_strict 14 = .ok (.iconst 0, 1) := by decide +kernel
theorem dX7_strict_15 : decode cX7_strict 15 = .ok (.istore_n 2, 1) := by decide +kernel
theorem dX7_strict_16 : decode cX7_strict 16 = .ok (.iload_n 2, 1) := by decide +kernel
theorem dX7_strict_17 : decode cX7_strict 17 = .ok (.aload_n 0, 1) := by decide +kernel
theorem dX7_strict_18 : decode cX7_strict 18 = .ok (.getfield 71, 3) := by decide +kernel
theorem dX7_strict_21 : decode cX7_strict 21 = .ok (.if_icmp .ge 66, 3) := by decide +kernel
theorem dX7_strict_24 : decode cX7_strict 24 = .ok (.iconst 0, 1) := by decide +kernel
theorem dX7_strict_25 : decode cX7_strict 25 = .ok (.istore_n 3, 1) := by decide +kernel
theorem dX7_strict_26 : decode cX7_strict 26 = .ok (.aload_n 0, 1) := by decide +kernel
theorem dX7_strict_27 : decode cX7_strict 27 = .ok (.getfield 20, 3) := by decide +kernel
theorem dX7_strict_30 : decode cX7_strict 30 = .ok (.iload_n 2, 1) := by decide +kernel
theorem dX7_strict_31 : decode cX7_strict 31 = .ok (.iaload, 1) := by decide +kernel
theorem dX7_strict_32 : decode cX7_strict 32 = .ok (.iload_n 3, 1) := by decide +kernel
theorem dX7_strict_33 : decode cX7_strict 33 = .ok (.invokestatic 77, 3) := by decide +kernel
theorem dX7_strict_36 : decode cX7_strict 36 = .ok (.ifCond .eq 26, 3) := by decide +kernel
theorem dX7_strict_39 : decode cX7_strict 39 = .ok (.iload_n 1, 1) := by decide +kernel
theorem dX7_strict_40 : decode cX7_strict 40 = .ok (.iload_n 3, 1) := by decide +kernel
theorem dX7_strict_41 : decode cX7_strict 41 = .ok (.invokestatic 77, 3) := by decide +kernel
theorem dX7_strict_44 : decode cX7_strict 44 = .ok (.ifCond .ne 18, 3) := by decide +kernel
theorem dX7_strict_47 : decode cX7_strict 47 = .ok (.aload_n 0, 1) := by decide +kernel
theorem dX7_strict_48 : decode cX7_strict 48 = .ok (.iload_n 2, 1) := by decide +kernel
theorem dX7_strict_49 : decode cX7_strict 49 = .ok (.iconst 1, 1) := by decide +kernel
theorem dX7_strict_50 : decode cX7_strict 50 = .ok (.iadd, 1) := by decide +kernel
theorem dX7_strict_51 : decode cX7_strict 51 = .ok (.iload_n 1, 1) := by decide +kernel
theorem dX7_strict_52 : decode cX7_strict 52 = .ok (.iconst 1, 1) := by decide +kernel
theorem dX7_strict_53 : decode cX7_strict 53 = .ok (.iload_n 3, 1) := by decide +kernel
theorem dX7_strict_54 : decode cX7_strict 54 = .ok (.ishl, 1) := by decide +kernel
theorem dX7_strict_55 : decode cX7_strict 55 = .ok (.ior, 1) := by decide +kernel
theorem dX7_strict_56 : decode cX7_strict 56 = .ok (.invokevirtual 153, 3) := by decide +kernel
theorem dX7_strict_59 : decode cX7_strict 59 = .ok (.ifCond .ne 9, 3) := by decide +kernel
theorem dX7_strict_62 : decode cX7_strict 62 = .ok (.iinc 3 1, 3) := by decide +kernel
theorem dX7_strict_65 : decode cX7_strict 65 = .ok (.goto (-39), 3) := by decide +kernel
theorem dX7_strict_68 : decode cX7_strict 68 = .ok (.iload_n 1, 1) := by decide +kernel
theorem dX7_strict_69 : decode cX7_strict 69 = .ok (.iconst 1, 1) := by decide +kernel
theorem dX7_strict_70 : decode cX7_strict 70 = .ok (.iload_n 3, 1) := by decide +kernel
theorem dX7_strict_71 : decode cX7_strict 71 = .ok (.ishl, 1) := by decide +kernel
theorem dX7_strict_72 : decode cX7_strict 72 = .ok (.ior, 1) := by decide +kernel
theorem dX7_strict_73 : decode cX7_strict 73 = .ok (.istore_n 1, 1) := by decide +kernel
theorem dX7_strict_74 : decode cX7_strict 74 = .ok (.aload_n 0, 1) := by decide +kernel
theorem dX7_strict_75 : decode cX7_strict 75 = .ok (.getfield 51, 3) := by decide +kernel
theorem dX7_strict_78 : decode cX7_strict 78 = .ok (.iload_n 2, 1) := by decide +kernel
theorem dX7_strict_79 : decode cX7_strict 79 = .ok (.iload_n 3, 1) := by decide +kernel
theorem dX7_strict_80 : decode cX7_strict 80 = .ok (.iastore, 1) := by decide +kernel
theorem dX7_strict_81 : decode cX7_strict 81 = .ok (.iinc 2 1, 3) := by decide +kernel
theorem dX7_strict_84 : decode cX7_strict 84 = .ok (.goto (-68), 3) := by decide +kernel
theorem dX7_strict_87 : decode cX7_strict 87 = .ok (.iconst 0, 1) := by decide +kernel
theorem dX7_strict_88 : decode cX7_strict 88 = .ok (.istore_n 2, 1) := by decide +kernel
theorem dX7_strict_89 : decode cX7_strict 89 = .ok (.iload_n 2, 1) := by decide +kernel
theorem dX7_strict_90 : decode cX7_strict 90 = .ok (.bipush 8, 2) := by decide +kernel
theorem dX7_strict_92 : decode cX7_strict 92 = .ok (.if_icmp .ge 16, 3) := by decide +kernel
theorem dX7_strict_95 : decode cX7_strict 95 = .ok (.aload_n 0, 1) := by decide +kernel
theorem dX7_strict_96 : decode cX7_strict 96 = .ok (.getfield 13, 3) := by decide +kernel
theorem dX7_strict_99 : decode cX7_strict 99 = .ok (.iload_n 2, 1) := by decide +kernel
theorem dX7_strict_100 : decode cX7_strict 100 = .ok (.iconst 0, 1) := by decide +kernel
theorem dX7_strict_101 : decode cX7_strict 101 = .ok (.iastore, 1) := by decide +kernel
theorem dX7_strict_102 : decode cX7_strict 102 = .ok (.iinc 2 1, 3) := by decide +kernel
theorem dX7_strict_105 : decode cX7_strict 105 = .ok (.goto (-16), 3) := by decide +kernel
theorem dX7_strict_108 : decode cX7_strict 108 = .ok (.iconst 0, 1) := by decide +kernel
theorem dX7_strict_109 : decode cX7_strict 109 = .ok (.istore_n 2, 1) := by decide +kernel
theorem dX7_strict_110 : decode cX7_strict 110 = .ok (.iconst 0, 1) := by decide +kernel
theorem dX7_strict_111 : decode cX7_strict 111 = .ok (.istore_n 3, 1) := by decide +kernel
theorem dX7_strict_112 : decode cX7_strict 112 = .ok (.iload_n 3, 1) := by decide +kernel
theorem dX7_strict_113 : decode cX7_strict 113 = .ok (.aload_n 0, 1) := by decide +kernel
theorem dX7_strict_114 : decode cX7_strict 114 = .ok (.getfield 71, 3) := by decide +kernel
theorem dX7_strict_117 : decode cX7_strict 117 = .ok (.if_icmp .ge 54, 3) := by decide +kernel
theorem dX7_strict_120 : decode cX7_strict 120 = .ok (.aload_n 0, 1) := by decide +kernel
theorem dX7_strict_121 : decode cX7_strict 121 = .ok (.getfield 13, 3) := by decide +kernel
theorem dX7_strict_124 : decode cX7_strict 124 = .ok (.aload_n 0, 1) := by decide +kernel
theorem dX7_strict_125 : decode cX7_strict 125 = .ok (.getfield 51, 3) := by decide +kernel
theorem dX7_strict_128 : decode cX7_strict 128 = .ok (.iload_n 3, 1) := by decide +kernel
theorem dX7_strict_129 : decode cX7_strict 129 = .ok (.iaload, 1) := by decide +kernel
theorem dX7_strict_130 : decode cX7_strict 130 = .ok (.aload_n 0, 1) := by decide +kernel
theorem dX7_strict_131 : decode cX7_strict 131 = .ok (.getfield 20, 3) := by decide +kernel
theorem dX7_strict_134 : decode cX7_strict 134 = .ok (.iload_n 3, 1) := by decide +kernel
theorem dX7_strict_135 : decode cX7_strict 135 = .ok (.iaload, 1) := by decide +kernel
theorem dX7_strict_136 : decode cX7_strict 136 = .ok (.iconst 1, 1) := by decide +kernel
theorem dX7_strict_137 : decode cX7_strict 137 = .ok (.aload_n 0, 1) := by decide +kernel
theorem dX7_strict_138 : decode cX7_strict 138 = .ok (.getfield 51, 3) := by decide +kernel
theorem dX7_strict_141 : decode cX7_strict 141 = .ok (.iload_n 3, 1) := by decide +kernel
theorem dX7_strict_142 : decode cX7_strict 142 = .ok (.iaload, 1) := by decide +kernel
theorem dX7_strict_143 : decode cX7_strict 143 = .ok (.ishl, 1) := by decide +kernel
theorem dX7_strict_144 : decode cX7_strict 144 = .ok (.iconst (-1), 1) := by decide +kernel
theorem dX7_strict_145 : decode cX7_strict 145 = .ok (.ixor, 1) := by decide +kernel
theorem dX7_strict_146 : decode cX7_strict 146 = .ok (.iand, 1) := by decide +kernel
theorem dX7_strict_147 : decode cX7_strict 147 = .ok (.iastore, 1) := by decide +kernel
theorem dX7_strict_148 : decode cX7_strict 148 = .ok (.iload_n 2, 1) := by decide +kernel
theorem dX7_strict_149 : decode cX7_strict 149 = .ok (.aload_n 0, 1) := by decide +kernel
theorem dX7_strict_150 : decode cX7_strict 150 = .ok (.getfield 13, 3) := by decide +kernel
theorem dX7_strict_153 : decode cX7_strict 153 = .ok (.aload_n 0, 1) := by decide +kernel
theorem dX7_strict_154 : decode cX7_strict 154 = .ok (.getfield 51, 3) := by decide +kernel
theorem dX7_strict_157 : decode cX7_strict 157 = .ok (.iload_n 3, 1) := by decide +kernel
theorem dX7_strict_158 : decode cX7_strict 158 = .ok (.iaload, 1) := by decide +kernel
theorem dX7_strict_159 : decode cX7_strict 159 = .ok (.iaload, 1) := by decide +kernel
theorem dX7_strict_160 : decode cX7_strict 160 = .ok (.invokestatic 81, 3) := by decide +kernel
theorem dX7_strict_163 : decode cX7_strict 163 = .ok (.iadd, 1) := by decide +kernel
theorem dX7_strict_164 : decode cX7_strict 164 = .ok (.istore_n 2, 1) := by decide +kernel
theorem dX7_strict_165 : decode cX7_strict 165 = .ok (.iinc 3 1, 3) := by decide +kernel
theorem dX7_strict_168 : decode cX7_strict 168 = .ok (.goto (-56), 3) := by decide +kernel
theorem dX7_strict_171 : decode cX7_strict 171 = .ok (.aload_n 0, 1) := by decide +kernel
theorem dX7_strict_172 : decode cX7_strict 172 = .ok (.aload_n 0, 1) := by decide +kernel
theorem dX7_strict_173 : decode cX7_strict 173 = .ok (.invokevirtual 67, 3) := by decide +kernel
theorem dX7_strict_176 : decode cX7_strict 176 = .ok (.iload_n 1, 1) := by decide +kernel
theorem dX7_strict_177 : decode cX7_strict 177 = .ok (.iconst (-1), 1) := by decide +kernel
theorem dX7_strict_178 : decode cX7_strict 178 = .ok (.ixor, 1) := by decide +kernel
theorem dX7_strict_179 : decode cX7_strict 179 = .ok (.iand, 1) := by decide +kernel
theorem dX7_strict_180 : decode cX7_strict 180 = .ok (.putfield 74, 3) := by decide +kernel
theorem dX7_strict_183 : decode cX7_strict 183 = .ok (.iload_n 2, 1) := by decide +kernel
theorem dX7_strict_184 : decode cX7_strict 184 = .ok (.ireturn, 1) := by decide +kernel
theorem dX7_keepsBases_0 : decode cX7_keepsBases 0 = .ok (.aload_n 0, 1) := by decide +kernel
theorem dX7_keepsBases_1 : decode cX7_keepsBases 1 = .ok (.iconst 1, 1) := by decide +kernel
theorem dX7_keepsBases_2 : decode cX7_keepsBases 2 = .ok (.invokevirtual 134, 3) := by decide +kernel
theorem dX7_keepsBases_5 : decode cX7_keepsBases 5 = .ok (.iconst 0, 1) := by decide +kernel
theorem dX7_keepsBases_6 : decode cX7_keepsBases 6 = .ok (.istore_n 1, 1) := by decide +kernel
theorem dX7_keepsBases_7 : decode cX7_keepsBases 7 = .ok (.iload_n 1, 1) := by decide +kernel
theorem dX7_keepsBases_8 : decode cX7_keepsBases 8 = .ok (.aload_n 0, 1) := by decide +kernel
theorem dX7_keepsBases_9 : decode cX7_keepsBases 9 = .ok (.invokevirtual 67, 3) := by decide +kernel
theorem dX7_keepsBases_12 : decode cX7_keepsBases 12 = .ok (.if_icmp .gt 21, 3) := by decide +kernel
theorem dX7_keepsBases_15 : decode cX7_keepsBases 15 = .ok (.aload_n 0, 1) := by decide +kernel
theorem dX7_keepsBases_16 : decode cX7_keepsBases 16 = .ok (.getfield 54, 3) := by decide +kernel
theorem dX7_keepsBases_19 : decode cX7_keepsBases 19 = .ok (.iload_n 1, 1) := by decide +kernel
theorem dX7_keepsBases_20 : decode cX7_keepsBases 20 = .ok (.aload_n 0, 1) := by decide +kernel
theorem dX7_keepsBases_21 : decode cX7_keepsBases 21 = .ok (.getfield 42, 3) := by decide +kernel
theorem dX7_keepsBases_24 : decode cX7_keepsBases 24 = .ok (.iload_n 1, 1) := by decide +kernel
theorem dX7_keepsBases_25 : decode cX7_keepsBases 25 = .ok (.baload, 1) := by decide +kernel
theorem dX7_keepsBases_26 : decode cX7_keepsBases 26 = .ok (.bastore, 1) := by decide +kernel
theorem dX7_keepsBases_27 : decode cX7_keepsBases 27 = .ok (.iinc 1 1, 3) := by decide +kernel
theorem dX7_keepsBases_30 : decode cX7_keepsBases 30 = .ok (.goto (-23), 3) := by decide +kernel
theorem dX7_keepsBases_33 : decode cX7_keepsBases 33 = .ok (.return_, 1) := by decide +kernel
theorem dX7_areBases_0 : decode cX7_areBases 0 = .ok (.aload_n 0, 1) := by decide +kernel
theorem dX7_areBases_1 : decode cX7_areBases 1 = .ok (.iconst 1, 1) := by decide +kernel
theorem dX7_areBases_2 : decode cX7_areBases 2 = .ok (.invokevirtual 134, 3) := by decide +kernel
theorem dX7_areBases_5 : decode cX7_areBases 5 = .ok (.iconst 0, 1) := by decide +kernel
theorem dX7_areBases_6 : decode cX7_areBases 6 = .ok (.istore_n 1, 1) := by decide +kernel
theorem dX7_areBases_7 : decode cX7_areBases 7 = .ok (.iload_n 1, 1) := by decide +kernel
theorem dX7_areBases_8 : decode cX7_areBases 8 = .ok (.aload_n 0, 1) := by decide +kernel
theorem dX7_areBases_9 : decode cX7_areBases 9 = .ok (.invokevirtual 67, 3) := by decide +kernel
theorem dX7_areBases_12 : decode cX7_areBases 12 = .ok (.if_icmp .gt 26, 3) := by decide +kernel
theorem dX7_areBases_15 : decode cX7_areBases 15 = .ok (.aload_n 0, 1) := by decide +kernel
theorem dX7_areBases_16 : decode cX7_areBases 16 = .ok (.getfield 42, 3) := by decide +kernel
theorem dX7_areBases_19 : decode cX7_areBases 19 = .ok (.iload_n 1, 1) := by decide +kernel
theorem dX7_areBases_20 : decode cX7_areBases 20 = .ok (.baload, 1) := by decide +kernel
theorem dX7_areBases_21 : decode cX7_areBases 21 = .ok (.aload_n 0, 1) := by decide +kernel
theorem dX7_areBases_22 : decode cX7_areBases 22 = .ok (.getfield 54, 3) := by decide +kernel
theorem dX7_areBases_25 : decode cX7_areBases 25 = .ok (.iload_n 1, 1) := by decide +kernel
theorem dX7_areBases_26 : decode cX7_areBases 26 = .ok (.baload, 1) := by decide +kernel
theorem dX7_areBases_27 : decode cX7_areBases 27 = .ok (.if_icmp .eq 5, 3) := by decide +kernel
theorem dX7_areBases_30 : decode cX7_areBases 30 = .ok (.iconst 0, 1) := by decide +kernel
theorem dX7_areBases_31 : decode cX7_areBases 31 = .ok (.ireturn, 1) := by decide +kernel
theorem dX7_areBases_32 : decode cX7_areBases 32 = .ok (.iinc 1 1, 3) := by decide +kernel
theorem dX7_areBases_35 : decode cX7_areBases 35 = .ok (.goto (-28), 3) := by decide +kernel
theorem dX7_areBases_38 : decode cX7_areBases 38 = .ok (.iconst 1, 1) := by decide +kernel
theorem dX7_areBases_39 : decode cX7_areBases 39 = .ok (.ireturn, 1) := by decide +kernel
theorem dX7_changing_0 : decode cX7_changing 0 = .ok (.aload_n 0, 1) := by decide +kernel
theorem dX7_changing_1 : decode cX7_changing 1 = .ok (.invokevirtual 156, 3) := by decide +kernel
theorem dX7_changing_4 : decode cX7_changing 4 = .ok (.aload_n 0, 1) := by decide +kernel
theorem dX7_changing_5 : decode cX7_changing 5 = .ok (.getfield 20, 3) := by decide +kernel
theorem dX7_changing_8 : decode cX7_changing 8 = .ok (.iload_n 1, 1) := by decide +kernel
theorem dX7_changing_9 : decode cX7_changing 9 = .ok (.iaload, 1) := by decide +kernel
theorem dX7_changing_10 : decode cX7_changing 10 = .ok (.istore_n 3, 1) := by decide +kernel
theorem dX7_changing_11 : decode cX7_changing 11 = .ok (.iconst 0, 1) := by decide +kernel
theorem dX7_changing_12 : decode cX7_changing 12 = .ok (.istore 4, 2) := by decide +kernel
theorem dX7_changing_14 : decode cX7_changing 14 = .ok (.iconst 0, 1) := by decide +kernel
theorem dX7_changing_15 : decode cX7_changing 15 = .ok (.istore 5, 2) := by decide +kernel
theorem dX7_changing_17 : decode cX7_changing 17 = .ok (.iload 5, 2) := by decide +kernel
theorem dX7_changing_19 : decode cX7_changing 19 = .ok (.aload_n 0, 1) := by decide +kernel
theorem dX7_changing_20 : decode cX7_changing 20 = .ok (.getfield 7, 3) := by decide +kernel
theorem dX7_changing_23 : decode cX7_changing 23 = .ok (.if_icmp .ge 50, 3) := by decide +kernel
theorem dX7_changing_26 : decode cX7_changing 26 = .ok (.aload_n 0, 1) := by decide +kernel
theorem dX7_changing_27 : decode cX7_changing 27 = .ok (.getfield 20, 3) := by decide +kernel
theorem dX7_changing_30 : decode cX7_changing 30 = .ok (.iload_n 1, 1) := by decide +kernel
theorem dX7_changing_31 : decode cX7_changing 31 = .ok (.iload_n 3, 1) := by decide +kernel
theorem dX7_changing_32 : decode cX7_changing 32 = .ok (.iconst 1, 1) := by decide +kernel
theorem dX7_changing_33 : decode cX7_changing 33 = .ok (.iload 5, 2) := by decide +kernel
theorem dX7_changing_35 : decode cX7_changing 35 = .ok (.ishl, 1) := by decide +kernel
theorem dX7_changing_36 : decode cX7_changing 36 = .ok (.ixor, 1) := by decide +kernel
theorem dX7_changing_37 : decode cX7_changing 37 = .ok (.iastore, 1) := by decide +kernel
theorem dX7_changing_38 : decode cX7_changing 38 = .ok (.iload 4, 2) := by decide +kernel
theorem dX7_changing_40 : decode cX7_changing 40 = .ok (.iload_n 2, 1) := by decide +kernel
theorem dX7_changing_41 : decode cX7_changing 41 = .ok (.iload 5, 2) := by decide +kernel
theorem dX7_changing_43 : decode cX7_changing 43 = .ok (.invokestatic 77, 3) := by decide +kernel
theorem dX7_changing_46 : decode cX7_changing 46 = .ok (.ifCond .eq 17, 3) := by decide +kernel
theorem dX7_changing_49 : decode cX7_changing 49 = .ok (.aload_n 0, 1) := by decide +kernel
theorem dX7_changing_50 : decode cX7_changing 50 = .ok (.invokevirtual 159, 3) := by decide +kernel
theorem dX7_changing_53 : decode cX7_changing 53 = .ok (.ifCond .eq 10, 3) := by decide +kernel
theorem dX7_changing_56 : decode cX7_changing 56 = .ok (.iconst 1, 1) := by decide +kernel
theorem dX7_changing_57 : decode cX7_changing 57 = .ok (.iload 5, 2) := by decide +kernel
theorem dX7_changing_59 : decode cX7_changing 59 = .ok (.ishl, 1) := by decide +kernel
theorem dX7_changing_60 : decode cX7_changing 60 = .ok (.goto 4, 3) := by decide +kernel
theorem dX7_changing_63 : decode cX7_changing 63 = .ok (.iconst 0, 1) := by decide +kernel
theorem dX7_changing_64 : decode cX7_changing 64 = .ok (.ior, 1) := by decide +kernel
theorem dX7_changing_65 : decode cX7_changing 65 = .ok (.istore 4, 2) := by decide +kernel
theorem dX7_changing_67 : decode cX7_changing 67 = .ok (.iinc 5 1, 3) := by decide +kernel
theorem dX7_changing_70 : decode cX7_changing 70 = .ok (.goto (-53), 3) := by decide +kernel
theorem dX7_changing_73 : decode cX7_changing 73 = .ok (.aload_n 0, 1) := by decide +kernel
theorem dX7_changing_74 : decode cX7_changing 74 = .ok (.getfield 20, 3) := by decide +kernel
theorem dX7_changing_77 : decode cX7_changing 77 = .ok (.iload_n 1, 1) := by decide +kernel
theorem dX7_changing_78 : decode cX7_changing 78 = .ok (.iload_n 3, 1) := by decide +kernel
theorem dX7_changing_79 : decode cX7_changing 79 = .ok (.iastore, 1) := by decide +kernel
theorem dX7_changing_80 : decode cX7_changing 80 = .ok (.iload 4, 2) := by decide +kernel
theorem dX7_changing_82 : decode cX7_changing 82 = .ok (.ireturn, 1) := by decide +kernel
theorem dX7_spare_0 : decode cX7_spare 0 = .ok (.aload_n 0, 1) := by decide +kernel
theorem dX7_spare_1 : decode cX7_spare 1 = .ok (.iload_n 1, 1) := by decide +kernel
theorem dX7_spare_2 : decode cX7_spare 2 = .ok (.invokevirtual 125, 3) := by decide +kernel
theorem dX7_spare_5 : decode cX7_spare 5 = .ok (.ifCond .eq 17, 3) := by decide +kernel
theorem dX7_spare_8 : decode cX7_spare 8 = .ok (.aload_n 0, 1) := by decide +kernel
theorem dX7_spare_9 : decode cX7_spare 9 = .ok (.iload_n 1, 1) := by decide +kernel
theorem dX7_spare_10 : decode cX7_spare 10 = .ok (.aload_n 0, 1) := by decide +kernel
theorem dX7_spare_11 : decode cX7_spare 11 = .ok (.getfield 20, 3) := by decide +kernel
theorem dX7_spare_14 : decode cX7_spare 14 = .ok (.iload_n 1, 1) := by decide +kernel
theorem dX7_spare_15 : decode cX7_spare 15 = .ok (.iaload, 1) := by decide +kernel
theorem dX7_spare_16 : decode cX7_spare 16 = .ok (.invokevirtual 163, 3) := by decide +kernel
theorem dX7_spare_19 : decode cX7_spare 19 = .ok (.goto 4, 3) := by decide +kernel
theorem dX7_spare_22 : decode cX7_spare 22 = .ok (.iconst (-1), 1) := by decide +kernel
theorem dX7_spare_23 : decode cX7_spare 23 = .ok (.ireturn, 1) := by decide +kernel
theorem dX7_room_0 : decode cX7_room 0 = .ok (.aload_n 0, 1) := by decide +kernel
theorem dX7_room_1 : decode cX7_room 1 = .ok (.iload_n 1, 1) := by decide +kernel
theorem dX7_room_2 : decode cX7_room 2 = .ok (.invokevirtual 125, 3) := by decide +kernel
theorem dX7_room_5 : decode cX7_room 5 = .ok (.ifCond .eq 24, 3) := by decide +kernel
theorem dX7_room_8 : decode cX7_room 8 = .ok (.aload_n 0, 1) := by decide +kernel
theorem dX7_room_9 : decode cX7_room 9 = .ok (.iload_n 1, 1) := by decide +kernel
theorem dX7_room_10 : decode cX7_room 10 = .ok (.aload_n 0, 1) := by decide +kernel
theorem dX7_room_11 : decode cX7_room 11 = .ok (.invokevirtual 67, 3) := by decide +kernel
theorem dX7_room_14 : decode cX7_room 14 = .ok (.aload_n 0, 1) := by decide +kernel
theorem dX7_room_15 : decode cX7_room 15 = .ok (.getfield 20, 3) := by decide +kernel
theorem dX7_room_18 : decode cX7_room 18 = .ok (.iload_n 1, 1) := by decide +kernel
theorem dX7_room_19 : decode cX7_room 19 = .ok (.iaload, 1) := by decide +kernel
theorem dX7_room_20 : decode cX7_room 20 = .ok (.iconst (-1), 1) := by decide +kernel
theorem dX7_room_21 : decode cX7_room 21 = .ok (.ixor, 1) := by decide +kernel
theorem dX7_room_22 : decode cX7_room 22 = .ok (.iand, 1) := by decide +kernel
theorem dX7_room_23 : decode cX7_room 23 = .ok (.invokevirtual 163, 3) := by decide +kernel
theorem dX7_room_26 : decode cX7_room 26 = .ok (.goto 4, 3) := by decide +kernel
theorem dX7_room_29 : decode cX7_room 29 = .ok (.iconst (-1), 1) := by decide +kernel
theorem dX7_room_30 : decode cX7_room 30 = .ok (.ireturn, 1) := by decide +kernel
theorem dX7_idle_0 : decode cX7_idle 0 = .ok (.aload_n 0, 1) := by decide +kernel
theorem dX7_idle_1 : decode cX7_idle 1 = .ok (.invokevirtual 156, 3) := by decide +kernel
theorem dX7_idle_4 : decode cX7_idle 4 = .ok (.iconst 0, 1) := by decide +kernel
theorem dX7_idle_5 : decode cX7_idle 5 = .ok (.istore_n 1, 1) := by decide +kernel
theorem dX7_idle_6 : decode cX7_idle 6 = .ok (.iconst 0, 1) := by decide +kernel
theorem dX7_idle_7 : decode cX7_idle 7 = .ok (.istore_n 2, 1) := by decide +kernel
theorem dX7_idle_8 : decode cX7_idle 8 = .ok (.iload_n 2, 1) := by decide +kernel
theorem dX7_idle_9 : decode cX7_idle 9 = .ok (.aload_n 0, 1) := by decide +kernel
theorem dX7_idle_10 : decode cX7_idle 10 = .ok (.getfield 71, 3) := by decide +kernel
theorem dX7_idle_13 : decode cX7_idle 13 = .ok (.if_icmp .ge 47, 3) := by decide +kernel
theorem dX7_idle_16 : decode cX7_idle 16 = .ok (.aload_n 0, 1) := by decide +kernel
theorem dX7_idle_17 : decode cX7_idle 17 = .ok (.getfield 20, 3) := by decide +kernel
theorem dX7_idle_20 : decode cX7_idle 20 = .ok (.iload_n 2, 1) := by decide +kernel
theorem dX7_idle_21 : decode cX7_idle 21 = .ok (.iaload, 1) := by decide +kernel
theorem dX7_idle_22 : decode cX7_idle 22 = .ok (.istore_n 3, 1) := by decide +kernel
theorem dX7_idle_23 : decode cX7_idle 23 = .ok (.aload_n 0, 1) := by decide +kernel
theorem dX7_idle_24 : decode cX7_idle 24 = .ok (.getfield 20, 3) := by decide +kernel
theorem dX7_idle_27 : decode cX7_idle 27 = .ok (.iload_n 2, 1) := by decide +kernel
theorem dX7_idle_28 : decode cX7_idle 28 = .ok (.iconst 0, 1) := by decide +kernel
theorem dX7_idle_29 : decode cX7_idle 29 = .ok (.iastore, 1) := by decide +kernel
theorem dX7_idle_30 : decode cX7_idle 30 = .ok (.iload_n 1, 1) := by decide +kernel
theorem dX7_idle_31 : decode cX7_idle 31 = .ok (.aload_n 0, 1) := by decide +kernel
theorem dX7_idle_32 : decode cX7_idle 32 = .ok (.invokevirtual 159, 3) := by decide +kernel
theorem dX7_idle_35 : decode cX7_idle 35 = .ok (.ifCond .eq 9, 3) := by decide +kernel
theorem dX7_idle_38 : decode cX7_idle 38 = .ok (.iconst 1, 1) := by decide +kernel
theorem dX7_idle_39 : decode cX7_idle 39 = .ok (.iload_n 2, 1) := by decide +kernel
theorem dX7_idle_40 : decode cX7_idle 40 = .ok (.ishl, 1) := by decide +kernel
theorem dX7_idle_41 : decode cX7_idle 41 = .ok (.goto 4, 3) := by decide +kernel
theorem dX7_idle_44 : decode cX7_idle 44 = .ok (.iconst 0, 1) := by decide +kernel
theorem dX7_idle_45 : decode cX7_idle 45 = .ok (.ior, 1) := by decide +kernel
theorem dX7_idle_46 : decode cX7_idle 46 = .ok (.istore_n 1, 1) := by decide +kernel
theorem dX7_idle_47 : decode cX7_idle 47 = .ok (.aload_n 0, 1) := by decide +kernel
theorem dX7_idle_48 : decode cX7_idle 48 = .ok (.getfield 20, 3) := by decide +kernel
theorem dX7_idle_51 : decode cX7_idle 51 = .ok (.iload_n 2, 1) := by decide +kernel
theorem dX7_idle_52 : decode cX7_idle 52 = .ok (.iload_n 3, 1) := by decide +kernel
theorem dX7_idle_53 : decode cX7_idle 53 = .ok (.iastore, 1) := by decide +kernel
theorem dX7_idle_54 : decode cX7_idle 54 = .ok (.iinc 2 1, 3) := by decide +kernel
theorem dX7_idle_57 : decode cX7_idle 57 = .ok (.goto (-49), 3) := by decide +kernel
theorem dX7_idle_60 : decode cX7_idle 60 = .ok (.iload_n 1, 1) := by decide +kernel
theorem dX7_idle_61 : decode cX7_idle 61 = .ok (.ireturn, 1) := by decide +kernel
theorem dX7_small_0 : decode cX7_small 0 = .ok (.aload_n 0, 1) := by decide +kernel
theorem dX7_small_1 : decode cX7_small 1 = .ok (.invokevirtual 156, 3) := by decide +kernel
theorem dX7_small_4 : decode cX7_small 4 = .ok (.iconst 0, 1) := by decide +kernel
theorem dX7_small_5 : decode cX7_small 5 = .ok (.istore_n 1, 1) := by decide +kernel
theorem dX7_small_6 : decode cX7_small 6 = .ok (.iconst 0, 1) := by decide +kernel
theorem dX7_small_7 : decode cX7_small 7 = .ok (.istore_n 2, 1) := by decide +kernel
theorem dX7_small_8 : decode cX7_small 8 = .ok (.iload_n 2, 1) := by decide +kernel
theorem dX7_small_9 : decode cX7_small 9 = .ok (.aload_n 0, 1) := by decide +kernel
theorem dX7_small_10 : decode cX7_small 10 = .ok (.getfield 71, 3) := by decide +kernel
theorem dX7_small_13 : decode cX7_small 13 = .ok (.if_icmp .ge 80, 3) := by decide +kernel
theorem dX7_small_16 : decode cX7_small 16 = .ok (.iconst 0, 1) := by decide +kernel
theorem dX7_small_17 : decode cX7_small 17 = .ok (.istore_n 3, 1) := by decide +kernel
theorem dX7_small_18 : decode cX7_small 18 = .ok (.iload_n 3, 1) := by decide +kernel
theorem dX7_small_19 : decode cX7_small 19 = .ok (.aload_n 0, 1) := by decide +kernel
theorem dX7_small_20 : decode cX7_small 20 = .ok (.getfield 7, 3) := by decide +kernel
theorem dX7_small_23 : decode cX7_small 23 = .ok (.if_icmp .ge 64, 3) := by decide +kernel
theorem dX7_small_26 : decode cX7_small 26 = .ok (.aload_n 0, 1) := by decide +kernel
theorem dX7_small_27 : decode cX7_small 27 = .ok (.getfield 20, 3) := by decide +kernel
theorem dX7_small_30 : decode cX7_small 30 = .ok (.iload_n 2, 1) := by decide +kernel
theorem dX7_small_31 : decode cX7_small 31 = .ok (.iaload, 1) := by decide +kernel
theorem dX7_small_32 : decode cX7_small 32 = .ok (.iload_n 3, 1) := by decide +kernel
theorem dX7_small_33 : decode cX7_small 33 = .ok (.invokestatic 77, 3) := by decide +kernel
theorem dX7_small_36 : decode cX7_small 36 = .ok (.ifCond .ne 6, 3) := by decide +kernel
theorem dX7_small_39 : decode cX7_small 39 = .ok (.goto 42, 3) := by decide +kernel
theorem dX7_small_42 : decode cX7_small 42 = .ok (.aload_n 0, 1) := by decide +kernel
theorem dX7_small_43 : decode cX7_small 43 = .ok (.getfield 20, 3) := by decide +kernel
theorem dX7_small_46 : decode cX7_small 46 = .ok (.iload_n 2, 1) := by decide +kernel
theorem dX7_small_47 : decode cX7_small 47 = .ok (.dup2, 1) := by decide +kernel
theorem dX7_small_48 : decode cX7_small 48 = .ok (.iaload, 1) := by decide +kernel
theorem dX7_small_49 : decode cX7_small 49 = .ok (.iconst 1, 1) := by decide +kernel
theorem dX7_small_50 : decode cX7_small 50 = .ok (.iload_n 3, 1) := by decide +kernel
theorem dX7_small_51 : decode cX7_small 51 = .ok (.ishl, 1) := by decide +kernel
theorem dX7_small_52 : decode cX7_small 52 = .ok (.iconst (-1), 1) := by decide +kernel
theorem dX7_small_53 : decode cX7_small 53 = .ok (.ixor, 1) := by decide +kernel
theorem dX7_small_54 : decode cX7_small 54 = .ok (.iand, 1) := by decide +kernel
theorem dX7_small_55 : decode cX7_small 55 = .ok (.iastore, 1) := by decide +kernel
theorem dX7_small_56 : decode cX7_small 56 = .ok (.aload_n 0, 1) := by decide +kernel
theorem dX7_small_57 : decode cX7_small 57 = .ok (.invokevirtual 159, 3) := by decide +kernel
theorem dX7_small_60 : decode cX7_small 60 = .ok (.ifCond .eq 9, 3) := by decide +kernel
theorem dX7_small_63 : decode cX7_small 63 = .ok (.iinc 1 1, 3) := by decide +kernel
theorem dX7_small_66 : decode cX7_small 66 = .ok (.goto 15, 3) := by decide +kernel
theorem dX7_small_69 : decode cX7_small 69 = .ok (.aload_n 0, 1) := by decide +kernel
theorem dX7_small_70 : decode cX7_small 70 = .ok (.getfield 20, 3) := by decide +kernel
theorem dX7_small_73 : decode cX7_small 73 = .ok (.iload_n 2, 1) := by decide +kernel
theorem dX7_small_74 : decode cX7_small 74 = .ok (.dup2, 1) := by decide +kernel
theorem dX7_small_75 : decode cX7_small 75 = .ok (.iaload, 1) := by decide +kernel
theorem dX7_small_76 : decode cX7_small 76 = .ok (.iconst 1, 1) := by decide +kernel
theorem dX7_small_77 : decode cX7_small 77 = .ok (.iload_n 3, 1) := by decide +kernel
theorem dX7_small_78 : decode cX7_small 78 = .ok (.ishl, 1) := by decide +kernel
theorem dX7_small_79 : decode cX7_small 79 = .ok (.ior, 1) := by decide +kernel
theorem dX7_small_80 : decode cX7_small 80 = .ok (.iastore, 1) := by decide +kernel
theorem dX7_small_81 : decode cX7_small 81 = .ok (.iinc 3 1, 3) := by decide +kernel
theorem dX7_small_84 : decode cX7_small 84 = .ok (.goto (-66), 3) := by decide +kernel
theorem dX7_small_87 : decode cX7_small 87 = .ok (.iinc 2 1, 3) := by decide +kernel
theorem dX7_small_90 : decode cX7_small 90 = .ok (.goto (-82), 3) := by decide +kernel
theorem dX7_small_93 : decode cX7_small 93 = .ok (.iconst 0, 1) := by decide +kernel
theorem dX7_small_94 : decode cX7_small 94 = .ok (.istore_n 2, 1) := by decide +kernel
theorem dX7_small_95 : decode cX7_small 95 = .ok (.iload_n 2, 1) := by decide +kernel
theorem dX7_small_96 : decode cX7_small 96 = .ok (.aload_n 0, 1) := by decide +kernel
theorem dX7_small_97 : decode cX7_small 97 = .ok (.getfield 71, 3) := by decide +kernel
theorem dX7_small_100 : decode cX7_small 100 = .ok (.if_icmp .ge 26, 3) := by decide +kernel
theorem dX7_small_103 : decode cX7_small 103 = .ok (.aload_n 0, 1) := by decide +kernel
theorem dX7_small_104 : decode cX7_small 104 = .ok (.getfield 20, 3) := by decide +kernel
theorem dX7_small_107 : decode cX7_small 107 = .ok (.iload_n 2, 1) := by decide +kernel
theorem dX7_small_108 : decode cX7_small 108 = .ok (.iaload, 1) := by decide +kernel
theorem dX7_small_109 : decode cX7_small 109 = .ok (.ifCond .ne 11, 3) := by decide +kernel
theorem dX7_small_112 : decode cX7_small 112 = .ok (.aload_n 0, 1) := by decide +kernel
theorem dX7_small_113 : decode cX7_small 113 = .ok (.iload_n 2, 1) := by decide +kernel
theorem dX7_small_114 : decode cX7_small 114 = .ok (.invokevirtual 128, 3) := by decide +kernel
theorem dX7_small_117 : decode cX7_small 117 = .ok (.goto (-22), 3) := by decide +kernel
theorem dX7_small_120 : decode cX7_small 120 = .ok (.iinc 2 1, 3) := by decide +kernel
theorem dX7_small_123 : decode cX7_small 123 = .ok (.goto (-28), 3) := by decide +kernel
theorem dX7_small_126 : decode cX7_small 126 = .ok (.iload_n 1, 1) := by decide +kernel
theorem dX7_small_127 : decode cX7_small 127 = .ok (.ireturn, 1) := by decide +kernel
theorem dX7_isRow_0 : decode cX7_isRow 0 = .ok (.iload_n 0, 1) := by decide +kernel
theorem dX7_isRow_1 : decode cX7_isRow 1 = .ok (.iconst 0, 1) := by decide +kernel
theorem dX7_isRow_2 : decode cX7_isRow 2 = .ok (.iconst 2, 1) := by decide +kernel
theorem dX7_isRow_3 : decode cX7_isRow 3 = .ok (.invokestatic 63, 3) := by decide +kernel
theorem dX7_isRow_6 : decode cX7_isRow 6 = .ok (.ireturn, 1) := by decide +kernel
theorem dX7_row_0 : decode cX7_row 0 = .ok (.iload_n 1, 1) := by decide +kernel
theorem dX7_row_1 : decode cX7_row 1 = .ok (.invokestatic 166, 3) := by decide +kernel
theorem dX7_row_4 : decode cX7_row 4 = .ok (.ifCond .ne 5, 3) := by decide +kernel
theorem dX7_row_7 : decode cX7_row 7 = .ok (.iconst (-1), 1) := by decide +kernel
theorem dX7_row_8 : decode cX7_row 8 = .ok (.ireturn, 1) := by decide +kernel
theorem dX7_row_9 : decode cX7_row 9 = .ok (.iload_n 2, 1) := by decide +kernel
theorem dX7_row_10 : decode cX7_row 10 = .ok (.bipush 40, 2) := by decide +kernel
theorem dX7_row_12 : decode cX7_row 12 = .ok (.if_icmp .le 6, 3) := by decide +kernel
theorem dX7_row_15 : decode cX7_row 15 = .ok (.bipush (-2), 2) := by decide +kernel
theorem dX7_row_17 : decode cX7_row 17 = .ok (.ireturn, 1) := by decide +kernel
theorem dX7_row_18 : decode cX7_row 18 = .ok (.iload_n 2, 1) := by decide +kernel
theorem dX7_row_19 : decode cX7_row 19 = .ok (.ifCond .ge 6, 3) := by decide +kernel
theorem dX7_row_22 : decode cX7_row 22 = .ok (.bipush (-14), 2) := by decide +kernel
theorem dX7_row_24 : decode cX7_row 24 = .ok (.ireturn, 1) := by decide +kernel
theorem dX7_row_25 : decode cX7_row 25 = .ok (.aload_n 0, 1) := by decide +kernel
theorem dX7_row_26 : decode cX7_row 26 = .ok (.getfield 23, 3) := by decide +kernel
theorem dX7_row_29 : decode cX7_row 29 = .ok (.iload_n 1, 1) := by decide +kernel
theorem dX7_row_30 : decode cX7_row 30 = .ok (.iload_n 2, 1) := by decide +kernel
theorem dX7_row_31 : decode cX7_row 31 = .ok (.iastore, 1) := by decide +kernel
theorem dX7_row_32 : decode cX7_row 32 = .ok (.iconst 0, 1) := by decide +kernel
theorem dX7_row_33 : decode cX7_row 33 = .ok (.istore_n 3, 1) := by decide +kernel
theorem dX7_row_34 : decode cX7_row 34 = .ok (.iload_n 3, 1) := by decide +kernel
theorem dX7_row_35 : decode cX7_row 35 = .ok (.iload_n 2, 1) := by decide +kernel
theorem dX7_row_36 : decode cX7_row 36 = .ok (.if_icmp .ge 21, 3) := by decide +kernel
theorem dX7_row_39 : decode cX7_row 39 = .ok (.aload_n 0, 1) := by decide +kernel
theorem dX7_row_40 : decode cX7_row 40 = .ok (.getfield 26, 3) := by decide +kernel
theorem dX7_row_43 : decode cX7_row 43 = .ok (.bipush 40, 2) := by decide +kernel
theorem dX7_row_45 : decode cX7_row 45 = .ok (.iload_n 1, 1) := by decide +kernel
theorem dX7_row_46 : decode cX7_row 46 = .ok (.imul, 1) := by decide +kernel
theorem dX7_row_47 : decode cX7_row 47 = .ok (.iload_n 3, 1) := by decide +kernel
theorem dX7_row_48 : decode cX7_row 48 = .ok (.iadd, 1) := by decide +kernel
theorem dX7_row_49 : decode cX7_row 49 = .ok (.iconst 0, 1) := by decide +kernel
theorem dX7_row_50 : decode cX7_row 50 = .ok (.iastore, 1) := by decide +kernel
theorem dX7_row_51 : decode cX7_row 51 = .ok (.iinc 3 1, 3) := by decide +kernel
theorem dX7_row_54 : decode cX7_row 54 = .ok (.goto (-20), 3) := by decide +kernel
theorem dX7_row_57 : decode cX7_row 57 = .ok (.iconst 1, 1) := by decide +kernel
theorem dX7_row_58 : decode cX7_row 58 = .ok (.ireturn, 1) := by decide +kernel
theorem dX7_lose_0 : decode cX7_lose 0 = .ok (.iload_n 1, 1) := by decide +kernel
theorem dX7_lose_1 : decode cX7_lose 1 = .ok (.invokestatic 166, 3) := by decide +kernel
theorem dX7_lose_4 : decode cX7_lose 4 = .ok (.ifCond .ne 5, 3) := by decide +kernel
theorem dX7_lose_7 : decode cX7_lose 7 = .ok (.iconst (-1), 1) := by decide +kernel
theorem dX7_lose_8 : decode cX7_lose 8 = .ok (.ireturn, 1) := by decide +kernel
theorem dX7_lose_9 : decode cX7_lose 9 = .ok (.aload_n 0, 1) := by decide +kernel
theorem dX7_lose_10 : decode cX7_lose 10 = .ok (.getfield 23, 3) := by decide +kernel
theorem dX7_lose_13 : decode cX7_lose 13 = .ok (.iload_n 1, 1) := by decide +kernel
theorem dX7_lose_14 : decode cX7_lose 14 = .ok (.iaload, 1) := by decide +kernel
theorem dX7_lose_15 : decode cX7_lose 15 = .ok (.ifCond .ge 6, 3) := by decide +kernel
theorem dX7_lose_18 : decode cX7_lose 18 = .ok (.bipush (-11), 2) := by decide +kernel
theorem dX7_lose_20 : decode cX7_lose 20 = .ok (.ireturn, 1) := by decide +kernel
theorem dX7_lose_21 : decode cX7_lose 21 = .ok (.aload_n 0, 1) := by decide +kernel
theorem dX7_lose_22 : decode cX7_lose 22 = .ok (.getfield 23, 3) := by decide +kernel
theorem dX7_lose_25 : decode cX7_lose 25 = .ok (.iload_n 1, 1) := by decide +kernel
theorem dX7_lose_26 : decode cX7_lose 26 = .ok (.iaload, 1) := by decide +kernel
theorem dX7_lose_27 : decode cX7_lose 27 = .ok (.istore_n 2, 1) := by decide +kernel
theorem dX7_lose_28 : decode cX7_lose 28 = .ok (.aload_n 0, 1) := by decide +kernel
theorem dX7_lose_29 : decode cX7_lose 29 = .ok (.getfield 23, 3) := by decide +kernel
theorem dX7_lose_32 : decode cX7_lose 32 = .ok (.iload_n 1, 1) := by decide +kernel
theorem dX7_lose_33 : decode cX7_lose 33 = .ok (.iconst (-1), 1) := by decide +kernel
theorem dX7_lose_34 : decode cX7_lose 34 = .ok (.iastore, 1) := by decide +kernel
theorem dX7_lose_35 : decode cX7_lose 35 = .ok (.iload_n 2, 1) := by decide +kernel
theorem dX7_lose_36 : decode cX7_lose 36 = .ok (.ireturn, 1) := by decide +kernel
theorem dX7_put_0 : decode cX7_put 0 = .ok (.iload_n 1, 1) := by decide +kernel
theorem dX7_put_1 : decode cX7_put 1 = .ok (.invokestatic 166, 3) := by decide +kernel
theorem dX7_put_4 : decode cX7_put 4 = .ok (.ifCond .ne 5, 3) := by decide +kernel
theorem dX7_put_7 : decode cX7_put 7 = .ok (.iconst (-1), 1) := by decide +kernel
theorem dX7_put_8 : decode cX7_put 8 = .ok (.ireturn, 1) := by decide +kernel
theorem dX7_put_9 : decode cX7_put 9 = .ok (.aload_n 0, 1) := by decide +kernel
theorem dX7_put_10 : decode cX7_put 10 = .ok (.getfield 23, 3) := by decide +kernel
theorem dX7_put_13 : decode cX7_put 13 = .ok (.iload_n 1, 1) := by decide +kernel
theorem dX7_put_14 : decode cX7_put 14 = .ok (.iaload, 1) := by decide +kernel
theorem dX7_put_15 : decode cX7_put 15 = .ok (.ifCond .ge 6, 3) := by decide +kernel
theorem dX7_put_18 : decode cX7_put 18 = .ok (.bipush (-11), 2) := by decide +kernel
theorem dX7_put_20 : decode cX7_put 20 = .ok (.ireturn, 1) := by decide +kernel
theorem dX7_put_21 : decode cX7_put 21 = .ok (.iload_n 2, 1) := by decide +kernel
theorem dX7_put_22 : decode cX7_put 22 = .ok (.iconst 0, 1) := by decide +kernel
theorem dX7_put_23 : decode cX7_put 23 = .ok (.aload_n 0, 1) := by decide +kernel
theorem dX7_put_24 : decode cX7_put 24 = .ok (.getfield 23, 3) := by decide +kernel
theorem dX7_put_27 : decode cX7_put 27 = .ok (.iload_n 1, 1) := by decide +kernel
theorem dX7_put_28 : decode cX7_put 28 = .ok (.iaload, 1) := by decide +kernel
theorem dX7_put_29 : decode cX7_put 29 = .ok (.iconst 1, 1) := by decide +kernel
theorem dX7_put_30 : decode cX7_put 30 = .ok (.isub, 1) := by decide +kernel
theorem dX7_put_31 : decode cX7_put 31 = .ok (.invokestatic 63, 3) := by decide +kernel
theorem dX7_put_34 : decode cX7_put 34 = .ok (.ifCond .ne 6, 3) := by decide +kernel
theorem dX7_put_37 : decode cX7_put 37 = .ok (.bipush (-13), 2) := by decide +kernel
theorem dX7_put_39 : decode cX7_put 39 = .ok (.ireturn, 1) := by decide +kernel
theorem dX7_put_40 : decode cX7_put 40 = .ok (.aload_n 0, 1) := by decide +kernel
theorem dX7_put_41 : decode cX7_put 41 = .ok (.getfield 26, 3) := by decide +kernel
theorem dX7_put_44 : decode cX7_put 44 = .ok (.bipush 40, 2) := by decide +kernel
theorem dX7_put_46 : decode cX7_put 46 = .ok (.iload_n 1, 1) := by decide +kernel
theorem dX7_put_47 : decode cX7_put 47 = .ok (.imul, 1) := by decide +kernel
theorem dX7_put_48 : decode cX7_put 48 = .ok (.iload_n 2, 1) := by decide +kernel
theorem dX7_put_49 : decode cX7_put 49 = .ok (.iadd, 1) := by decide +kernel
theorem dX7_put_50 : decode cX7_put 50 = .ok (.iload_n 3, 1) := by decide +kernel
theorem dX7_put_51 : decode cX7_put 51 = .ok (.iastore, 1) := by decide +kernel
theorem dX7_put_52 : decode cX7_put 52 = .ok (.iconst 1, 1) := by decide +kernel
theorem dX7_put_53 : decode cX7_put 53 = .ok (.ireturn, 1) := by decide +kernel
theorem dX7_get_0 : decode cX7_get 0 = .ok (.iload_n 1, 1) := by decide +kernel
theorem dX7_get_1 : decode cX7_get 1 = .ok (.invokestatic 166, 3) := by decide +kernel
theorem dX7_get_4 : decode cX7_get 4 = .ok (.ifCond .eq 34, 3) := by decide +kernel
theorem dX7_get_7 : decode cX7_get 7 = .ok (.iload_n 2, 1) := by decide +kernel
theorem dX7_get_8 : decode cX7_get 8 = .ok (.iconst 0, 1) := by decide +kernel
theorem dX7_get_9 : decode cX7_get 9 = .ok (.aload_n 0, 1) := by decide +kernel
theorem dX7_get_10 : decode cX7_get 10 = .ok (.getfield 23, 3) := by decide +kernel
theorem dX7_get_13 : decode cX7_get 13 = .ok (.iload_n 1, 1) := by decide +kernel
theorem dX7_get_14 : decode cX7_get 14 = .ok (.iaload, 1) := by decide +kernel
theorem dX7_get_15 : decode cX7_get 15 = .ok (.iconst 1, 1) := by decide +kernel
theorem dX7_get_16 : decode cX7_get 16 = .ok (.isub, 1) := by decide +kernel
theorem dX7_get_17 : decode cX7_get 17 = .ok (.invokestatic 63, 3) := by decide +kernel
theorem dX7_get_20 : decode cX7_get 20 = .ok (.ifCond .eq 18, 3) := by decide +kernel
theorem dX7_get_23 : decode cX7_get 23 = .ok (.aload_n 0, 1) := by decide +kernel
theorem dX7_get_24 : decode cX7_get 24 = .ok (.getfield 26, 3) := by decide +kernel
theorem dX7_get_27 : decode cX7_get 27 = .ok (.bipush 40, 2) := by decide +kernel
theorem dX7_get_29 : decode cX7_get 29 = .ok (.iload_n 1, 1) := by decide +kernel
theorem dX7_get_30 : decode cX7_get 30 = .ok (.imul, 1) := by decide +kernel
theorem dX7_get_31 : decode cX7_get 31 = .ok (.iload_n 2, 1) := by decide +kernel
theorem dX7_get_32 : decode cX7_get 32 = .ok (.iadd, 1) := by decide +kernel
theorem dX7_get_33 : decode cX7_get 33 = .ok (.iaload, 1) := by decide +kernel
theorem dX7_get_34 : decode cX7_get 34 = .ok (.i2l, 1) := by decide +kernel
theorem dX7_get_35 : decode cX7_get 35 = .ok (.goto 6, 3) := by decide +kernel
theorem dX7_get_38 : decode cX7_get 38 = .ok (.ldc2_w 171, 3) := by decide +kernel
theorem dX7_get_41 : decode cX7_get 41 = .ok (.lreturn, 1) := by decide +kernel
theorem dX7_copy_0 : decode cX7_copy 0 = .ok (.iload_n 1, 1) := by decide +kernel
theorem dX7_copy_1 : decode cX7_copy 1 = .ok (.invokestatic 166, 3) := by decide +kernel
theorem dX7_copy_4 : decode cX7_copy 4 = .ok (.ifCond .eq 10, 3) := by decide +kernel
theorem dX7_copy_7 : decode cX7_copy 7 = .ok (.iload_n 3, 1) := by decide +kernel
theorem dX7_copy_8 : decode cX7_copy 8 = .ok (.invokestatic 166, 3) := by decide +kernel
theorem dX7_copy_11 : decode cX7_copy 11 = .ok (.ifCond .ne 5, 3) := by decide +kernel
theorem dX7_copy_14 : decode cX7_copy 14 = .ok (.iconst (-1), 1) := by decide +kernel
theorem dX7_copy_15 : decode cX7_copy 15 = .ok (.ireturn, 1) := by decide +kernel
theorem dX7_copy_16 : decode cX7_copy 16 = .ok (.aload_n 0, 1) := by decide +kernel
theorem dX7_copy_17 : decode cX7_copy 17 = .ok (.getfield 23, 3) := by decide +kernel
theorem dX7_copy_20 : decode cX7_copy 20 = .ok (.iload_n 1, 1) := by decide +kernel
theorem dX7_copy_21 : decode cX7_copy 21 = .ok (.iaload, 1) := by decide +kernel
theorem dX7_copy_22 : decode cX7_copy 22 = .ok (.ifCond .lt 12, 3) := by decide +kernel
theorem dX7_copy_25 : decode cX7_copy 25 = .ok (.aload_n 0, 1) := by decide +kernel
theorem dX7_copy_26 : decode cX7_copy 26 = .ok (.getfield 23, 3) := by decide +kernel
theorem dX7_copy_29 : decode cX7_copy 29 = .ok (.iload_n 3, 1) := by decide +kernel
theorem dX7_copy_30 : decode cX7_copy 30 = .ok (.iaload, 1) := by decide +kernel
theorem dX7_copy_31 : decode cX7_copy 31 = .ok (.ifCond .ge 6, 3) := by decide +kernel
theorem dX7_copy_34 : decode cX7_copy 34 = .ok (.bipush (-11), 2) := by decide +kernel
theorem dX7_copy_36 : decode cX7_copy 36 = .ok (.ireturn, 1) := by decide +kernel
theorem dX7_copy_37 : decode cX7_copy 37 = .ok (.iload 5, 2) := by decide +kernel
theorem dX7_copy_39 : decode cX7_copy 39 = .ok (.ifCond .lt 47, 3) := by decide +kernel
theorem dX7_copy_42 : decode cX7_copy 42 = .ok (.iload_n 2, 1) := by decide +kernel
theorem dX7_copy_43 : decode cX7_copy 43 = .ok (.ifCond .lt 43, 3) := by decide +kernel
theorem dX7_copy_46 : decode cX7_copy 46 = .ok (.iload 4, 2) := by decide +kernel
theorem dX7_copy_48 : decode cX7_copy 48 = .ok (.ifCond .lt 38, 3) := by decide +kernel
theorem dX7_copy_51 : decode cX7_copy 51 = .ok (.iload_n 2, 1) := by decide +kernel
theorem dX7_copy_52 : decode cX7_copy 52 = .ok (.i2l, 1) := by decide +kernel
theorem dX7_copy_53 : decode cX7_copy 53 = .ok (.iload 5, 2) := by decide +kernel
theorem dX7_copy_55 : decode cX7_copy 55 = .ok (.i2l, 1) := by decide +kernel
theorem dX7_copy_56 : decode cX7_copy 56 = .ok (.ladd, 1) := by decide +kernel
theorem dX7_copy_57 : decode cX7_copy 57 = .ok (.aload_n 0, 1) := by decide +kernel
theorem dX7_copy_58 : decode cX7_copy 58 = .ok (.getfield 23, 3) := by decide +kernel
theorem dX7_copy_61 : decode cX7_copy 61 = .ok (.iload_n 1, 1) := by decide +kernel
theorem dX7_copy_62 : decode cX7_copy 62 = .ok (.iaload, 1) := by decide +kernel
theorem dX7_copy_63 : decode cX7_copy 63 = .ok (.i2l, 1) := by decide +kernel
theorem dX7_copy_64 : decode cX7_copy 64 = .ok (.lcmp, 1) := by decide +kernel
theorem dX7_copy_65 : decode cX7_copy 65 = .ok (.ifCond .gt 21, 3) := by decide +kernel
theorem dX7_copy_68 : decode cX7_copy 68 = .ok (.iload 4, 2) := by decide +kernel
theorem dX7_copy_70 : decode cX7_copy 70 = .ok (.i2l, 1) := by decide +kernel
theorem dX7_copy_71 : decode cX7_copy 71 = .ok (.iload 5, 2) := by decide +kernel
theorem dX7_copy_73 : decode cX7_copy 73 = .ok (.i2l, 1) := by decide +kernel
theorem dX7_copy_74 : decode cX7_copy 74 = .ok (.ladd, 1) := by decide +kernel
theorem dX7_copy_75 : decode cX7_copy 75 = .ok (.aload_n 0, 1) := by decide +kernel
theorem dX7_copy_76 : decode cX7_copy 76 = .ok (.getfield 23, 3) := by decide +kernel
theorem dX7_copy_79 : decode cX7_copy 79 = .ok (.iload_n 3, 1) := by decide +kernel
theorem dX7_copy_80 : decode cX7_copy 80 = .ok (.iaload, 1) := by decide +kernel
theorem dX7_copy_81 : decode cX7_copy 81 = .ok (.i2l, 1) := by decide +kernel
theorem dX7_copy_82 : decode cX7_copy 82 = .ok (.lcmp, 1) := by decide +kernel
theorem dX7_copy_83 : decode cX7_copy 83 = .ok (.ifCond .le 6, 3) := by decide +kernel
theorem dX7_copy_86 : decode cX7_copy 86 = .ok (.bipush (-13), 2) := by decide +kernel
theorem dX7_copy_88 : decode cX7_copy 88 = .ok (.ireturn, 1) := by decide +kernel
theorem dX7_copy_89 : decode cX7_copy 89 = .ok (.iconst 0, 1) := by decide +kernel
theorem dX7_copy_90 : decode cX7_copy 90 = .ok (.istore 6, 2) := by decide +kernel
theorem dX7_copy_92 : decode cX7_copy 92 = .ok (.iload 6, 2) := by decide +kernel
theorem dX7_copy_94 : decode cX7_copy 94 = .ok (.iload 5, 2) := by decide +kernel
theorem dX7_copy_96 : decode cX7_copy 96 = .ok (.if_icmp .ge 30, 3) := by decide +kernel
theorem dX7_copy_99 : decode cX7_copy 99 = .ok (.aload_n 0, 1) := by decide +kernel
theorem dX7_copy_100 : decode cX7_copy 100 = .ok (.getfield 29, 3) := by decide +kernel
theorem dX7_copy_103 : decode cX7_copy 103 = .ok (.iload 6, 2) := by decide +kernel
theorem dX7_copy_105 : decode cX7_copy 105 = .ok (.aload_n 0, 1) := by decide +kernel
theorem dX7_copy_106 : decode cX7_copy 106 = .ok (.getfield 26, 3) := by decide +kernel
theorem dX7_copy_109 : decode cX7_copy 109 = .ok (.bipush 40, 2) := by decide +kernel
theorem dX7_copy_111 : decode cX7_copy 111 = .ok (.iload_n 1, 1) := by decide +kernel
theorem dX7_copy_112 : decode cX7_copy 112 = .ok (.imul, 1) := by decide +kernel
theorem dX7_copy_113 : decode cX7_copy 113 = .ok (.iload_n 2, 1) := by decide +kernel
theorem dX7_copy_114 : decode cX7_copy 114 = .ok (.iadd, 1) := by decide +kernel
theorem dX7_copy_115 : decode cX7_copy 115 = .ok (.iload 6, 2) := by decide +kernel
theorem dX7_copy_117 : decode cX7_copy 117 = .ok (.iadd, 1) := by decide +kernel
theorem dX7_copy_118 : decode cX7_copy 118 = .ok (.iaload, 1) := by decide +kernel
theorem dX7_copy_119 : decode cX7_copy 119 = .ok (.iastore, 1) := by decide +kernel
theorem dX7_copy_120 : decode cX7_copy 120 = .ok (.iinc 6 1, 3) := by decide +kernel
theorem dX7_copy_123 : decode cX7_copy 123 = .ok (.goto (-31), 3) := by decide +kernel
theorem dX7_copy_126 : decode cX7_copy 126 = .ok (.iconst 0, 1) := by decide +kernel
theorem dX7_copy_127 : decode cX7_copy 127 = .ok (.istore 6, 2) := by decide +kernel
theorem dX7_copy_129 : decode cX7_copy 129 = .ok (.iload 6, 2) := by decide +kernel
theorem dX7_copy_131 : decode cX7_copy 131 = .ok (.iload 5, 2) := by decide +kernel
theorem dX7_copy_133 : decode cX7_copy 133 = .ok (.if_icmp .ge 31, 3) := by decide +kernel
theorem dX7_copy_136 : decode cX7_copy 136 = .ok (.aload_n 0, 1) := by decide +kernel
theorem dX7_copy_137 : decode cX7_copy 137 = .ok (.getfield 26, 3) := by decide +kernel
theorem dX7_copy_140 : decode cX7_copy 140 = .ok (.bipush 40, 2) := by decide +kernel
theorem dX7_copy_142 : decode cX7_copy 142 = .ok (.iload_n 3, 1) := by decide +kernel
theorem dX7_copy_143 : decode cX7_copy 143 = .ok (.imul, 1) := by decide +kernel
theorem dX7_copy_144 : decode cX7_copy 144 = .ok (.iload 4, 2) := by decide +kernel
theorem dX7_copy_146 : decode cX7_copy 146 = .ok (.iadd, 1) := by decide +kernel
theorem dX7_copy_147 : decode cX7_copy 147 = .ok (.iload 6, 2) := by decide +kernel
theorem dX7_copy_149 : decode cX7_copy 149 = .ok (.iadd, 1) := by decide +kernel
theorem dX7_copy_150 : decode cX7_copy 150 = .ok (.aload_n 0, 1) := by decide +kernel
theorem dX7_copy_151 : decode cX7_copy 151 = .ok (.getfield 29, 3) := by decide +kernel
theorem dX7_copy_154 : decode cX7_copy 154 = .ok (.iload 6, 2) := by decide +kernel
theorem dX7_copy_156 : decode cX7_copy 156 = .ok (.iaload, 1) := by decide +kernel
theorem dX7_copy_157 : decode cX7_copy 157 = .ok (.iastore, 1) := by decide +kernel
theorem dX7_copy_158 : decode cX7_copy 158 = .ok (.iinc 6 1, 3) := by decide +kernel
theorem dX7_copy_161 : decode cX7_copy 161 = .ok (.goto (-32), 3) := by decide +kernel
theorem dX7_copy_164 : decode cX7_copy 164 = .ok (.iload 5, 2) := by decide +kernel
theorem dX7_copy_166 : decode cX7_copy 166 = .ok (.ireturn, 1) := by decide +kernel
theorem dX7_film_0 : decode cX7_film 0 = .ok (.iload_n 1, 1) := by decide +kernel
theorem dX7_film_1 : decode cX7_film 1 = .ok (.invokestatic 166, 3) := by decide +kernel
theorem dX7_film_4 : decode cX7_film 4 = .ok (.ifCond .eq 10, 3) := by decide +kernel
theorem dX7_film_7 : decode cX7_film 7 = .ok (.iload_n 2, 1) := by decide +kernel
theorem dX7_film_8 : decode cX7_film 8 = .ok (.invokestatic 131, 3) := by decide +kernel
theorem dX7_film_11 : decode cX7_film 11 = .ok (.ifCond .ne 5, 3) := by decide +kernel
theorem dX7_film_14 : decode cX7_film 14 = .ok (.iconst (-1), 1) := by decide +kernel
theorem dX7_film_15 : decode cX7_film 15 = .ok (.ireturn, 1) := by decide +kernel
theorem dX7_film_16 : decode cX7_film 16 = .ok (.aload_n 0, 1) := by decide +kernel
theorem dX7_film_17 : decode cX7_film 17 = .ok (.iload_n 3, 1) := by decide +kernel
theorem dX7_film_18 : decode cX7_film 18 = .ok (.invokevirtual 122, 3) := by decide +kernel
theorem dX7_film_21 : decode cX7_film 21 = .ok (.ifCond .eq 14, 3) := by decide +kernel
theorem dX7_film_24 : decode cX7_film 24 = .ok (.iload 4, 2) := by decide +kernel
theorem dX7_film_26 : decode cX7_film 26 = .ok (.iconst 0, 1) := by decide +kernel
theorem dX7_film_27 : decode cX7_film 27 = .ok (.bipush 40, 2) := by decide +kernel
theorem dX7_film_29 : decode cX7_film 29 = .ok (.invokestatic 63, 3) := by decide +kernel
theorem dX7_film_32 : decode cX7_film 32 = .ok (.ifCond .ne 6, 3) := by decide +kernel
theorem dX7_film_35 : decode cX7_film 35 = .ok (.bipush (-2), 2) := by decide +kernel
theorem dX7_film_37 : decode cX7_film 37 = .ok (.ireturn, 1) := by decide +kernel
theorem dX7_film_38 : decode cX7_film 38 = .ok (.aload_n 0, 1) := by decide +kernel
theorem dX7_film_39 : decode cX7_film 39 = .ok (.iload_n 2, 1) := by decide +kernel
theorem dX7_film_40 : decode cX7_film 40 = .ok (.invokevirtual 134, 3) := by decide +kernel
theorem dX7_film_43 : decode cX7_film 43 = .ok (.aload_n 0, 1) := by decide +kernel
theorem dX7_film_44 : decode cX7_film 44 = .ok (.getfield 23, 3) := by decide +kernel
theorem dX7_film_47 : decode cX7_film 47 = .ok (.iload_n 1, 1) := by decide +kernel
theorem dX7_film_48 : decode cX7_film 48 = .ok (.iload 4, 2) := by decide +kernel
theorem dX7_film_50 : decode cX7_film 50 = .ok (.aload_n 0, 1) := by decide +kernel
theorem dX7_film_51 : decode cX7_film 51 = .ok (.invokevirtual 67, 3) := by decide +kernel
theorem dX7_film_54 : decode cX7_film 54 = .ok (.iload_n 3, 1) := by decide +kernel
theorem dX7_film_55 : decode cX7_film 55 = .ok (.isub, 1) := by decide +kernel
theorem dX7_film_56 : decode cX7_film 56 = .ok (.iconst 1, 1) := by decide +kernel
theorem dX7_film_57 : decode cX7_film 57 = .ok (.iadd, 1) := by decide +kernel
theorem dX7_film_58 : decode cX7_film 58 = .ok (.invokestatic 173, 3) := by decide +kernel
theorem dX7_film_61 : decode cX7_film 61 = .ok (.iastore, 1) := by decide +kernel
theorem dX7_film_62 : decode cX7_film 62 = .ok (.iconst 0, 1) := by decide +kernel
theorem dX7_film_63 : decode cX7_film 63 = .ok (.istore 5, 2) := by decide +kernel
theorem dX7_film_65 : decode cX7_film 65 = .ok (.iload 5, 2) := by decide +kernel
theorem dX7_film_67 : decode cX7_film 67 = .ok (.aload_n 0, 1) := by decide +kernel
theorem dX7_film_68 : decode cX7_film 68 = .ok (.getfield 23, 3) := by decide +kernel
theorem dX7_film_71 : decode cX7_film 71 = .ok (.iload_n 1, 1) := by decide +kernel
theorem dX7_film_72 : decode cX7_film 72 = .ok (.iaload, 1) := by decide +kernel
theorem dX7_film_73 : decode cX7_film 73 = .ok (.if_icmp .ge 30, 3) := by decide +kernel
theorem dX7_film_76 : decode cX7_film 76 = .ok (.aload_n 0, 1) := by decide +kernel
theorem dX7_film_77 : decode cX7_film 77 = .ok (.getfield 26, 3) := by decide +kernel
theorem dX7_film_80 : decode cX7_film 80 = .ok (.bipush 40, 2) := by decide +kernel
theorem dX7_film_82 : decode cX7_film 82 = .ok (.iload_n 1, 1) := by decide +kernel
theorem dX7_film_83 : decode cX7_film 83 = .ok (.imul, 1) := by decide +kernel
theorem dX7_film_84 : decode cX7_film 84 = .ok (.iload 5, 2) := by decide +kernel
theorem dX7_film_86 : decode cX7_film 86 = .ok (.iadd, 1) := by decide +kernel
theorem dX7_film_87 : decode cX7_film 87 = .ok (.aload_n 0, 1) := by decide +kernel
theorem dX7_film_88 : decode cX7_film 88 = .ok (.getfield 45, 3) := by decide +kernel
theorem dX7_film_91 : decode cX7_film 91 = .ok (.iload_n 3, 1) := by decide +kernel
theorem dX7_film_92 : decode cX7_film 92 = .ok (.iload 5, 2) := by decide +kernel
theorem dX7_film_94 : decode cX7_film 94 = .ok (.iadd, 1) := by decide +kernel
theorem dX7_film_95 : decode cX7_film 95 = .ok (.iaload, 1) := by decide +kernel
theorem dX7_film_96 : decode cX7_film 96 = .ok (.iastore, 1) := by decide +kernel
theorem dX7_film_97 : decode cX7_film 97 = .ok (.iinc 5 1, 3) := by decide +kernel
theorem dX7_film_100 : decode cX7_film 100 = .ok (.goto (-35), 3) := by decide +kernel
theorem dX7_film_103 : decode cX7_film 103 = .ok (.aload_n 0, 1) := by decide +kernel
theorem dX7_film_104 : decode cX7_film 104 = .ok (.getfield 23, 3) := by decide +kernel
theorem dX7_film_107 : decode cX7_film 107 = .ok (.iload_n 1, 1) := by decide +kernel
theorem dX7_film_108 : decode cX7_film 108 = .ok (.iaload, 1) := by decide +kernel
theorem dX7_film_109 : decode cX7_film 109 = .ok (.ireturn, 1) := by decide +kernel
theorem dX7_judge_0 : decode cX7_judge 0 = .ok (.iload_n 1, 1) := by decide +kernel
theorem dX7_judge_1 : decode cX7_judge 1 = .ok (.invokestatic 166, 3) := by decide +kernel
theorem dX7_judge_4 : decode cX7_judge 4 = .ok (.ifCond .eq 10, 3) := by decide +kernel
theorem dX7_judge_7 : decode cX7_judge 7 = .ok (.iload_n 2, 1) := by decide +kernel
theorem dX7_judge_8 : decode cX7_judge 8 = .ok (.invokestatic 131, 3) := by decide +kernel
theorem dX7_judge_11 : decode cX7_judge 11 = .ok (.ifCond .ne 5, 3) := by decide +kernel
theorem dX7_judge_14 : decode cX7_judge 14 = .ok (.iconst (-1), 1) := by decide +kernel
theorem dX7_judge_15 : decode cX7_judge 15 = .ok (.ireturn, 1) := by decide +kernel
theorem dX7_judge_16 : decode cX7_judge 16 = .ok (.aload_n 0, 1) := by decide +kernel
theorem dX7_judge_17 : decode cX7_judge 17 = .ok (.iload_n 3, 1) := by decide +kernel
theorem dX7_judge_18 : decode cX7_judge 18 = .ok (.invokevirtual 122, 3) := by decide +kernel
theorem dX7_judge_21 : decode cX7_judge 21 = .ok (.ifCond .ne 6, 3) := by decide +kernel
theorem dX7_judge_24 : decode cX7_judge 24 = .ok (.bipush (-2), 2) := by decide +kernel
theorem dX7_judge_26 : decode cX7_judge 26 = .ok (.ireturn, 1) := by decide +kernel
theorem dX7_judge_27 : decode cX7_judge 27 = .ok (.aload_n 0, 1) := by decide +kernel
theorem dX7_judge_28 : decode cX7_judge 28 = .ok (.getfield 23, 3) := by decide +kernel
theorem dX7_judge_31 : decode cX7_judge 31 = .ok (.iload_n 1, 1) := by decide +kernel
theorem dX7_judge_32 : decode cX7_judge 32 = .ok (.iaload, 1) := by decide +kernel
theorem dX7_judge_33 : decode cX7_judge 33 = .ok (.ifCond .ge 6, 3) := by decide +kernel
theorem dX7_judge_36 : decode cX7_judge 36 = .ok (.bipush (-11), 2) := by decide +kernel
theorem dX7_judge_38 : decode cX7_judge 38 = .ok (.ireturn, 1) := by decide +kernel
theorem dX7_judge_39 : decode cX7_judge 39 = .ok (.aload_n 0, 1) := by decide +kernel
theorem dX7_judge_40 : decode cX7_judge 40 = .ok (.iload_n 2, 1) := by decide +kernel
theorem dX7_judge_41 : decode cX7_judge 41 = .ok (.invokevirtual 134, 3) := by decide +kernel
theorem dX7_judge_44 : decode cX7_judge 44 = .ok (.iconst 0, 1) := by decide +kernel
theorem dX7_judge_45 : decode cX7_judge 45 = .ok (.istore 4, 2) := by decide +kernel
theorem dX7_judge_47 : decode cX7_judge 47 = .ok (.iload 4, 2) := by decide +kernel
theorem dX7_judge_49 : decode cX7_judge 49 = .ok (.aload_n 0, 1) := by decide +kernel
theorem dX7_judge_50 : decode cX7_judge 50 = .ok (.getfield 23, 3) := by decide +kernel
theorem dX7_judge_53 : decode cX7_judge 53 = .ok (.iload_n 1, 1) := by decide +kernel
theorem dX7_judge_54 : decode cX7_judge 54 = .ok (.iaload, 1) := by decide +kernel
theorem dX7_judge_55 : decode cX7_judge 55 = .ok (.if_icmp .ge 47, 3) := by decide +kernel
theorem dX7_judge_58 : decode cX7_judge 58 = .ok (.iload_n 3, 1) := by decide +kernel
theorem dX7_judge_59 : decode cX7_judge 59 = .ok (.iload 4, 2) := by decide +kernel
theorem dX7_judge_61 : decode cX7_judge 61 = .ok (.iadd, 1) := by decide +kernel
theorem dX7_judge_62 : decode cX7_judge 62 = .ok (.aload_n 0, 1) := by decide +kernel
theorem dX7_judge_63 : decode cX7_judge 63 = .ok (.invokevirtual 67, 3) := by decide +kernel
theorem dX7_judge_66 : decode cX7_judge 66 = .ok (.if_icmp .gt 27, 3) := by decide +kernel
theorem dX7_judge_69 : decode cX7_judge 69 = .ok (.aload_n 0, 1) := by decide +kernel
theorem dX7_judge_70 : decode cX7_judge 70 = .ok (.getfield 26, 3) := by decide +kernel
theorem dX7_judge_73 : decode cX7_judge 73 = .ok (.bipush 40, 2) := by decide +kernel
theorem dX7_judge_75 : decode cX7_judge 75 = .ok (.iload_n 1, 1) := by decide +kernel
theorem dX7_judge_76 : decode cX7_judge 76 = .ok (.imul, 1) := by decide +kernel
theorem dX7_judge_77 : decode cX7_judge 77 = .ok (.iload 4, 2) := by decide +kernel
theorem dX7_judge_79 : decode cX7_judge 79 = .ok (.iadd, 1) := by decide +kernel
theorem dX7_judge_80 : decode cX7_judge 80 = .ok (.iaload, 1) := by decide +kernel
theorem dX7_judge_81 : decode cX7_judge 81 = .ok (.aload_n 0, 1) := by decide +kernel
theorem dX7_judge_82 : decode cX7_judge 82 = .ok (.getfield 45, 3) := by decide +kernel
theorem dX7_judge_85 : decode cX7_judge 85 = .ok (.iload_n 3, 1) := by decide +kernel
theorem dX7_judge_86 : decode cX7_judge 86 = .ok (.iload 4, 2) := by decide +kernel
theorem dX7_judge_88 : decode cX7_judge 88 = .ok (.iadd, 1) := by decide +kernel
theorem dX7_judge_89 : decode cX7_judge 89 = .ok (.iaload, 1) := by decide +kernel
theorem dX7_judge_90 : decode cX7_judge 90 = .ok (.if_icmp .eq 6, 3) := by decide +kernel
theorem dX7_judge_93 : decode cX7_judge 93 = .ok (.iload 4, 2) := by decide +kernel
theorem dX7_judge_95 : decode cX7_judge 95 = .ok (.ireturn, 1) := by decide +kernel
theorem dX7_judge_96 : decode cX7_judge 96 = .ok (.iinc 4 1, 3) := by decide +kernel
theorem dX7_judge_99 : decode cX7_judge 99 = .ok (.goto (-52), 3) := by decide +kernel
theorem dX7_judge_102 : decode cX7_judge 102 = .ok (.bipush 100, 2) := by decide +kernel
theorem dX7_judge_104 : decode cX7_judge 104 = .ok (.aload_n 0, 1) := by decide +kernel
theorem dX7_judge_105 : decode cX7_judge 105 = .ok (.getfield 23, 3) := by decide +kernel
theorem dX7_judge_108 : decode cX7_judge 108 = .ok (.iload_n 1, 1) := by decide +kernel
theorem dX7_judge_109 : decode cX7_judge 109 = .ok (.iaload, 1) := by decide +kernel
theorem dX7_judge_110 : decode cX7_judge 110 = .ok (.iadd, 1) := by decide +kernel
theorem dX7_judge_111 : decode cX7_judge 111 = .ok (.ireturn, 1) := by decide +kernel
theorem dX7_feed_0 : decode cX7_feed 0 = .ok (.iload_n 1, 1) := by decide +kernel
theorem dX7_feed_1 : decode cX7_feed 1 = .ok (.bipush 32, 2) := by decide +kernel
theorem dX7_feed_3 : decode cX7_feed 3 = .ok (.bipush 126, 2) := by decide +kernel
theorem dX7_feed_5 : decode cX7_feed 5 = .ok (.invokestatic 63, 3) := by decide +kernel
theorem dX7_feed_8 : decode cX7_feed 8 = .ok (.ifCond .ne 6, 3) := by decide +kernel
theorem dX7_feed_11 : decode cX7_feed 11 = .ok (.bipush (-2), 2) := by decide +kernel
theorem dX7_feed_13 : decode cX7_feed 13 = .ok (.ireturn, 1) := by decide +kernel
theorem dX7_feed_14 : decode cX7_feed 14 = .ok (.aload_n 0, 1) := by decide +kernel
theorem dX7_feed_15 : decode cX7_feed 15 = .ok (.getfield 176, 3) := by decide +kernel
theorem dX7_feed_18 : decode cX7_feed 18 = .ok (.bipush 120, 2) := by decide +kernel
theorem dX7_feed_20 : decode cX7_feed 20 = .ok (.if_icmp .ne 6, 3) := by decide +kernel
theorem dX7_feed_23 : decode cX7_feed 23 = .ok (.bipush (-4), 2) := by decide +kernel
theorem dX7_feed_25 : decode cX7_feed 25 = .ok (.ireturn, 1) := by decide +kernel
theorem dX7_feed_26 : decode cX7_feed 26 = .ok (.aload_n 0, 1) := by decide +kernel
theorem dX7_feed_27 : decode cX7_feed 27 = .ok (.getfield 32, 3) := by decide +kernel
theorem dX7_feed_30 : decode cX7_feed 30 = .ok (.aload_n 0, 1) := by decide +kernel
theorem dX7_feed_31 : decode cX7_feed 31 = .ok (.getfield 176, 3) := by decide +kernel
theorem dX7_feed_34 : decode cX7_feed 34 = .ok (.iload_n 1, 1) := by decide +kernel
theorem dX7_feed_35 : decode cX7_feed 35 = .ok (.iastore, 1) := by decide +kernel
theorem dX7_feed_36 : decode cX7_feed 36 = .ok (.aload_n 0, 1) := by decide +kernel
theorem dX7_feed_37 : decode cX7_feed 37 = .ok (.dup, 1) := by decide +kernel
theorem dX7_feed_38 : decode cX7_feed 38 = .ok (.getfield 176, 3) := by decide +kernel
theorem dX7_feed_41 : decode cX7_feed 41 = .ok (.iconst 1, 1) := by decide +kernel
theorem dX7_feed_42 : decode cX7_feed 42 = .ok (.iadd, 1) := by decide +kernel
theorem dX7_feed_43 : decode cX7_feed 43 = .ok (.putfield 176, 3) := by decide +kernel
theorem dX7_feed_46 : decode cX7_feed 46 = .ok (.aload_n 0, 1) := by decide +kernel
theorem dX7_feed_47 : decode cX7_feed 47 = .ok (.getfield 176, 3) := by decide +kernel
theorem dX7_feed_50 : decode cX7_feed 50 = .ok (.ireturn, 1) := by decide +kernel
theorem dX7_wipe_0 : decode cX7_wipe 0 = .ok (.aload_n 0, 1) := by decide +kernel
theorem dX7_wipe_1 : decode cX7_wipe 1 = .ok (.getfield 176, 3) := by decide +kernel
theorem dX7_wipe_4 : decode cX7_wipe 4 = .ok (.istore_n 1, 1) := by decide +kernel
theorem dX7_wipe_5 : decode cX7_wipe 5 = .ok (.aload_n 0, 1) := by decide +kernel
theorem dX7_wipe_6 : decode cX7_wipe 6 = .ok (.iconst 0, 1) := by decide +kernel
theorem dX7_wipe_7 : decode cX7_wipe 7 = .ok (.putfield 176, 3) := by decide +kernel
theorem dX7_wipe_10 : decode cX7_wipe 10 = .ok (.iload_n 1, 1) := by decide +kernel
theorem dX7_wipe_11 : decode cX7_wipe 11 = .ok (.ireturn, 1) := by decide +kernel
theorem dX7_wordOf_0 : decode cX7_wordOf 0 = .ok (.iload_n 0, 1) := by decide +kernel
theorem dX7_wordOf_1 : decode cX7_wordOf 1 = .ok (.tableswitch 50 0 4 #[35, 38, 41, 44, 47], 35) := by decide +kernel
theorem dX7_wordOf_36 : decode cX7_wordOf 36 = .ok (.ldc 179, 2) := by decide +kernel
theorem dX7_wordOf_38 : decode cX7_wordOf 38 = .ok (.areturn, 1) := by decide +kernel
theorem dX7_wordOf_39 : decode cX7_wordOf 39 = .ok (.ldc 180, 2) := by decide +kernel
theorem dX7_wordOf_41 : decode cX7_wordOf 41 = .ok (.areturn, 1) := by decide +kernel
theorem dX7_wordOf_42 : decode cX7_wordOf 42 = .ok (.ldc 182, 2) := by decide +kernel
theorem dX7_wordOf_44 : decode cX7_wordOf 44 = .ok (.areturn, 1) := by decide +kernel
theorem dX7_wordOf_45 : decode cX7_wordOf 45 = .ok (.ldc 184, 2) := by decide +kernel
theorem dX7_wordOf_47 : decode cX7_wordOf 47 = .ok (.areturn, 1) := by decide +kernel
theorem dX7_wordOf_48 : decode cX7_wordOf 48 = .ok (.ldc 186, 2) := by decide +kernel
theorem dX7_wordOf_50 : decode cX7_wordOf 50 = .ok (.areturn, 1) := by decide +kernel
theorem dX7_wordOf_51 : decode cX7_wordOf 51 = .ok (.ldc 188, 2) := by decide +kernel
theorem dX7_wordOf_53 : decode cX7_wordOf 53 = .ok (.areturn, 1) := by decide +kernel
theorem dX7_isHere_0 : decode cX7_isHere 0 = .ok (.aload_n 0, 1) := by decide +kernel
theorem dX7_isHere_1 : decode cX7_isHere 1 = .ok (.getfield 190, 3) := by decide +kernel
theorem dX7_isHere_4 : decode cX7_isHere 4 = .ok (.aload_n 0, 1) := by decide +kernel
theorem dX7_isHere_5 : decode cX7_isHere 5 = .ok (.getfield 176, 3) := by decide +kernel
theorem dX7_isHere_8 : decode cX7_isHere 8 = .ok (.if_icmp .ge 20, 3) := by decide +kernel
theorem dX7_isHere_11 : decode cX7_isHere 11 = .ok (.aload_n 0, 1) := by decide +kernel
theorem dX7_isHere_12 : decode cX7_isHere 12 = .ok (.getfield 32, 3) := by decide +kernel
theorem dX7_isHere_15 : decode cX7_isHere 15 = .ok (.aload_n 0, 1) := by decide +kernel
theorem dX7_isHere_16 : decode cX7_isHere 16 = .ok (.getfield 190, 3) := by decide +kernel
theorem dX7_isHere_19 : decode cX7_isHere 19 = .ok (.iaload, 1) := by decide +kernel
theorem dX7_isHere_20 : decode cX7_isHere 20 = .ok (.iload_n 1, 1) := by decide +kernel
theorem dX7_isHere_21 : decode cX7_isHere 21 = .ok (.if_icmp .ne 7, 3) := by decide +kernel
theorem dX7_isHere_24 : decode cX7_isHere 24 = .ok (.iconst 1, 1) := by decide +kernel
theorem dX7_isHere_25 : decode cX7_isHere 25 = .ok (.goto 4, 3) := by decide +kernel
theorem dX7_isHere_28 : decode cX7_isHere 28 = .ok (.iconst 0, 1) := by decide +kernel
theorem dX7_isHere_29 : decode cX7_isHere 29 = .ok (.ireturn, 1) := by decide +kernel
theorem dX7_isFigure_0 : decode cX7_isFigure 0 = .ok (.aload_n 0, 1) := by decide +kernel
theorem dX7_isFigure_1 : decode cX7_isFigure 1 = .ok (.getfield 190, 3) := by decide +kernel
theorem dX7_isFigure_4 : decode cX7_isFigure 4 = .ok (.aload_n 0, 1) := by decide +kernel
theorem dX7_isFigure_5 : decode cX7_isFigure 5 = .ok (.getfield 176, 3) := by decide +kernel
theorem dX7_isFigure_8 : decode cX7_isFigure 8 = .ok (.if_icmp .ge 26, 3) := by decide +kernel
theorem dX7_isFigure_11 : decode cX7_isFigure 11 = .ok (.aload_n 0, 1) := by decide +kernel
theorem dX7_isFigure_12 : decode cX7_isFigure 12 = .ok (.getfield 32, 3) := by decide +kernel
theorem dX7_isFigure_15 : decode cX7_isFigure 15 = .ok (.aload_n 0, 1) := by decide +kernel
theorem dX7_isFigure_16 : decode cX7_isFigure 16 = .ok (.getfield 190, 3) := by decide +kernel
theorem dX7_isFigure_19 : decode cX7_isFigure 19 = .ok (.iaload, 1) := by decide +kernel
theorem dX7_isFigure_20 : decode cX7_isFigure 20 = .ok (.bipush 48, 2) := by decide +kernel
theorem dX7_isFigure_22 : decode cX7_isFigure 22 = .ok (.bipush 57, 2) := by decide +kernel
theorem dX7_isFigure_24 : decode cX7_isFigure 24 = .ok (.invokestatic 63, 3) := by decide +kernel
theorem dX7_isFigure_27 : decode cX7_isFigure 27 = .ok (.ifCond .eq 7, 3) := by decide +kernel
theorem dX7_isFigure_30 : decode cX7_isFigure 30 = .ok (.iconst 1, 1) := by decide +kernel
theorem dX7_isFigure_31 : decode cX7_isFigure 31 = .ok (.goto 4, 3) := by decide +kernel
theorem dX7_isFigure_34 : decode cX7_isFigure 34 = .ok (.iconst 0, 1) := by decide +kernel
theorem dX7_isFigure_35 : decode cX7_isFigure 35 = .ok (.ireturn, 1) := by decide +kernel
theorem dX7_isWordFrom_0 : decode cX7_isWordFrom 0 = .ok (.aload_n 0, 1) := by decide +kernel
theorem dX7_isWordFrom_1 : decode cX7_isWordFrom 1 = .ok (.getfield 190, 3) := by decide +kernel
theorem dX7_isWordFrom_4 : decode cX7_isWordFrom 4 = .ok (.iload_n 1, 1) := by decide +kernel
theorem dX7_isWordFrom_5 : decode cX7_isWordFrom 5 = .ok (.isub, 1) := by decide +kernel
theorem dX7_isWordFrom_6 : decode cX7_isWordFrom 6 = .ok (.aload_n 2, 1) := by decide +kernel
theorem dX7_isWordFrom_7 : decode cX7_isWordFrom 7 = .ok (.invokevirtual 193, 3) := by decide +kernel
theorem dX7_isWordFrom_10 : decode cX7_isWordFrom 10 = .ok (.if_icmp .eq 5, 3) := by decide +kernel
theorem dX7_isWordFrom_13 : decode cX7_isWordFrom 13 = .ok (.iconst 0, 1) := by decide +kernel
theorem dX7_isWordFrom_14 : decode cX7_isWordFrom 14 = .ok (.ireturn, 1) := by decide +kernel
theorem dX7_isWordFrom_15 : decode cX7_isWordFrom 15 = .ok (.iconst 0, 1) := by decide +kernel
theorem dX7_isWordFrom_16 : decode cX7_isWordFrom 16 = .ok (.istore_n 3, 1) := by decide +kernel
theorem dX7_isWordFrom_17 : decode cX7_isWordFrom 17 = .ok (.iload_n 3, 1) := by decide +kernel
theorem dX7_isWordFrom_18 : decode cX7_isWordFrom 18 = .ok (.aload_n 2, 1) := by decide +kernel
theorem dX7_isWordFrom_19 : decode cX7_isWordFrom 19 = .ok (.invokevirtual 193, 3) := by decide +kernel
theorem dX7_isWordFrom_22 : decode cX7_isWordFrom 22 = .ok (.if_icmp .ge 27, 3) := by decide +kernel
theorem dX7_isWordFrom_25 : decode cX7_isWordFrom 25 = .ok (.aload_n 0, 1) := by decide +kernel
theorem dX7_isWordFrom_26 : decode cX7_isWordFrom 26 = .ok (.getfield 32, 3) := by decide +kernel
theorem dX7_isWordFrom_29 : decode cX7_isWordFrom 29 = .ok (.iload_n 1, 1) := by decide +kernel
theorem dX7_isWordFrom_30 : decode cX7_isWordFrom 30 = .ok (.iload_n 3, 1) := by decide +kernel
theorem dX7_isWordFrom_31 : decode cX7_isWordFrom 31 = .ok (.iadd, 1) := by decide +kernel
theorem dX7_isWordFrom_32 : decode cX7_isWordFrom 32 = .ok (.iaload, 1) := by decide +kernel
theorem dX7_isWordFrom_33 : decode cX7_isWordFrom 33 = .ok (.aload_n 2, 1) := by decide +kernel
theorem dX7_isWordFrom_34 : decode cX7_isWordFrom 34 = .ok (.iload_n 3, 1) := by decide +kernel
theorem dX7_isWordFrom_35 : decode cX7_isWordFrom 35 = .ok (.invokevirtual 198, 3) := by decide +kernel
theorem dX7_isWordFrom_38 : decode cX7_isWordFrom 38 = .ok (.if_icmp .eq 5, 3) := by decide +kernel
theorem dX7_isWordFrom_41 : decode cX7_isWordFrom 41 = .ok (.iconst 0, 1) := by decide +kernel
theorem dX7_isWordFrom_42 : decode cX7_isWordFrom 42 = .ok (.ireturn, 1) := by decide +kernel
theorem dX7_isWordFrom_43 : decode cX7_isWordFrom 43 = .ok (.iinc 3 1, 3) := by decide +kernel
theorem dX7_isWordFrom_46 : decode cX7_isWordFrom 46 = .ok (.goto (-29), 3) := by decide +kernel
theorem dX7_isWordFrom_49 : decode cX7_isWordFrom 49 = .ok (.iconst 1, 1) := by decide +kernel
theorem dX7_isWordFrom_50 : decode cX7_isWordFrom 50 = .ok (.ireturn, 1) := by decide +kernel
theorem dX7_readWord_0 : decode cX7_readWord 0 = .ok (.aload_n 0, 1) := by decide +kernel
theorem dX7_readWord_1 : decode cX7_readWord 1 = .ok (.getfield 190, 3) := by decide +kernel
theorem dX7_readWord_4 : decode cX7_readWord 4 = .ok (.istore_n 1, 1) := by decide +kernel
theorem dX7_readWord_5 : decode cX7_readWord 5 = .ok (.aload_n 0, 1) := by decide +kernel
theorem dX7_readWord_6 : decode cX7_readWord 6 = .ok (.getfield 190, 3) := by decide +kernel
theorem dX7_readWord_9 : decode cX7_readWord 9 = .ok (.aload_n 0, 1) := by decide +kernel
theorem dX7_readWord_10 : decode cX7_readWord 10 = .ok (.getfield 176, 3) := by decide +kernel
theorem dX7_readWord_13 : decode cX7_readWord 13 = .ok (.if_icmp .ge 35, 3) := by decide +kernel
theorem dX7_readWord_16 : decode cX7_readWord 16 = .ok (.aload_n 0, 1) := by decide +kernel
theorem dX7_readWord_17 : decode cX7_readWord 17 = .ok (.getfield 32, 3) := by decide +kernel
theorem dX7_readWord_20 : decode cX7_readWord 20 = .ok (.aload_n 0, 1) := by decide +kernel
theorem dX7_readWord_21 : decode cX7_readWord 21 = .ok (.getfield 190, 3) := by decide +kernel
theorem dX7_readWord_24 : decode cX7_readWord 24 = .ok (.iaload, 1) := by decide +kernel
theorem dX7_readWord_25 : decode cX7_readWord 25 = .ok (.bipush 97, 2) := by decide +kernel
theorem dX7_readWord_27 : decode cX7_readWord 27 = .ok (.bipush 122, 2) := by decide +kernel
theorem dX7_readWord_29 : decode cX7_readWord 29 = .ok (.invokestatic 63, 3) := by decide +kernel
theorem dX7_readWord_32 : decode cX7_readWord 32 = .ok (.ifCond .eq 16, 3) := by decide +kernel
theorem dX7_readWord_35 : decode cX7_readWord 35 = .ok (.aload_n 0, 1) := by decide +kernel
theorem dX7_readWord_36 : decode cX7_readWord 36 = .ok (.dup, 1) := by decide +kernel
theorem dX7_readWord_37 : decode cX7_readWord 37 = .ok (.getfield 190, 3) := by decide +kernel
theorem dX7_readWord_40 : decode cX7_readWord 40 = .ok (.iconst 1, 1) := by decide +kernel
theorem dX7_readWord_41 : decode cX7_readWord 41 = .ok (.iadd, 1) := by decide +kernel
theorem dX7_readWord_42 : decode cX7_readWord 42 = .ok (.putfield 190, 3) := by decide +kernel
theorem dX7_readWord_45 : decode cX7_readWord 45 = .ok (.goto (-40), 3) := by decide +kernel
theorem dX7_readWord_48 : decode cX7_readWord 48 = .ok (.aload_n 0, 1) := by decide +kernel
theorem dX7_readWord_49 : decode cX7_readWord 49 = .ok (.iconst 0, 1) := by decide +kernel
theorem dX7_readWord_50 : decode cX7_readWord 50 = .ok (.putfield 202, 3) := by decide +kernel
theorem dX7_readWord_53 : decode cX7_readWord 53 = .ok (.aload_n 0, 1) := by decide +kernel
theorem dX7_readWord_54 : decode cX7_readWord 54 = .ok (.getfield 202, 3) := by decide +kernel
theorem dX7_readWord_57 : decode cX7_readWord 57 = .ok (.iconst 5, 1) := by decide +kernel
theorem dX7_readWord_58 : decode cX7_readWord 58 = .ok (.if_icmp .gt 33, 3) := by decide +kernel
theorem dX7_readWord_61 : decode cX7_readWord 61 = .ok (.aload_n 0, 1) := by decide +kernel
theorem dX7_readWord_62 : decode cX7_readWord 62 = .ok (.iload_n 1, 1) := by decide +kernel
theorem dX7_readWord_63 : decode cX7_readWord 63 = .ok (.aload_n 0, 1) := by decide +kernel
theorem dX7_readWord_64 : decode cX7_readWord 64 = .ok (.getfield 202, 3) := by decide +kernel
theorem dX7_readWord_67 : decode cX7_readWord 67 = .ok (.invokestatic 205, 3) := by decide +kernel
theorem dX7_readWord_70 : decode cX7_readWord 70 = .ok (.invokevirtual 209, 3) := by decide +kernel
theorem dX7_readWord_73 : decode cX7_readWord 73 = .ok (.ifCond .eq 5, 3) := by decide +kernel
theorem dX7_readWord_76 : decode cX7_readWord 76 = .ok (.iconst 1, 1) := by decide +kernel
theorem dX7_readWord_77 : decode cX7_readWord 77 = .ok (.ireturn, 1) := by decide +kernel
theorem dX7_readWord_78 : decode cX7_readWord 78 = .ok (.aload_n 0, 1) := by decide +kernel
theorem dX7_readWord_79 : decode cX7_readWord 79 = .ok (.dup, 1) := by decide +kernel
theorem dX7_readWord_80 : decode cX7_readWord 80 = .ok (.getfield 202, 3) := by decide +kernel
theorem dX7_readWord_83 : decode cX7_readWord 83 = .ok (.iconst 1, 1) := by decide +kernel
theorem dX7_readWord_84 : decode cX7_readWord 84 = .ok (.iadd, 1) := by decide +kernel
theorem dX7_readWord_85 : decode cX7_readWord 85 = .ok (.putfield 202, 3) := by decide +kernel
theorem dX7_readWord_88 : decode cX7_readWord 88 = .ok (.goto (-35), 3) := by decide +kernel
theorem dX7_readWord_91 : decode cX7_readWord 91 = .ok (.aload_n 0, 1) := by decide +kernel
theorem dX7_readWord_92 : decode cX7_readWord 92 = .ok (.iload_n 1, 1) := by decide +kernel
theorem dX7_readWord_93 : decode cX7_readWord 93 = .ok (.putfield 213, 3) := by decide +kernel
theorem dX7_readWord_96 : decode cX7_readWord 96 = .ok (.iconst 0, 1) := by decide +kernel
theorem dX7_readWord_97 : decode cX7_readWord 97 = .ok (.ireturn, 1) := by decide +kernel
theorem dX7_readFigure_0 : decode cX7_readFigure 0 = .ok (.aload_n 0, 1) := by decide +kernel
theorem dX7_readFigure_1 : decode cX7_readFigure 1 = .ok (.bipush 32, 2) := by decide +kernel
theorem dX7_readFigure_3 : decode cX7_readFigure 3 = .ok (.invokevirtual 216, 3) := by decide +kernel
theorem dX7_readFigure_6 : decode cX7_readFigure 6 = .ok (.ifCond .ne 13, 3) := by decide +kernel
theorem dX7_readFigure_9 : decode cX7_readFigure 9 = .ok (.aload_n 0, 1) := by decide +kernel
theorem dX7_readFigure_10 : decode cX7_readFigure 10 = .ok (.aload_n 0, 1) := by decide +kernel
theorem dX7_readFigure_11 : decode cX7_readFigure 11 = .ok (.getfield 190, 3) := by decide +kernel
theorem dX7_readFigure_14 : decode cX7_readFigure 14 = .ok (.putfield 213, 3) := by decide +kernel
theorem dX7_readFigure_17 : decode cX7_readFigure 17 = .ok (.iconst 0, 1) := by decide +kernel
theorem dX7_readFigure_18 : decode cX7_readFigure 18 = .ok (.ireturn, 1) := by decide +kernel
theorem dX7_readFigure_19 : decode cX7_readFigure 19 = .ok (.aload_n 0, 1) := by decide +kernel
theorem dX7_readFigure_20 : decode cX7_readFigure 20 = .ok (.dup, 1) := by decide +kernel
theorem dX7_readFigure_21 : decode cX7_readFigure 21 = .ok (.getfield 190, 3) := by decide +kernel
theorem dX7_readFigure_24 : decode cX7_readFigure 24 = .ok (.iconst 1, 1) := by decide +kernel
theorem dX7_readFigure_25 : decode cX7_readFigure 25 = .ok (.iadd, 1) := by decide +kernel
theorem dX7_readFigure_26 : decode cX7_readFigure 26 = .ok (.putfield 190, 3) := by decide +kernel
theorem dX7_readFigure_29 : decode cX7_readFigure 29 = .ok (.aload_n 0, 1) := by decide +kernel
theorem dX7_readFigure_30 : decode cX7_readFigure 30 = .ok (.invokevirtual 219, 3) := by decide +kernel
theorem dX7_readFigure_33 : decode cX7_readFigure 33 = .ok (.ifCond .ne 13, 3) := by decide +kernel
theorem dX7_readFigure_36 : decode cX7_readFigure 36 = .ok (.aload_n 0, 1) := by decide +kernel
theorem dX7_readFigure_37 : decode cX7_readFigure 37 = .ok (.aload_n 0, 1) := by decide +kernel
theorem dX7_readFigure_38 : decode cX7_readFigure 38 = .ok (.getfield 190, 3) := by decide +kernel
theorem dX7_readFigure_41 : decode cX7_readFigure 41 = .ok (.putfield 213, 3) := by decide +kernel
theorem dX7_readFigure_44 : decode cX7_readFigure 44 = .ok (.iconst 0, 1) := by decide +kernel
theorem dX7_readFigure_45 : decode cX7_readFigure 45 = .ok (.ireturn, 1) := by decide +kernel
theorem dX7_readFigure_46 : decode cX7_readFigure 46 = .ok (.aload_n 0, 1) := by decide +kernel
theorem dX7_readFigure_47 : decode cX7_readFigure 47 = .ok (.aload_n 0, 1) := by decide +kernel
theorem dX7_readFigure_48 : decode cX7_readFigure 48 = .ok (.getfield 32, 3) := by decide +kernel
theorem dX7_readFigure_51 : decode cX7_readFigure 51 = .ok (.aload_n 0, 1) := by decide +kernel
theorem dX7_readFigure_52 : decode cX7_readFigure 52 = .ok (.getfield 190, 3) := by decide +kernel
theorem dX7_readFigure_55 : decode cX7_readFigure 55 = .ok (.iaload, 1) := by decide +kernel
theorem dX7_readFigure_56 : decode cX7_readFigure 56 = .ok (.bipush 48, 2) := by decide +kernel
theorem dX7_readFigure_58 : decode cX7_readFigure 58 = .ok (.isub, 1) := by decide +kernel
theorem dX7_readFigure_59 : decode cX7_readFigure 59 = .ok (.putfield 222, 3) := by decide +kernel
theorem dX7_readFigure_62 : decode cX7_readFigure 62 = .ok (.aload_n 0, 1) := by decide +kernel
theorem dX7_readFigure_63 : decode cX7_readFigure 63 = .ok (.dup, 1) := by decide +kernel
theorem dX7_readFigure_64 : decode cX7_readFigure 64 = .ok (.getfield 190, 3) := by decide +kernel
theorem dX7_readFigure_67 : decode cX7_readFigure 67 = .ok (.iconst 1, 1) := by decide +kernel
theorem dX7_readFigure_68 : decode cX7_readFigure 68 = .ok (.iadd, 1) := by decide +kernel
theorem dX7_readFigure_69 : decode cX7_readFigure 69 = .ok (.putfield 190, 3) := by decide +kernel
theorem dX7_readFigure_72 : decode cX7_readFigure 72 = .ok (.iconst 1, 1) := by decide +kernel
theorem dX7_readFigure_73 : decode cX7_readFigure 73 = .ok (.ireturn, 1) := by decide +kernel
theorem dX7_readSet_0 : decode cX7_readSet 0 = .ok (.aload_n 0, 1) := by decide +kernel
theorem dX7_readSet_1 : decode cX7_readSet 1 = .ok (.iconst 0, 1) := by decide +kernel
theorem dX7_readSet_2 : decode cX7_readSet 2 = .ok (.putfield 225, 3) := by decide +kernel
theorem dX7_readSet_5 : decode cX7_readSet 5 = .ok (.aload_n 0, 1) := by decide +kernel
theorem dX7_readSet_6 : decode cX7_readSet 6 = .ok (.bipush 32, 2) := by decide +kernel
theorem dX7_readSet_8 : decode cX7_readSet 8 = .ok (.invokevirtual 216, 3) := by decide +kernel
theorem dX7_readSet_11 : decode cX7_readSet 11 = .ok (.ifCond .eq 30, 3) := by decide +kernel
theorem dX7_readSet_14 : decode cX7_readSet 14 = .ok (.aload_n 0, 1) := by decide +kernel
theorem dX7_readSet_15 : decode cX7_readSet 15 = .ok (.invokevirtual 228, 3) := by decide +kernel
theorem dX7_readSet_18 : decode cX7_readSet 18 = .ok (.ifCond .ne 5, 3) := by decide +kernel
theorem dX7_readSet_21 : decode cX7_readSet 21 = .ok (.iconst 0, 1) := by decide +kernel
theorem dX7_readSet_22 : decode cX7_readSet 22 = .ok (.ireturn, 1) := by decide +kernel
theorem dX7_readSet_23 : decode cX7_readSet 23 = .ok (.aload_n 0, 1) := by decide +kernel
theorem dX7_readSet_24 : decode cX7_readSet 24 = .ok (.dup, 1) := by decide +kernel
theorem dX7_readSet_25 : decode cX7_readSet 25 = .ok (.getfield 225, 3) := by decide +kernel
theorem dX7_readSet_28 : decode cX7_readSet 28 = .ok (.iconst 1, 1) := by decide +kernel
theorem dX7_readSet_29 : decode cX7_readSet 29 = .ok (.aload_n 0, 1) := by decide +kernel
theorem dX7_readSet_30 : decode cX7_readSet 30 = .ok (.getfield 222, 3) := by decide +kernel
theorem dX7_readSet_33 : decode cX7_readSet 33 = .ok (.ishl, 1) := by decide +kernel
theorem dX7_readSet_34 : decode cX7_readSet 34 = .ok (.ior, 1) := by decide +kernel
theorem dX7_readSet_35 : decode cX7_readSet 35 = .ok (.putfield 225, 3) := by decide +kernel
theorem dX7_readSet_38 : decode cX7_readSet 38 = .ok (.goto (-33), 3) := by decide +kernel
theorem dX7_readSet_41 : decode cX7_readSet 41 = .ok (.iconst 1, 1) := by decide +kernel
theorem dX7_readSet_42 : decode cX7_readSet 42 = .ok (.ireturn, 1) := by decide +kernel
theorem dX7_readStatement_0 : decode cX7_readStatement 0 = .ok (.aload_n 0, 1) := by decide +kernel
theorem dX7_readStatement_1 : decode cX7_readStatement 1 = .ok (.invokevirtual 231, 3) := by decide +kernel
theorem dX7_readStatement_4 : decode cX7_readStatement 4 = .ok (.ifCond .ne 5, 3) := by decide +kernel
theorem dX7_readStatement_7 : decode cX7_readStatement 7 = .ok (.iconst 0, 1) := by decide +kernel
theorem dX7_readStatement_8 : decode cX7_readStatement 8 = .ok (.ireturn, 1) := by decide +kernel
theorem dX7_readStatement_9 : decode cX7_readStatement 9 = .ok (.aload_n 0, 1) := by decide +kernel
theorem dX7_readStatement_10 : decode cX7_readStatement 10 = .ok (.getfield 202, 3) := by decide +kernel
theorem dX7_readStatement_13 : decode cX7_readStatement 13 = .ok (.iconst 4, 1) := by decide +kernel
theorem dX7_readStatement_14 : decode cX7_readStatement 14 = .ok (.if_icmp .ne 8, 3) := by decide +kernel
theorem dX7_readStatement_17 : decode cX7_readStatement 17 = .ok (.aload_n 0, 1) := by decide +kernel
theorem dX7_readStatement_18 : decode cX7_readStatement 18 = .ok (.invokevirtual 234, 3) := by decide +kernel
theorem dX7_readStatement_21 : decode cX7_readStatement 21 = .ok (.ireturn, 1) := by decide +kernel
theorem dX7_readStatement_22 : decode cX7_readStatement 22 = .ok (.aload_n 0, 1) := by decide +kernel
theorem dX7_readStatement_23 : decode cX7_readStatement 23 = .ok (.invokevirtual 228, 3) := by decide +kernel
theorem dX7_readStatement_26 : decode cX7_readStatement 26 = .ok (.ifCond .ne 5, 3) := by decide +kernel
theorem dX7_readStatement_29 : decode cX7_readStatement 29 = .ok (.iconst 0, 1) := by decide +kernel
theorem dX7_readStatement_30 : decode cX7_readStatement 30 = .ok (.ireturn, 1) := by decide +kernel
theorem dX7_readStatement_31 : decode cX7_readStatement 31 = .ok (.aload_n 0, 1) := by decide +kernel
theorem dX7_readStatement_32 : decode cX7_readStatement 32 = .ok (.aload_n 0, 1) := by decide +kernel
theorem dX7_readStatement_33 : decode cX7_readStatement 33 = .ok (.getfield 222, 3) := by decide +kernel
theorem dX7_readStatement_36 : decode cX7_readStatement 36 = .ok (.putfield 237, 3) := by decide +kernel
theorem dX7_readStatement_39 : decode cX7_readStatement 39 = .ok (.aload_n 0, 1) := by decide +kernel
theorem dX7_readStatement_40 : decode cX7_readStatement 40 = .ok (.getfield 202, 3) := by decide +kernel
theorem dX7_readStatement_43 : decode cX7_readStatement 43 = .ok (.ifCond .eq 11, 3) := by decide +kernel
theorem dX7_readStatement_46 : decode cX7_readStatement 46 = .ok (.aload_n 0, 1) := by decide +kernel
theorem dX7_readStatement_47 : decode cX7_readStatement 47 = .ok (.getfield 202, 3) := by decide +kernel
theorem dX7_readStatement_50 : decode cX7_readStatement 50 = .ok (.iconst 3, 1) := by decide +kernel
theorem dX7_readStatement_51 : decode cX7_readStatement 51 = .ok (.if_icmp .ne 5, 3) := by decide +kernel
theorem dX7_readStatement_54 : decode cX7_readStatement 54 = .ok (.iconst 1, 1) := by decide +kernel
theorem dX7_readStatement_55 : decode cX7_readStatement 55 = .ok (.ireturn, 1) := by decide +kernel
theorem dX7_readStatement_56 : decode cX7_readStatement 56 = .ok (.aload_n 0, 1) := by decide +kernel
theorem dX7_readStatement_57 : decode cX7_readStatement 57 = .ok (.invokevirtual 228, 3) := by decide +kernel
theorem dX7_readStatement_60 : decode cX7_readStatement 60 = .ok (.ifCond .ne 5, 3) := by decide +kernel
theorem dX7_readStatement_63 : decode cX7_readStatement 63 = .ok (.iconst 0, 1) := by decide +kernel
theorem dX7_readStatement_64 : decode cX7_readStatement 64 = .ok (.ireturn, 1) := by decide +kernel
theorem dX7_readStatement_65 : decode cX7_readStatement 65 = .ok (.aload_n 0, 1) := by decide +kernel
theorem dX7_readStatement_66 : decode cX7_readStatement 66 = .ok (.aload_n 0, 1) := by decide +kernel
theorem dX7_readStatement_67 : decode cX7_readStatement 67 = .ok (.getfield 222, 3) := by decide +kernel
theorem dX7_readStatement_70 : decode cX7_readStatement 70 = .ok (.putfield 240, 3) := by decide +kernel
theorem dX7_readStatement_73 : decode cX7_readStatement 73 = .ok (.aload_n 0, 1) := by decide +kernel
theorem dX7_readStatement_74 : decode cX7_readStatement 74 = .ok (.getfield 202, 3) := by decide +kernel
theorem dX7_readStatement_77 : decode cX7_readStatement 77 = .ok (.iconst 5, 1) := by decide +kernel
theorem dX7_readStatement_78 : decode cX7_readStatement 78 = .ok (.if_icmp .ne 44, 3) := by decide +kernel
theorem dX7_readStatement_81 : decode cX7_readStatement 81 = .ok (.aload_n 0, 1) := by decide +kernel
theorem dX7_readStatement_82 : decode cX7_readStatement 82 = .ok (.invokevirtual 219, 3) := by decide +kernel
theorem dX7_readStatement_85 : decode cX7_readStatement 85 = .ok (.ifCond .eq 37, 3) := by decide +kernel
theorem dX7_readStatement_88 : decode cX7_readStatement 88 = .ok (.aload_n 0, 1) := by decide +kernel
theorem dX7_readStatement_89 : decode cX7_readStatement 89 = .ok (.bipush 10, 2) := by decide +kernel
theorem dX7_readStatement_91 : decode cX7_readStatement 91 = .ok (.aload_n 0, 1) := by decide +kernel
theorem dX7_readStatement_92 : decode cX7_readStatement 92 = .ok (.getfield 240, 3) := by decide +kernel
theorem dX7_readStatement_95 : decode cX7_readStatement 95 = .ok (.imul, 1) := by decide +kernel
theorem dX7_readStatement_96 : decode cX7_readStatement 96 = .ok (.aload_n 0, 1) := by decide +kernel
theorem dX7_readStatement_97 : decode cX7_readStatement 97 = .ok (.getfield 32, 3) := by decide +kernel
theorem dX7_readStatement_100 : decode cX7_readStatement 100 = .ok (.aload_n 0, 1) := by decide +kernel
theorem dX7_readStatement_101 : decode cX7_readStatement 101 = .ok (.getfield 190, 3) := by decide +kernel
theorem dX7_readStatement_104 : decode cX7_readStatement 104 = .ok (.iaload, 1) := by decide +kernel
theorem dX7_readStatement_105 : decode cX7_readStatement 105 = .ok (.iadd, 1) := by decide +kernel
theorem dX7_readStatement_106 : decode cX7_readStatement 106 = .ok (.bipush 48, 2) := by decide +kernel
theorem dX7_readStatement_108 : decode cX7_readStatement 108 = .ok (.isub, 1) := by decide +kernel
theorem dX7_readStatement_109 : decode cX7_readStatement 109 = .ok (.putfield 240, 3) := by decide +kernel
theorem dX7_readStatement_112 : decode cX7_readStatement 112 = .ok (.aload_n 0, 1) := by decide +kernel
theorem dX7_readStatement_113 : decode cX7_readStatement 113 = .ok (.dup, 1) := by decide +kernel
theorem dX7_readStatement_114 : decode cX7_readStatement 114 = .ok (.getfield 190, 3) := by decide +kernel
theorem dX7_readStatement_117 : decode cX7_readStatement 117 = .ok (.iconst 1, 1) := by decide +kernel
theorem dX7_readStatement_118 : decode cX7_readStatement 118 = .ok (.iadd, 1) := by decide +kernel
theorem dX7_readStatement_119 : decode cX7_readStatement 119 = .ok (.putfield 190, 3) := by decide +kernel
theorem dX7_readStatement_122 : decode cX7_readStatement 122 = .ok (.iconst 1, 1) := by decide +kernel
theorem dX7_readStatement_123 : decode cX7_readStatement 123 = .ok (.ireturn, 1) := by decide +kernel
theorem dX7_isDone_0 : decode cX7_isDone 0 = .ok (.aload_n 0, 1) := by decide +kernel
theorem dX7_isDone_1 : decode cX7_isDone 1 = .ok (.getfield 202, 3) := by decide +kernel
theorem dX7_isDone_4 : decode cX7_isDone 4 = .ok (.tableswitch 149 0 4 #[36, 53, 75, 97, 132], 36) := by decide +kernel
theorem dX7_isDone_40 : decode cX7_isDone 40 = .ok (.aload_n 0, 1) := by decide +kernel
theorem dX7_isDone_41 : decode cX7_isDone 41 = .ok (.aload_n 0, 1) := by decide +kernel
theorem dX7_isDone_42 : decode cX7_isDone 42 = .ok (.getfield 237, 3) := by decide +kernel
theorem dX7_isDone_45 : decode cX7_isDone 45 = .ok (.invokevirtual 243, 3) := by decide +kernel
theorem dX7_isDone_48 : decode cX7_isDone 48 = .ok (.ifCond .lt 7, 3) := by decide +kernel
theorem dX7_isDone_51 : decode cX7_isDone 51 = .ok (.iconst 1, 1) := by decide +kernel
theorem dX7_isDone_52 : decode cX7_isDone 52 = .ok (.goto 4, 3) := by decide +kernel
theorem dX7_isDone_55 : decode cX7_isDone 55 = .ok (.iconst 0, 1) := by decide +kernel
theorem dX7_isDone_56 : decode cX7_isDone 56 = .ok (.ireturn, 1) := by decide +kernel
theorem dX7_isDone_57 : decode cX7_isDone 57 = .ok (.aload_n 0, 1) := by decide +kernel
theorem dX7_isDone_58 : decode cX7_isDone 58 = .ok (.aload_n 0, 1) := by decide +kernel
theorem dX7_isDone_59 : decode cX7_isDone 59 = .ok (.getfield 237, 3) := by decide +kernel
theorem dX7_isDone_62 : decode cX7_isDone 62 = .ok (.aload_n 0, 1) := by decide +kernel
theorem dX7_isDone_63 : decode cX7_isDone 63 = .ok (.getfield 240, 3) := by decide +kernel
theorem dX7_isDone_66 : decode cX7_isDone 66 = .ok (.iconst 1, 1) := by decide +kernel
theorem dX7_isDone_67 : decode cX7_isDone 67 = .ok (.invokevirtual 245, 3) := by decide +kernel
theorem dX7_isDone_70 : decode cX7_isDone 70 = .ok (.ifCond .lt 7, 3) := by decide +kernel
theorem dX7_isDone_73 : decode cX7_isDone 73 = .ok (.iconst 1, 1) := by decide +kernel
theorem dX7_isDone_74 : decode cX7_isDone 74 = .ok (.goto 4, 3) := by decide +kernel
theorem dX7_isDone_77 : decode cX7_isDone 77 = .ok (.iconst 0, 1) := by decide +kernel
theorem dX7_isDone_78 : decode cX7_isDone 78 = .ok (.ireturn, 1) := by decide +kernel
theorem dX7_isDone_79 : decode cX7_isDone 79 = .ok (.aload_n 0, 1) := by decide +kernel
theorem dX7_isDone_80 : decode cX7_isDone 80 = .ok (.aload_n 0, 1) := by decide +kernel
theorem dX7_isDone_81 : decode cX7_isDone 81 = .ok (.getfield 237, 3) := by decide +kernel
theorem dX7_isDone_84 : decode cX7_isDone 84 = .ok (.aload_n 0, 1) := by decide +kernel
theorem dX7_isDone_85 : decode cX7_isDone 85 = .ok (.getfield 240, 3) := by decide +kernel
theorem dX7_isDone_88 : decode cX7_isDone 88 = .ok (.iconst 0, 1) := by decide +kernel
theorem dX7_isDone_89 : decode cX7_isDone 89 = .ok (.invokevirtual 245, 3) := by decide +kernel
theorem dX7_isDone_92 : decode cX7_isDone 92 = .ok (.ifCond .lt 7, 3) := by decide +kernel
theorem dX7_isDone_95 : decode cX7_isDone 95 = .ok (.iconst 1, 1) := by decide +kernel
theorem dX7_isDone_96 : decode cX7_isDone 96 = .ok (.goto 4, 3) := by decide +kernel
theorem dX7_isDone_99 : decode cX7_isDone 99 = .ok (.iconst 0, 1) := by decide +kernel
theorem dX7_isDone_100 : decode cX7_isDone 100 = .ok (.ireturn, 1) := by decide +kernel
theorem dX7_isDone_101 : decode cX7_isDone 101 = .ok (.aload_n 0, 1) := by decide +kernel
theorem dX7_isDone_102 : decode cX7_isDone 102 = .ok (.aload_n 0, 1) := by decide +kernel
theorem dX7_isDone_103 : decode cX7_isDone 103 = .ok (.getfield 237, 3) := by decide +kernel
theorem dX7_isDone_106 : decode cX7_isDone 106 = .ok (.invokevirtual 119, 3) := by decide +kernel
theorem dX7_isDone_109 : decode cX7_isDone 109 = .ok (.ifCond .eq 25, 3) := by decide +kernel
theorem dX7_isDone_112 : decode cX7_isDone 112 = .ok (.aload_n 0, 1) := by decide +kernel
theorem dX7_isDone_113 : decode cX7_isDone 113 = .ok (.aload_n 0, 1) := by decide +kernel
theorem dX7_isDone_114 : decode cX7_isDone 114 = .ok (.getfield 74, 3) := by decide +kernel
theorem dX7_isDone_117 : decode cX7_isDone 117 = .ok (.iconst 1, 1) := by decide +kernel
theorem dX7_isDone_118 : decode cX7_isDone 118 = .ok (.aload_n 0, 1) := by decide +kernel
theorem dX7_isDone_119 : decode cX7_isDone 119 = .ok (.getfield 237, 3) := by decide +kernel
theorem dX7_isDone_122 : decode cX7_isDone 122 = .ok (.ishl, 1) := by decide +kernel
theorem dX7_isDone_123 : decode cX7_isDone 123 = .ok (.ior, 1) := by decide +kernel
theorem dX7_isDone_124 : decode cX7_isDone 124 = .ok (.invokevirtual 247, 3) := by decide +kernel
theorem dX7_isDone_127 : decode cX7_isDone 127 = .ok (.ifCond .lt 7, 3) := by decide +kernel
theorem dX7_isDone_130 : decode cX7_isDone 130 = .ok (.iconst 1, 1) := by decide +kernel
theorem dX7_isDone_131 : decode cX7_isDone 131 = .ok (.goto 4, 3) := by decide +kernel
theorem dX7_isDone_134 : decode cX7_isDone 134 = .ok (.iconst 0, 1) := by decide +kernel
theorem dX7_isDone_135 : decode cX7_isDone 135 = .ok (.ireturn, 1) := by decide +kernel
theorem dX7_isDone_136 : decode cX7_isDone 136 = .ok (.aload_n 0, 1) := by decide +kernel
theorem dX7_isDone_137 : decode cX7_isDone 137 = .ok (.aload_n 0, 1) := by decide +kernel
theorem dX7_isDone_138 : decode cX7_isDone 138 = .ok (.getfield 225, 3) := by decide +kernel
theorem dX7_isDone_141 : decode cX7_isDone 141 = .ok (.invokevirtual 249, 3) := by decide +kernel
theorem dX7_isDone_144 : decode cX7_isDone 144 = .ok (.ifCond .lt 7, 3) := by decide +kernel
theorem dX7_isDone_147 : decode cX7_isDone 147 = .ok (.iconst 1, 1) := by decide +kernel
theorem dX7_isDone_148 : decode cX7_isDone 148 = .ok (.goto 4, 3) := by decide +kernel
theorem dX7_isDone_151 : decode cX7_isDone 151 = .ok (.iconst 0, 1) := by decide +kernel
theorem dX7_isDone_152 : decode cX7_isDone 152 = .ok (.ireturn, 1) := by decide +kernel
theorem dX7_isDone_153 : decode cX7_isDone 153 = .ok (.aload_n 0, 1) := by decide +kernel
theorem dX7_isDone_154 : decode cX7_isDone 154 = .ok (.aload_n 0, 1) := by decide +kernel
theorem dX7_isDone_155 : decode cX7_isDone 155 = .ok (.getfield 237, 3) := by decide +kernel
theorem dX7_isDone_158 : decode cX7_isDone 158 = .ok (.aload_n 0, 1) := by decide +kernel
theorem dX7_isDone_159 : decode cX7_isDone 159 = .ok (.getfield 240, 3) := by decide +kernel
theorem dX7_isDone_162 : decode cX7_isDone 162 = .ok (.invokevirtual 252, 3) := by decide +kernel
theorem dX7_isDone_165 : decode cX7_isDone 165 = .ok (.ifCond .lt 7, 3) := by decide +kernel
theorem dX7_isDone_168 : decode cX7_isDone 168 = .ok (.iconst 1, 1) := by decide +kernel
theorem dX7_isDone_169 : decode cX7_isDone 169 = .ok (.goto 4, 3) := by decide +kernel
theorem dX7_isDone_172 : decode cX7_isDone 172 = .ok (.iconst 0, 1) := by decide +kernel
theorem dX7_isDone_173 : decode cX7_isDone 173 = .ok (.ireturn, 1) := by decide +kernel
theorem dX7_reads_0 : decode cX7_reads 0 = .ok (.aload_n 0, 1) := by decide +kernel
theorem dX7_reads_1 : decode cX7_reads 1 = .ok (.iconst 0, 1) := by decide +kernel
theorem dX7_reads_2 : decode cX7_reads 2 = .ok (.putfield 190, 3) := by decide +kernel
theorem dX7_reads_5 : decode cX7_reads 5 = .ok (.iconst 0, 1) := by decide +kernel
theorem dX7_reads_6 : decode cX7_reads 6 = .ok (.istore_n 2, 1) := by decide +kernel
theorem dX7_reads_7 : decode cX7_reads 7 = .ok (.aload_n 0, 1) := by decide +kernel
theorem dX7_reads_8 : decode cX7_reads 8 = .ok (.invokevirtual 254, 3) := by decide +kernel
theorem dX7_reads_11 : decode cX7_reads 11 = .ok (.ifCond .ne 11, 3) := by decide +kernel
theorem dX7_reads_14 : decode cX7_reads 14 = .ok (.bipush (-100), 2) := by decide +kernel
theorem dX7_reads_16 : decode cX7_reads 16 = .ok (.aload_n 0, 1) := by decide +kernel
theorem dX7_reads_17 : decode cX7_reads 17 = .ok (.getfield 213, 3) := by decide +kernel
theorem dX7_reads_20 : decode cX7_reads 20 = .ok (.isub, 1) := by decide +kernel
theorem dX7_reads_21 : decode cX7_reads 21 = .ok (.ireturn, 1) := by decide +kernel
theorem dX7_reads_22 : decode cX7_reads 22 = .ok (.iload_n 1, 1) := by decide +kernel
theorem dX7_reads_23 : decode cX7_reads 23 = .ok (.ifCond .eq 16, 3) := by decide +kernel
theorem dX7_reads_26 : decode cX7_reads 26 = .ok (.aload_n 0, 1) := by decide +kernel
theorem dX7_reads_27 : decode cX7_reads 27 = .ok (.invokevirtual 257, 3) := by decide +kernel
theorem dX7_reads_30 : decode cX7_reads 30 = .ok (.ifCond .ne 9, 3) := by decide +kernel
theorem dX7_reads_33 : decode cX7_reads 33 = .ok (.sipush (-300), 3) := by decide +kernel
theorem dX7_reads_36 : decode cX7_reads 36 = .ok (.iload_n 2, 1) := by decide +kernel
theorem dX7_reads_37 : decode cX7_reads 37 = .ok (.isub, 1) := by decide +kernel
theorem dX7_reads_38 : decode cX7_reads 38 = .ok (.ireturn, 1) := by decide +kernel
theorem dX7_reads_39 : decode cX7_reads 39 = .ok (.iinc 2 1, 3) := by decide +kernel
theorem dX7_reads_42 : decode cX7_reads 42 = .ok (.aload_n 0, 1) := by decide +kernel
theorem dX7_reads_43 : decode cX7_reads 43 = .ok (.getfield 190, 3) := by decide +kernel
theorem dX7_reads_46 : decode cX7_reads 46 = .ok (.aload_n 0, 1) := by decide +kernel
theorem dX7_reads_47 : decode cX7_reads 47 = .ok (.getfield 176, 3) := by decide +kernel
theorem dX7_reads_50 : decode cX7_reads 50 = .ok (.if_icmp .ne 5, 3) := by decide +kernel
theorem dX7_reads_53 : decode cX7_reads 53 = .ok (.iload_n 2, 1) := by decide +kernel
theorem dX7_reads_54 : decode cX7_reads 54 = .ok (.ireturn, 1) := by decide +kernel
theorem dX7_reads_55 : decode cX7_reads 55 = .ok (.aload_n 0, 1) := by decide +kernel
theorem dX7_reads_56 : decode cX7_reads 56 = .ok (.bipush 59, 2) := by decide +kernel
theorem dX7_reads_58 : decode cX7_reads 58 = .ok (.invokevirtual 216, 3) := by decide +kernel
theorem dX7_reads_61 : decode cX7_reads 61 = .ok (.ifCond .ne 11, 3) := by decide +kernel
theorem dX7_reads_64 : decode cX7_reads 64 = .ok (.bipush (-100), 2) := by decide +kernel
theorem dX7_reads_66 : decode cX7_reads 66 = .ok (.aload_n 0, 1) := by decide +kernel
theorem dX7_reads_67 : decode cX7_reads 67 = .ok (.getfield 190, 3) := by decide +kernel
theorem dX7_reads_70 : decode cX7_reads 70 = .ok (.isub, 1) := by decide +kernel
theorem dX7_reads_71 : decode cX7_reads 71 = .ok (.ireturn, 1) := by decide +kernel
theorem dX7_reads_72 : decode cX7_reads 72 = .ok (.aload_n 0, 1) := by decide +kernel
theorem dX7_reads_73 : decode cX7_reads 73 = .ok (.dup, 1) := by decide +kernel
theorem dX7_reads_74 : decode cX7_reads 74 = .ok (.getfield 190, 3) := by decide +kernel
theorem dX7_reads_77 : decode cX7_reads 77 = .ok (.iconst 1, 1) := by decide +kernel
theorem dX7_reads_78 : decode cX7_reads 78 = .ok (.iadd, 1) := by decide +kernel
theorem dX7_reads_79 : decode cX7_reads 79 = .ok (.putfield 190, 3) := by decide +kernel
theorem dX7_reads_82 : decode cX7_reads 82 = .ok (.goto (-75), 3) := by decide +kernel
theorem dX7_read_0 : decode cX7_read 0 = .ok (.aload_n 0, 1) := by decide +kernel
theorem dX7_read_1 : decode cX7_read 1 = .ok (.iconst 0, 1) := by decide +kernel
theorem dX7_read_2 : decode cX7_read 2 = .ok (.invokevirtual 260, 3) := by decide +kernel
theorem dX7_read_5 : decode cX7_read 5 = .ok (.istore_n 1, 1) := by decide +kernel
theorem dX7_read_6 : decode cX7_read 6 = .ok (.iload_n 1, 1) := by decide +kernel
theorem dX7_read_7 : decode cX7_read 7 = .ok (.ifCond .lt 9, 3) := by decide +kernel
theorem dX7_read_10 : decode cX7_read 10 = .ok (.aload_n 0, 1) := by decide +kernel
theorem dX7_read_11 : decode cX7_read 11 = .ok (.iconst 1, 1) := by decide +kernel
theorem dX7_read_12 : decode cX7_read 12 = .ok (.invokevirtual 260, 3) := by decide +kernel
theorem dX7_read_15 : decode cX7_read 15 = .ok (.istore_n 1, 1) := by decide +kernel
theorem dX7_read_16 : decode cX7_read 16 = .ok (.aload_n 0, 1) := by decide +kernel
theorem dX7_read_17 : decode cX7_read 17 = .ok (.iconst 0, 1) := by decide +kernel
theorem dX7_read_18 : decode cX7_read 18 = .ok (.putfield 176, 3) := by decide +kernel
theorem dX7_read_21 : decode cX7_read 21 = .ok (.iload_n 1, 1) := by decide +kernel
theorem dX7_read_22 : decode cX7_read 22 = .ok (.ireturn, 1) := by decide +kernel
theorem dX7_writes_0 : decode cX7_writes 0 = .ok (.aload_n 0, 1) := by decide +kernel
theorem dX7_writes_1 : decode cX7_writes 1 = .ok (.getfield 57, 3) := by decide +kernel
theorem dX7_writes_4 : decode cX7_writes 4 = .ok (.aload_n 0, 1) := by decide +kernel
theorem dX7_writes_5 : decode cX7_writes 5 = .ok (.getfield 264, 3) := by decide +kernel
theorem dX7_writes_8 : decode cX7_writes 8 = .ok (.iload_n 1, 1) := by decide +kernel
theorem dX7_writes_9 : decode cX7_writes 9 = .ok (.iastore, 1) := by decide +kernel
theorem dX7_writes_10 : decode cX7_writes 10 = .ok (.aload_n 0, 1) := by decide +kernel
theorem dX7_writes_11 : decode cX7_writes 11 = .ok (.dup, 1) := by decide +kernel
theorem dX7_writes_12 : decode cX7_writes 12 = .ok (.getfield 264, 3) := by decide +kernel
theorem dX7_writes_15 : decode cX7_writes 15 = .ok (.iconst 1, 1) := by decide +kernel
theorem dX7_writes_16 : decode cX7_writes 16 = .ok (.iadd, 1) := by decide +kernel
theorem dX7_writes_17 : decode cX7_writes 17 = .ok (.putfield 264, 3) := by decide +kernel
theorem dX7_writes_20 : decode cX7_writes 20 = .ok (.return_, 1) := by decide +kernel
theorem dX7_writesWord_0 : decode cX7_writesWord 0 = .ok (.aload_n 0, 1) := by decide +kernel
theorem dX7_writesWord_1 : decode cX7_writesWord 1 = .ok (.getfield 264, 3) := by decide +kernel
theorem dX7_writesWord_4 : decode cX7_writesWord 4 = .ok (.ifCond .le 9, 3) := by decide +kernel
theorem dX7_writesWord_7 : decode cX7_writesWord 7 = .ok (.aload_n 0, 1) := by decide +kernel
theorem dX7_writesWord_8 : decode cX7_writesWord 8 = .ok (.bipush 59, 2) := by decide +kernel
theorem dX7_writesWord_10 : decode cX7_writesWord 10 = .ok (.invokevirtual 267, 3) := by decide +kernel
theorem dX7_writesWord_13 : decode cX7_writesWord 13 = .ok (.iconst 0, 1) := by decide +kernel
theorem dX7_writesWord_14 : decode cX7_writesWord 14 = .ok (.istore_n 2, 1) := by decide +kernel
theorem dX7_writesWord_15 : decode cX7_writesWord 15 = .ok (.iload_n 2, 1) := by decide +kernel
theorem dX7_writesWord_16 : decode cX7_writesWord 16 = .ok (.iload_n 1, 1) := by decide +kernel
theorem dX7_writesWord_17 : decode cX7_writesWord 17 = .ok (.invokestatic 205, 3) := by decide +kernel
theorem dX7_writesWord_20 : decode cX7_writesWord 20 = .ok (.invokevirtual 193, 3) := by decide +kernel
theorem dX7_writesWord_23 : decode cX7_writesWord 23 = .ok (.if_icmp .ge 21, 3) := by decide +kernel
theorem dX7_writesWord_26 : decode cX7_writesWord 26 = .ok (.aload_n 0, 1) := by decide +kernel
theorem dX7_writesWord_27 : decode cX7_writesWord 27 = .ok (.iload_n 1, 1) := by decide +kernel
theorem dX7_writesWord_28 : decode cX7_writesWord 28 = .ok (.invokestatic 205, 3) := by decide +kernel
theorem dX7_writesWord_31 : decode cX7_writesWord 31 = .ok (.iload_n 2, 1) := by decide +kernel
theorem dX7_writesWord_32 : decode cX7_writesWord 32 = .ok (.invokevirtual 198, 3) := by decide +kernel
theorem dX7_writesWord_35 : decode cX7_writesWord 35 = .ok (.invokevirtual 267, 3) := by decide +kernel
theorem dX7_writesWord_38 : decode cX7_writesWord 38 = .ok (.iinc 2 1, 3) := by decide +kernel
theorem dX7_writesWord_41 : decode cX7_writesWord 41 = .ok (.goto (-26), 3) := by decide +kernel
theorem dX7_writesWord_44 : decode cX7_writesWord 44 = .ok (.return_, 1) := by decide +kernel
theorem dX7_writesNumber_0 : decode cX7_writesNumber 0 = .ok (.aload_n 0, 1) := by decide +kernel
theorem dX7_writesNumber_1 : decode cX7_writesNumber 1 = .ok (.bipush 32, 2) := by decide +kernel
theorem dX7_writesNumber_3 : decode cX7_writesNumber 3 = .ok (.invokevirtual 267, 3) := by decide +kernel
theorem dX7_writesNumber_6 : decode cX7_writesNumber 6 = .ok (.iload_n 1, 1) := by decide +kernel
theorem dX7_writesNumber_7 : decode cX7_writesNumber 7 = .ok (.bipush 10, 2) := by decide +kernel
theorem dX7_writesNumber_9 : decode cX7_writesNumber 9 = .ok (.if_icmp .lt 14, 3) := by decide +kernel
theorem dX7_writesNumber_12 : decode cX7_writesNumber 12 = .ok (.aload_n 0, 1) := by decide +kernel
theorem dX7_writesNumber_13 : decode cX7_writesNumber 13 = .ok (.bipush 48, 2) := by decide +kernel
theorem dX7_writesNumber_15 : decode cX7_writesNumber 15 = .ok (.iload_n 1, 1) := by decide +kernel
theorem dX7_writesNumber_16 : decode cX7_writesNumber 16 = .ok (.bipush 10, 2) := by decide +kernel
theorem dX7_writesNumber_18 : decode cX7_writesNumber 18 = .ok (.idiv, 1) := by decide +kernel
theorem dX7_writesNumber_19 : decode cX7_writesNumber 19 = .ok (.iadd, 1) := by decide +kernel
theorem dX7_writesNumber_20 : decode cX7_writesNumber 20 = .ok (.invokevirtual 267, 3) := by decide +kernel
theorem dX7_writesNumber_23 : decode cX7_writesNumber 23 = .ok (.aload_n 0, 1) := by decide +kernel
theorem dX7_writesNumber_24 : decode cX7_writesNumber 24 = .ok (.bipush 48, 2) := by decide +kernel
theorem dX7_writesNumber_26 : decode cX7_writesNumber 26 = .ok (.iload_n 1, 1) := by decide +kernel
theorem dX7_writesNumber_27 : decode cX7_writesNumber 27 = .ok (.bipush 10, 2) := by decide +kernel
theorem dX7_writesNumber_29 : decode cX7_writesNumber 29 = .ok (.irem, 1) := by decide +kernel
theorem dX7_writesNumber_30 : decode cX7_writesNumber 30 = .ok (.iadd, 1) := by decide +kernel
theorem dX7_writesNumber_31 : decode cX7_writesNumber 31 = .ok (.invokevirtual 267, 3) := by decide +kernel
theorem dX7_writesNumber_34 : decode cX7_writesNumber 34 = .ok (.return_, 1) := by decide +kernel
theorem dX7_spells_0 : decode cX7_spells 0 = .ok (.aload_n 0, 1) := by decide +kernel
theorem dX7_spells_1 : decode cX7_spells 1 = .ok (.iconst 0, 1) := by decide +kernel
theorem dX7_spells_2 : decode cX7_spells 2 = .ok (.putfield 264, 3) := by decide +kernel
theorem dX7_spells_5 : decode cX7_spells 5 = .ok (.aload_n 0, 1) := by decide +kernel
theorem dX7_spells_6 : decode cX7_spells 6 = .ok (.iconst 0, 1) := by decide +kernel
theorem dX7_spells_7 : decode cX7_spells 7 = .ok (.invokevirtual 270, 3) := by decide +kernel
theorem dX7_spells_10 : decode cX7_spells 10 = .ok (.aload_n 0, 1) := by decide +kernel
theorem dX7_spells_11 : decode cX7_spells 11 = .ok (.aload_n 0, 1) := by decide +kernel
theorem dX7_spells_12 : decode cX7_spells 12 = .ok (.getfield 7, 3) := by decide +kernel
theorem dX7_spells_15 : decode cX7_spells 15 = .ok (.invokevirtual 273, 3) := by decide +kernel
theorem dX7_spells_18 : decode cX7_spells 18 = .ok (.iconst 0, 1) := by decide +kernel
theorem dX7_spells_19 : decode cX7_spells 19 = .ok (.istore_n 1, 1) := by decide +kernel
theorem dX7_spells_20 : decode cX7_spells 20 = .ok (.iload_n 1, 1) := by decide +kernel
theorem dX7_spells_21 : decode cX7_spells 21 = .ok (.aload_n 0, 1) := by decide +kernel
theorem dX7_spells_22 : decode cX7_spells 22 = .ok (.getfield 7, 3) := by decide +kernel
theorem dX7_spells_25 : decode cX7_spells 25 = .ok (.if_icmp .ge 53, 3) := by decide +kernel
theorem dX7_spells_28 : decode cX7_spells 28 = .ok (.iconst 0, 1) := by decide +kernel
theorem dX7_spells_29 : decode cX7_spells 29 = .ok (.istore_n 2, 1) := by decide +kernel
theorem dX7_spells_30 : decode cX7_spells 30 = .ok (.iload_n 2, 1) := by decide +kernel
theorem dX7_spells_31 : decode cX7_spells 31 = .ok (.aload_n 0, 1) := by decide +kernel
theorem dX7_spells_32 : decode cX7_spells 32 = .ok (.getfield 7, 3) := by decide +kernel
theorem dX7_spells_35 : decode cX7_spells 35 = .ok (.if_icmp .ge 37, 3) := by decide +kernel
theorem dX7_spells_38 : decode cX7_spells 38 = .ok (.aload_n 0, 1) := by decide +kernel
theorem dX7_spells_39 : decode cX7_spells 39 = .ok (.getfield 13, 3) := by decide +kernel
theorem dX7_spells_42 : decode cX7_spells 42 = .ok (.iload_n 1, 1) := by decide +kernel
theorem dX7_spells_43 : decode cX7_spells 43 = .ok (.iaload, 1) := by decide +kernel
theorem dX7_spells_44 : decode cX7_spells 44 = .ok (.iload_n 2, 1) := by decide +kernel
theorem dX7_spells_45 : decode cX7_spells 45 = .ok (.invokestatic 77, 3) := by decide +kernel
theorem dX7_spells_48 : decode cX7_spells 48 = .ok (.ifCond .eq 18, 3) := by decide +kernel
theorem dX7_spells_51 : decode cX7_spells 51 = .ok (.aload_n 0, 1) := by decide +kernel
theorem dX7_spells_52 : decode cX7_spells 52 = .ok (.iconst 1, 1) := by decide +kernel
theorem dX7_spells_53 : decode cX7_spells 53 = .ok (.invokevirtual 270, 3) := by decide +kernel
theorem dX7_spells_56 : decode cX7_spells 56 = .ok (.aload_n 0, 1) := by decide +kernel
theorem dX7_spells_57 : decode cX7_spells 57 = .ok (.iload_n 1, 1) := by decide +kernel
theorem dX7_spells_58 : decode cX7_spells 58 = .ok (.invokevirtual 273, 3) := by decide +kernel
theorem dX7_spells_61 : decode cX7_spells 61 = .ok (.aload_n 0, 1) := by decide +kernel
theorem dX7_spells_62 : decode cX7_spells 62 = .ok (.iload_n 2, 1) := by decide +kernel
theorem dX7_spells_63 : decode cX7_spells 63 = .ok (.invokevirtual 273, 3) := by decide +kernel
theorem dX7_spells_66 : decode cX7_spells 66 = .ok (.iinc 2 1, 3) := by decide +kernel
theorem dX7_spells_69 : decode cX7_spells 69 = .ok (.goto (-39), 3) := by decide +kernel
theorem dX7_spells_72 : decode cX7_spells 72 = .ok (.iinc 1 1, 3) := by decide +kernel
theorem dX7_spells_75 : decode cX7_spells 75 = .ok (.goto (-55), 3) := by decide +kernel
theorem dX7_spells_78 : decode cX7_spells 78 = .ok (.iconst 0, 1) := by decide +kernel
theorem dX7_spells_79 : decode cX7_spells 79 = .ok (.istore_n 1, 1) := by decide +kernel
theorem dX7_spells_80 : decode cX7_spells 80 = .ok (.iload_n 1, 1) := by decide +kernel
theorem dX7_spells_81 : decode cX7_spells 81 = .ok (.aload_n 0, 1) := by decide +kernel
theorem dX7_spells_82 : decode cX7_spells 82 = .ok (.getfield 7, 3) := by decide +kernel
theorem dX7_spells_85 : decode cX7_spells 85 = .ok (.if_icmp .ge 30, 3) := by decide +kernel
theorem dX7_spells_88 : decode cX7_spells 88 = .ok (.aload_n 0, 1) := by decide +kernel
theorem dX7_spells_89 : decode cX7_spells 89 = .ok (.getfield 74, 3) := by decide +kernel
theorem dX7_spells_92 : decode cX7_spells 92 = .ok (.iload_n 1, 1) := by decide +kernel
theorem dX7_spells_93 : decode cX7_spells 93 = .ok (.invokestatic 77, 3) := by decide +kernel
theorem dX7_spells_96 : decode cX7_spells 96 = .ok (.ifCond .eq 13, 3) := by decide +kernel
theorem dX7_spells_99 : decode cX7_spells 99 = .ok (.aload_n 0, 1) := by decide +kernel
theorem dX7_spells_100 : decode cX7_spells 100 = .ok (.iconst 3, 1) := by decide +kernel
theorem dX7_spells_101 : decode cX7_spells 101 = .ok (.invokevirtual 270, 3) := by decide +kernel
theorem dX7_spells_104 : decode cX7_spells 104 = .ok (.aload_n 0, 1) := by decide +kernel
theorem dX7_spells_105 : decode cX7_spells 105 = .ok (.iload_n 1, 1) := by decide +kernel
theorem dX7_spells_106 : decode cX7_spells 106 = .ok (.invokevirtual 273, 3) := by decide +kernel
theorem dX7_spells_109 : decode cX7_spells 109 = .ok (.iinc 1 1, 3) := by decide +kernel
theorem dX7_spells_112 : decode cX7_spells 112 = .ok (.goto (-32), 3) := by decide +kernel
theorem dX7_spells_115 : decode cX7_spells 115 = .ok (.iconst 0, 1) := by decide +kernel
theorem dX7_spells_116 : decode cX7_spells 116 = .ok (.istore_n 1, 1) := by decide +kernel
theorem dX7_spells_117 : decode cX7_spells 117 = .ok (.iload_n 1, 1) := by decide +kernel
theorem dX7_spells_118 : decode cX7_spells 118 = .ok (.aload_n 0, 1) := by decide +kernel
theorem dX7_spells_119 : decode cX7_spells 119 = .ok (.getfield 71, 3) := by decide +kernel
theorem dX7_spells_122 : decode cX7_spells 122 = .ok (.if_icmp .ge 48, 3) := by decide +kernel
theorem dX7_spells_125 : decode cX7_spells 125 = .ok (.aload_n 0, 1) := by decide +kernel
theorem dX7_spells_126 : decode cX7_spells 126 = .ok (.iconst 4, 1) := by decide +kernel
theorem dX7_spells_127 : decode cX7_spells 127 = .ok (.invokevirtual 270, 3) := by decide +kernel
theorem dX7_spells_130 : decode cX7_spells 130 = .ok (.iconst 0, 1) := by decide +kernel
theorem dX7_spells_131 : decode cX7_spells 131 = .ok (.istore_n 2, 1) := by decide +kernel
theorem dX7_spells_132 : decode cX7_spells 132 = .ok (.iload_n 2, 1) := by decide +kernel
theorem dX7_spells_133 : decode cX7_spells 133 = .ok (.aload_n 0, 1) := by decide +kernel
theorem dX7_spells_134 : decode cX7_spells 134 = .ok (.getfield 7, 3) := by decide +kernel
theorem dX7_spells_137 : decode cX7_spells 137 = .ok (.if_icmp .ge 27, 3) := by decide +kernel
theorem dX7_spells_140 : decode cX7_spells 140 = .ok (.aload_n 0, 1) := by decide +kernel
theorem dX7_spells_141 : decode cX7_spells 141 = .ok (.getfield 20, 3) := by decide +kernel
theorem dX7_spells_144 : decode cX7_spells 144 = .ok (.iload_n 1, 1) := by decide +kernel
theorem dX7_spells_145 : decode cX7_spells 145 = .ok (.iaload, 1) := by decide +kernel
theorem dX7_spells_146 : decode cX7_spells 146 = .ok (.iload_n 2, 1) := by decide +kernel
theorem dX7_spells_147 : decode cX7_spells 147 = .ok (.invokestatic 77, 3) := by decide +kernel
theorem dX7_spells_150 : decode cX7_spells 150 = .ok (.ifCond .eq 8, 3) := by decide +kernel
theorem dX7_spells_153 : decode cX7_spells 153 = .ok (.aload_n 0, 1) := by decide +kernel
theorem dX7_spells_154 : decode cX7_spells 154 = .ok (.iload_n 2, 1) := by decide +kernel
theorem dX7_spells_155 : decode cX7_spells 155 = .ok (.invokevirtual 273, 3) := by decide +kernel
theorem dX7_spells_158 : decode cX7_spells 158 = .ok (.iinc 2 1, 3) := by decide +kernel
theorem dX7_spells_161 : decode cX7_spells 161 = .ok (.goto (-29), 3) := by decide +kernel
theorem dX7_spells_164 : decode cX7_spells 164 = .ok (.iinc 1 1, 3) := by decide +kernel
theorem dX7_spells_167 : decode cX7_spells 167 = .ok (.goto (-50), 3) := by decide +kernel
theorem dX7_spells_170 : decode cX7_spells 170 = .ok (.iconst 0, 1) := by decide +kernel
theorem dX7_spells_171 : decode cX7_spells 171 = .ok (.istore_n 1, 1) := by decide +kernel
theorem dX7_spells_172 : decode cX7_spells 172 = .ok (.iload_n 1, 1) := by decide +kernel
theorem dX7_spells_173 : decode cX7_spells 173 = .ok (.aload_n 0, 1) := by decide +kernel
theorem dX7_spells_174 : decode cX7_spells 174 = .ok (.getfield 7, 3) := by decide +kernel
theorem dX7_spells_177 : decode cX7_spells 177 = .ok (.if_icmp .ge 38, 3) := by decide +kernel
theorem dX7_spells_180 : decode cX7_spells 180 = .ok (.aload_n 0, 1) := by decide +kernel
theorem dX7_spells_181 : decode cX7_spells 181 = .ok (.getfield 17, 3) := by decide +kernel
theorem dX7_spells_184 : decode cX7_spells 184 = .ok (.iload_n 1, 1) := by decide +kernel
theorem dX7_spells_185 : decode cX7_spells 185 = .ok (.iaload, 1) := by decide +kernel
theorem dX7_spells_186 : decode cX7_spells 186 = .ok (.ifCond .le 23, 3) := by decide +kernel
theorem dX7_spells_189 : decode cX7_spells 189 = .ok (.aload_n 0, 1) := by decide +kernel
theorem dX7_spells_190 : decode cX7_spells 190 = .ok (.iconst 5, 1) := by decide +kernel
theorem dX7_spells_191 : decode cX7_spells 191 = .ok (.invokevirtual 270, 3) := by decide +kernel
theorem dX7_spells_194 : decode cX7_spells 194 = .ok (.aload_n 0, 1) := by decide +kernel
theorem dX7_spells_195 : decode cX7_spells 195 = .ok (.iload_n 1, 1) := by decide +kernel
theorem dX7_spells_196 : decode cX7_spells 196 = .ok (.invokevirtual 273, 3) := by decide +kernel
theorem dX7_spells_199 : decode cX7_spells 199 = .ok (.aload_n 0, 1) := by decide +kernel
theorem dX7_spells_200 : decode cX7_spells 200 = .ok (.aload_n 0, 1) := by decide +kernel
theorem dX7_spells_201 : decode cX7_spells 201 = .ok (.getfield 17, 3) := by decide +kernel
theorem dX7_spells_204 : decode cX7_spells 204 = .ok (.iload_n 1, 1) := by decide +kernel
theorem dX7_spells_205 : decode cX7_spells 205 = .ok (.iaload, 1) := by decide +kernel
theorem dX7_spells_206 : decode cX7_spells 206 = .ok (.invokevirtual 273, 3) := by decide +kernel
theorem dX7_spells_209 : decode cX7_spells 209 = .ok (.iinc 1 1, 3) := by decide +kernel
theorem dX7_spells_212 : decode cX7_spells 212 = .ok (.goto (-40), 3) := by decide +kernel
theorem dX7_spells_215 : decode cX7_spells 215 = .ok (.return_, 1) := by decide +kernel
theorem dX7_spelled_0 : decode cX7_spelled 0 = .ok (.aload_n 0, 1) := by decide +kernel
theorem dX7_spelled_1 : decode cX7_spelled 1 = .ok (.invokevirtual 276, 3) := by decide +kernel
theorem dX7_spelled_4 : decode cX7_spelled 4 = .ok (.iload_n 1, 1) := by decide +kernel
theorem dX7_spelled_5 : decode cX7_spelled 5 = .ok (.iconst (-1), 1) := by decide +kernel
theorem dX7_spelled_6 : decode cX7_spelled 6 = .ok (.if_icmp .ne 10, 3) := by decide +kernel
theorem dX7_spelled_9 : decode cX7_spelled 9 = .ok (.aload_n 0, 1) := by decide +kernel
theorem dX7_spelled_10 : decode cX7_spelled 10 = .ok (.getfield 264, 3) := by decide +kernel
theorem dX7_spelled_13 : decode cX7_spelled 13 = .ok (.goto 27, 3) := by decide +kernel
theorem dX7_spelled_16 : decode cX7_spelled 16 = .ok (.iload_n 1, 1) := by decide +kernel
theorem dX7_spelled_17 : decode cX7_spelled 17 = .ok (.iconst 0, 1) := by decide +kernel
theorem dX7_spelled_18 : decode cX7_spelled 18 = .ok (.aload_n 0, 1) := by decide +kernel
theorem dX7_spelled_19 : decode cX7_spelled 19 = .ok (.getfield 264, 3) := by decide +kernel
theorem dX7_spelled_22 : decode cX7_spelled 22 = .ok (.iconst 1, 1) := by decide +kernel
theorem dX7_spelled_23 : decode cX7_spelled 23 = .ok (.isub, 1) := by decide +kernel
theorem dX7_spelled_24 : decode cX7_spelled 24 = .ok (.invokestatic 63, 3) := by decide +kernel
theorem dX7_spelled_27 : decode cX7_spelled 27 = .ok (.ifCond .eq 12, 3) := by decide +kernel
theorem dX7_spelled_30 : decode cX7_spelled 30 = .ok (.aload_n 0, 1) := by decide +kernel
theorem dX7_spelled_31 : decode cX7_spelled 31 = .ok (.getfield 57, 3) := by decide +kernel
theorem dX7_spelled_34 : decode cX7_spelled 34 = .ok (.iload_n 1, 1) := by decide +kernel
theorem dX7_spelled_35 : decode cX7_spelled 35 = .ok (.iaload, 1) := by decide +kernel
theorem dX7_spelled_36 : decode cX7_spelled 36 = .ok (.goto 4, 3) := by decide +kernel
theorem dX7_spelled_39 : decode cX7_spelled 39 = .ok (.iconst (-1), 1) := by decide +kernel
theorem dX7_spelled_40 : decode cX7_spelled 40 = .ok (.ireturn, 1) := by decide +kernel
theorem dX7_image_0 : decode cX7_image 0 = .ok (.aload_n 0, 1) := by decide +kernel
theorem dX7_image_1 : decode cX7_image 1 = .ok (.iconst 1, 1) := by decide +kernel
theorem dX7_image_2 : decode cX7_image 2 = .ok (.putfield 279, 3) := by decide +kernel
theorem dX7_image_5 : decode cX7_image 5 = .ok (.iconst 0, 1) := by decide +kernel
theorem dX7_image_6 : decode cX7_image 6 = .ok (.istore_n 1, 1) := by decide +kernel
theorem dX7_image_7 : decode cX7_image 7 = .ok (.iload_n 1, 1) := by decide +kernel
theorem dX7_image_8 : decode cX7_image 8 = .ok (.bipush 8, 2) := by decide +kernel
theorem dX7_image_10 : decode cX7_image 10 = .ok (.if_icmp .ge 51, 3) := by decide +kernel
theorem dX7_image_13 : decode cX7_image 13 = .ok (.aload_n 0, 1) := by decide +kernel
theorem dX7_image_14 : decode cX7_image 14 = .ok (.getfield 60, 3) := by decide +kernel
theorem dX7_image_17 : decode cX7_image 17 = .ok (.iload_n 1, 1) := by decide +kernel
theorem dX7_image_18 : decode cX7_image 18 = .ok (.aload_n 0, 1) := by decide +kernel
theorem dX7_image_19 : decode cX7_image 19 = .ok (.getfield 13, 3) := by decide +kernel
theorem dX7_image_22 : decode cX7_image 22 = .ok (.iload_n 1, 1) := by decide +kernel
theorem dX7_image_23 : decode cX7_image 23 = .ok (.iaload, 1) := by decide +kernel
theorem dX7_image_24 : decode cX7_image 24 = .ok (.iastore, 1) := by decide +kernel
theorem dX7_image_25 : decode cX7_image 25 = .ok (.aload_n 0, 1) := by decide +kernel
theorem dX7_image_26 : decode cX7_image 26 = .ok (.getfield 60, 3) := by decide +kernel
theorem dX7_image_29 : decode cX7_image 29 = .ok (.bipush 8, 2) := by decide +kernel
theorem dX7_image_31 : decode cX7_image 31 = .ok (.iload_n 1, 1) := by decide +kernel
theorem dX7_image_32 : decode cX7_image 32 = .ok (.iadd, 1) := by decide +kernel
theorem dX7_image_33 : decode cX7_image 33 = .ok (.aload_n 0, 1) := by decide +kernel
theorem dX7_image_34 : decode cX7_image 34 = .ok (.getfield 17, 3) := by decide +kernel
theorem dX7_image_37 : decode cX7_image 37 = .ok (.iload_n 1, 1) := by decide +kernel
theorem dX7_image_38 : decode cX7_image 38 = .ok (.iaload, 1) := by decide +kernel
theorem dX7_image_39 : decode cX7_image 39 = .ok (.iastore, 1) := by decide +kernel
theorem dX7_image_40 : decode cX7_image 40 = .ok (.aload_n 0, 1) := by decide +kernel
theorem dX7_image_41 : decode cX7_image 41 = .ok (.getfield 60, 3) := by decide +kernel
theorem dX7_image_44 : decode cX7_image 44 = .ok (.bipush 16, 2) := by decide +kernel
theorem dX7_image_46 : decode cX7_image 46 = .ok (.iload_n 1, 1) := by decide +kernel
theorem dX7_image_47 : decode cX7_image 47 = .ok (.iadd, 1) := by decide +kernel
theorem dX7_image_48 : decode cX7_image 48 = .ok (.aload_n 0, 1) := by decide +kernel
theorem dX7_image_49 : decode cX7_image 49 = .ok (.getfield 20, 3) := by decide +kernel
theorem dX7_image_52 : decode cX7_image 52 = .ok (.iload_n 1, 1) := by decide +kernel
theorem dX7_image_53 : decode cX7_image 53 = .ok (.iaload, 1) := by decide +kernel
theorem dX7_image_54 : decode cX7_image 54 = .ok (.iastore, 1) := by decide +kernel
theorem dX7_image_55 : decode cX7_image 55 = .ok (.iinc 1 1, 3) := by decide +kernel
theorem dX7_image_58 : decode cX7_image 58 = .ok (.goto (-51), 3) := by decide +kernel
theorem dX7_image_61 : decode cX7_image 61 = .ok (.aload_n 0, 1) := by decide +kernel
theorem dX7_image_62 : decode cX7_image 62 = .ok (.getfield 60, 3) := by decide +kernel
theorem dX7_image_65 : decode cX7_image 65 = .ok (.bipush 24, 2) := by decide +kernel
theorem dX7_image_67 : decode cX7_image 67 = .ok (.aload_n 0, 1) := by decide +kernel
theorem dX7_image_68 : decode cX7_image 68 = .ok (.getfield 7, 3) := by decide +kernel
theorem dX7_image_71 : decode cX7_image 71 = .ok (.iastore, 1) := by decide +kernel
theorem dX7_image_72 : decode cX7_image 72 = .ok (.aload_n 0, 1) := by decide +kernel
theorem dX7_image_73 : decode cX7_image 73 = .ok (.getfield 60, 3) := by decide +kernel
theorem dX7_image_76 : decode cX7_image 76 = .ok (.bipush 25, 2) := by decide +kernel
theorem dX7_image_78 : decode cX7_image 78 = .ok (.aload_n 0, 1) := by decide +kernel
theorem dX7_image_79 : decode cX7_image 79 = .ok (.getfield 74, 3) := by decide +kernel
theorem dX7_image_82 : decode cX7_image 82 = .ok (.iastore, 1) := by decide +kernel
theorem dX7_image_83 : decode cX7_image 83 = .ok (.aload_n 0, 1) := by decide +kernel
theorem dX7_image_84 : decode cX7_image 84 = .ok (.getfield 60, 3) := by decide +kernel
theorem dX7_image_87 : decode cX7_image 87 = .ok (.bipush 26, 2) := by decide +kernel
theorem dX7_image_89 : decode cX7_image 89 = .ok (.aload_n 0, 1) := by decide +kernel
theorem dX7_image_90 : decode cX7_image 90 = .ok (.getfield 71, 3) := by decide +kernel
theorem dX7_image_93 : decode cX7_image 93 = .ok (.iastore, 1) := by decide +kernel
theorem dX7_image_94 : decode cX7_image 94 = .ok (.aload_n 0, 1) := by decide +kernel
theorem dX7_image_95 : decode cX7_image 95 = .ok (.getfield 7, 3) := by decide +kernel
theorem dX7_image_98 : decode cX7_image 98 = .ok (.ireturn, 1) := by decide +kernel
theorem dX7_undo_0 : decode cX7_undo 0 = .ok (.aload_n 0, 1) := by decide +kernel
theorem dX7_undo_1 : decode cX7_undo 1 = .ok (.getfield 279, 3) := by decide +kernel
theorem dX7_undo_4 : decode cX7_undo 4 = .ok (.ifCond .ne 6, 3) := by decide +kernel
theorem dX7_undo_7 : decode cX7_undo 7 = .ok (.bipush (-3), 2) := by decide +kernel
theorem dX7_undo_9 : decode cX7_undo 9 = .ok (.ireturn, 1) := by decide +kernel
theorem dX7_undo_10 : decode cX7_undo 10 = .ok (.iconst 0, 1) := by decide +kernel
theorem dX7_undo_11 : decode cX7_undo 11 = .ok (.istore_n 1, 1) := by decide +kernel
theorem dX7_undo_12 : decode cX7_undo 12 = .ok (.iload_n 1, 1) := by decide +kernel
theorem dX7_undo_13 : decode cX7_undo 13 = .ok (.bipush 8, 2) := by decide +kernel
theorem dX7_undo_15 : decode cX7_undo 15 = .ok (.if_icmp .ge 51, 3) := by decide +kernel
theorem dX7_undo_18 : decode cX7_undo 18 = .ok (.aload_n 0, 1) := by decide +kernel
theorem dX7_undo_19 : decode cX7_undo 19 = .ok (.getfield 13, 3) := by decide +kernel
theorem dX7_undo_22 : decode cX7_undo 22 = .ok (.iload_n 1, 1) := by decide +kernel
theorem dX7_undo_23 : decode cX7_undo 23 = .ok (.aload_n 0, 1) := by decide +kernel
theorem dX7_undo_24 : decode cX7_undo 24 = .ok (.getfield 60, 3) := by decide +kernel
theorem dX7_undo_27 : decode cX7_undo 27 = .ok (.iload_n 1, 1) := by decide +kernel
theorem dX7_undo_28 : decode cX7_undo 28 = .ok (.iaload, 1) := by decide +kernel
theorem dX7_undo_29 : decode cX7_undo 29 = .ok (.iastore, 1) := by decide +kernel
theorem dX7_undo_30 : decode cX7_undo 30 = .ok (.aload_n 0, 1) := by decide +kernel
theorem dX7_undo_31 : decode cX7_undo 31 = .ok (.getfield 17, 3) := by decide +kernel
theorem dX7_undo_34 : decode cX7_undo 34 = .ok (.iload_n 1, 1) := by decide +kernel
theorem dX7_undo_35 : decode cX7_undo 35 = .ok (.aload_n 0, 1) := by decide +kernel
theorem dX7_undo_36 : decode cX7_undo 36 = .ok (.getfield 60, 3) := by decide +kernel
theorem dX7_undo_39 : decode cX7_undo 39 = .ok (.bipush 8, 2) := by decide +kernel
theorem dX7_undo_41 : decode cX7_undo 41 = .ok (.iload_n 1, 1) := by decide +kernel
theorem dX7_undo_42 : decode cX7_undo 42 = .ok (.iadd, 1) := by decide +kernel
theorem dX7_undo_43 : decode cX7_undo 43 = .ok (.iaload, 1) := by decide +kernel
theorem dX7_undo_44 : decode cX7_undo 44 = .ok (.iastore, 1) := by decide +kernel
theorem dX7_undo_45 : decode cX7_undo 45 = .ok (.aload_n 0, 1) := by decide +kernel
theorem dX7_undo_46 : decode cX7_undo 46 = .ok (.getfield 20, 3) := by decide +kernel
theorem dX7_undo_49 : decode cX7_undo 49 = .ok (.iload_n 1, 1) := by decide +kernel
theorem dX7_undo_50 : decode cX7_undo 50 = .ok (.aload_n 0, 1) := by decide +kernel
theorem dX7_undo_51 : decode cX7_undo 51 = .ok (.getfield 60, 3) := by decide +kernel
theorem dX7_undo_54 : decode cX7_undo 54 = .ok (.bipush 16, 2) := by decide +kernel
theorem dX7_undo_56 : decode cX7_undo 56 = .ok (.iload_n 1, 1) := by decide +kernel
theorem dX7_undo_57 : decode cX7_undo 57 = .ok (.iadd, 1) := by decide +kernel
theorem dX7_undo_58 : decode cX7_undo 58 = .ok (.iaload, 1) := by decide +kernel
theorem dX7_undo_59 : decode cX7_undo 59 = .ok (.iastore, 1) := by decide +kernel
theorem dX7_undo_60 : decode cX7_undo 60 = .ok (.iinc 1 1, 3) := by decide +kernel
theorem dX7_undo_63 : decode cX7_undo 63 = .ok (.goto (-51), 3) := by decide +kernel
theorem dX7_undo_66 : decode cX7_undo 66 = .ok (.aload_n 0, 1) := by decide +kernel
theorem dX7_undo_67 : decode cX7_undo 67 = .ok (.aload_n 0, 1) := by decide +kernel
theorem dX7_undo_68 : decode cX7_undo 68 = .ok (.getfield 60, 3) := by decide +kernel
theorem dX7_undo_71 : decode cX7_undo 71 = .ok (.bipush 24, 2) := by decide +kernel
theorem dX7_undo_73 : decode cX7_undo 73 = .ok (.iaload, 1) := by decide +kernel
theorem dX7_undo_74 : decode cX7_undo 74 = .ok (.putfield 7, 3) := by decide +kernel
theorem dX7_undo_77 : decode cX7_undo 77 = .ok (.aload_n 0, 1) := by decide +kernel
theorem dX7_undo_78 : decode cX7_undo 78 = .ok (.aload_n 0, 1) := by decide +kernel
theorem dX7_undo_79 : decode cX7_undo 79 = .ok (.getfield 60, 3) := by decide +kernel
theorem dX7_undo_82 : decode cX7_undo 82 = .ok (.bipush 25, 2) := by decide +kernel
theorem dX7_undo_84 : decode cX7_undo 84 = .ok (.iaload, 1) := by decide +kernel
theorem dX7_undo_85 : decode cX7_undo 85 = .ok (.putfield 74, 3) := by decide +kernel
theorem dX7_undo_88 : decode cX7_undo 88 = .ok (.aload_n 0, 1) := by decide +kernel
theorem dX7_undo_89 : decode cX7_undo 89 = .ok (.aload_n 0, 1) := by decide +kernel
theorem dX7_undo_90 : decode cX7_undo 90 = .ok (.getfield 60, 3) := by decide +kernel
theorem dX7_undo_93 : decode cX7_undo 93 = .ok (.bipush 26, 2) := by decide +kernel
theorem dX7_undo_95 : decode cX7_undo 95 = .ok (.iaload, 1) := by decide +kernel
theorem dX7_undo_96 : decode cX7_undo 96 = .ok (.putfield 71, 3) := by decide +kernel
theorem dX7_undo_99 : decode cX7_undo 99 = .ok (.aload_n 0, 1) := by decide +kernel
theorem dX7_undo_100 : decode cX7_undo 100 = .ok (.getfield 7, 3) := by decide +kernel
theorem dX7_undo_103 : decode cX7_undo 103 = .ok (.ireturn, 1) := by decide +kernel
theorem dX7_count_0 : decode cX7_count 0 = .ok (.iconst 0, 1) := by decide +kernel
theorem dX7_count_1 : decode cX7_count 1 = .ok (.istore_n 2, 1) := by decide +kernel
theorem dX7_count_2 : decode cX7_count 2 = .ok (.iload_n 1, 1) := by decide +kernel
theorem dX7_count_3 : decode cX7_count 3 = .ok (.tableswitch 132 0 6 #[41, 46, 76, 81, 86, 91, 123], 41) := by decide +kernel
theorem dX7_count_44 : decode cX7_count 44 = .ok (.aload_n 0, 1) := by decide +kernel
theorem dX7_count_45 : decode cX7_count 45 = .ok (.getfield 7, 3) := by decide +kernel
theorem dX7_count_48 : decode cX7_count 48 = .ok (.ireturn, 1) := by decide +kernel
theorem dX7_count_49 : decode cX7_count 49 = .ok (.iconst 0, 1) := by decide +kernel
theorem dX7_count_50 : decode cX7_count 50 = .ok (.istore_n 3, 1) := by decide +kernel
theorem dX7_count_51 : decode cX7_count 51 = .ok (.iload_n 3, 1) := by decide +kernel
theorem dX7_count_52 : decode cX7_count 52 = .ok (.aload_n 0, 1) := by decide +kernel
theorem dX7_count_53 : decode cX7_count 53 = .ok (.getfield 7, 3) := by decide +kernel
theorem dX7_count_56 : decode cX7_count 56 = .ok (.if_icmp .ge 21, 3) := by decide +kernel
theorem dX7_count_59 : decode cX7_count 59 = .ok (.iload_n 2, 1) := by decide +kernel
theorem dX7_count_60 : decode cX7_count 60 = .ok (.aload_n 0, 1) := by decide +kernel
theorem dX7_count_61 : decode cX7_count 61 = .ok (.getfield 13, 3) := by decide +kernel
theorem dX7_count_64 : decode cX7_count 64 = .ok (.iload_n 3, 1) := by decide +kernel
theorem dX7_count_65 : decode cX7_count 65 = .ok (.iaload, 1) := by decide +kernel
theorem dX7_count_66 : decode cX7_count 66 = .ok (.invokestatic 81, 3) := by decide +kernel
theorem dX7_count_69 : decode cX7_count 69 = .ok (.iadd, 1) := by decide +kernel
theorem dX7_count_70 : decode cX7_count 70 = .ok (.istore_n 2, 1) := by decide +kernel
theorem dX7_count_71 : decode cX7_count 71 = .ok (.iinc 3 1, 3) := by decide +kernel
theorem dX7_count_74 : decode cX7_count 74 = .ok (.goto (-23), 3) := by decide +kernel
theorem dX7_count_77 : decode cX7_count 77 = .ok (.iload_n 2, 1) := by decide +kernel
theorem dX7_count_78 : decode cX7_count 78 = .ok (.ireturn, 1) := by decide +kernel
theorem dX7_count_79 : decode cX7_count 79 = .ok (.aload_n 0, 1) := by decide +kernel
theorem dX7_count_80 : decode cX7_count 80 = .ok (.getfield 74, 3) := by decide +kernel
theorem dX7_count_83 : decode cX7_count 83 = .ok (.ireturn, 1) := by decide +kernel
theorem dX7_count_84 : decode cX7_count 84 = .ok (.aload_n 0, 1) := by decide +kernel
theorem dX7_count_85 : decode cX7_count 85 = .ok (.getfield 71, 3) := by decide +kernel
theorem dX7_count_88 : decode cX7_count 88 = .ok (.ireturn, 1) := by decide +kernel
theorem dX7_count_89 : decode cX7_count 89 = .ok (.aload_n 0, 1) := by decide +kernel
theorem dX7_count_90 : decode cX7_count 90 = .ok (.getfield 176, 3) := by decide +kernel
theorem dX7_count_93 : decode cX7_count 93 = .ok (.ireturn, 1) := by decide +kernel
theorem dX7_count_94 : decode cX7_count 94 = .ok (.iconst 0, 1) := by decide +kernel
theorem dX7_count_95 : decode cX7_count 95 = .ok (.istore_n 3, 1) := by decide +kernel
theorem dX7_count_96 : decode cX7_count 96 = .ok (.iload_n 3, 1) := by decide +kernel
theorem dX7_count_97 : decode cX7_count 97 = .ok (.iconst 3, 1) := by decide +kernel
theorem dX7_count_98 : decode cX7_count 98 = .ok (.if_icmp .ge 26, 3) := by decide +kernel
theorem dX7_count_101 : decode cX7_count 101 = .ok (.iload_n 2, 1) := by decide +kernel
theorem dX7_count_102 : decode cX7_count 102 = .ok (.aload_n 0, 1) := by decide +kernel
theorem dX7_count_103 : decode cX7_count 103 = .ok (.getfield 23, 3) := by decide +kernel
theorem dX7_count_106 : decode cX7_count 106 = .ok (.iload_n 3, 1) := by decide +kernel
theorem dX7_count_107 : decode cX7_count 107 = .ok (.iaload, 1) := by decide +kernel
theorem dX7_count_108 : decode cX7_count 108 = .ok (.ifCond .lt 7, 3) := by decide +kernel
theorem dX7_count_111 : decode cX7_count 111 = .ok (.iconst 1, 1) := by decide +kernel
theorem dX7_count_112 : decode cX7_count 112 = .ok (.goto 4, 3) := by decide +kernel
theorem dX7_count_115 : decode cX7_count 115 = .ok (.iconst 0, 1) := by decide +kernel
theorem dX7_count_116 : decode cX7_count 116 = .ok (.iadd, 1) := by decide +kernel
theorem dX7_count_117 : decode cX7_count 117 = .ok (.istore_n 2, 1) := by decide +kernel
theorem dX7_count_118 : decode cX7_count 118 = .ok (.iinc 3 1, 3) := by decide +kernel
theorem dX7_count_121 : decode cX7_count 121 = .ok (.goto (-25), 3) := by decide +kernel
theorem dX7_count_124 : decode cX7_count 124 = .ok (.iload_n 2, 1) := by decide +kernel
theorem dX7_count_125 : decode cX7_count 125 = .ok (.ireturn, 1) := by decide +kernel
theorem dX7_count_126 : decode cX7_count 126 = .ok (.aload_n 0, 1) := by decide +kernel
theorem dX7_count_127 : decode cX7_count 127 = .ok (.aload_n 0, 1) := by decide +kernel
theorem dX7_count_128 : decode cX7_count 128 = .ok (.invokevirtual 67, 3) := by decide +kernel
theorem dX7_count_131 : decode cX7_count 131 = .ok (.invokevirtual 147, 3) := by decide +kernel
theorem dX7_count_134 : decode cX7_count 134 = .ok (.ireturn, 1) := by decide +kernel
theorem dX7_count_135 : decode cX7_count 135 = .ok (.iconst (-1), 1) := by decide +kernel
theorem dX7_count_136 : decode cX7_count 136 = .ok (.ireturn, 1) := by decide +kernel
theorem dJ6_bitCount_0f7a4_0 : decode cJ6_bitCount_0f7a4 0 = .ok (.iload_n 0, 1) := by decide +kernel
theorem dJ6_bitCount_0f7a4_1 : decode cJ6_bitCount_0f7a4 1 = .ok (.iload_n 0, 1) := by decide +kernel
theorem dJ6_bitCount_0f7a4_2 : decode cJ6_bitCount_0f7a4 2 = .ok (.iconst 1, 1) := by decide +kernel
theorem dJ6_bitCount_0f7a4_3 : decode cJ6_bitCount_0f7a4 3 = .ok (.iushr, 1) := by decide +kernel
theorem dJ6_bitCount_0f7a4_4 : decode cJ6_bitCount_0f7a4 4 = .ok (.ldc_w 265, 3) := by decide +kernel
theorem dJ6_bitCount_0f7a4_7 : decode cJ6_bitCount_0f7a4 7 = .ok (.iand, 1) := by decide +kernel
theorem dJ6_bitCount_0f7a4_8 : decode cJ6_bitCount_0f7a4 8 = .ok (.isub, 1) := by decide +kernel
theorem dJ6_bitCount_0f7a4_9 : decode cJ6_bitCount_0f7a4 9 = .ok (.istore_n 0, 1) := by decide +kernel
theorem dJ6_bitCount_0f7a4_10 : decode cJ6_bitCount_0f7a4 10 = .ok (.iload_n 0, 1) := by decide +kernel
theorem dJ6_bitCount_0f7a4_11 : decode cJ6_bitCount_0f7a4 11 = .ok (.ldc_w 266, 3) := by decide +kernel
theorem dJ6_bitCount_0f7a4_14 : decode cJ6_bitCount_0f7a4 14 = .ok (.iand, 1) := by decide +kernel
theorem dJ6_bitCount_0f7a4_15 : decode cJ6_bitCount_0f7a4 15 = .ok (.iload_n 0, 1) := by decide +kernel
theorem dJ6_bitCount_0f7a4_16 : decode cJ6_bitCount_0f7a4 16 = .ok (.iconst 2, 1) := by decide +kernel
theorem dJ6_bitCount_0f7a4_17 : decode cJ6_bitCount_0f7a4 17 = .ok (.iushr, 1) := by decide +kernel
theorem dJ6_bitCount_0f7a4_18 : decode cJ6_bitCount_0f7a4 18 = .ok (.ldc_w 266, 3) := by decide +kernel
theorem dJ6_bitCount_0f7a4_21 : decode cJ6_bitCount_0f7a4 21 = .ok (.iand, 1) := by decide +kernel
theorem dJ6_bitCount_0f7a4_22 : decode cJ6_bitCount_0f7a4 22 = .ok (.iadd, 1) := by decide +kernel
theorem dJ6_bitCount_0f7a4_23 : decode cJ6_bitCount_0f7a4 23 = .ok (.istore_n 0, 1) := by decide +kernel
theorem dJ6_bitCount_0f7a4_24 : decode cJ6_bitCount_0f7a4 24 = .ok (.iload_n 0, 1) := by decide +kernel
theorem dJ6_bitCount_0f7a4_25 : decode cJ6_bitCount_0f7a4 25 = .ok (.iload_n 0, 1) := by decide +kernel
theorem dJ6_bitCount_0f7a4_26 : decode cJ6_bitCount_0f7a4 26 = .ok (.iconst 4, 1) := by decide +kernel
theorem dJ6_bitCount_0f7a4_27 : decode cJ6_bitCount_0f7a4 27 = .ok (.iushr, 1) := by decide +kernel
theorem dJ6_bitCount_0f7a4_28 : decode cJ6_bitCount_0f7a4 28 = .ok (.iadd, 1) := by decide +kernel
theorem dJ6_bitCount_0f7a4_29 : decode cJ6_bitCount_0f7a4 29 = .ok (.ldc_w 267, 3) := by decide +kernel
theorem dJ6_bitCount_0f7a4_32 : decode cJ6_bitCount_0f7a4 32 = .ok (.iand, 1) := by decide +kernel
theorem dJ6_bitCount_0f7a4_33 : decode cJ6_bitCount_0f7a4 33 = .ok (.istore_n 0, 1) := by decide +kernel
theorem dJ6_bitCount_0f7a4_34 : decode cJ6_bitCount_0f7a4 34 = .ok (.iload_n 0, 1) := by decide +kernel
theorem dJ6_bitCount_0f7a4_35 : decode cJ6_bitCount_0f7a4 35 = .ok (.iload_n 0, 1) := by decide +kernel
theorem dJ6_bitCount_0f7a4_36 : decode cJ6_bitCount_0f7a4 36 = .ok (.bipush 8, 2) := by decide +kernel
theorem dJ6_bitCount_0f7a4_38 : decode cJ6_bitCount_0f7a4 38 = .ok (.iushr, 1) := by decide +kernel
theorem dJ6_bitCount_0f7a4_39 : decode cJ6_bitCount_0f7a4 39 = .ok (.iadd, 1) := by decide +kernel
theorem dJ6_bitCount_0f7a4_40 : decode cJ6_bitCount_0f7a4 40 = .ok (.istore_n 0, 1) := by decide +kernel
theorem dJ6_bitCount_0f7a4_41 : decode cJ6_bitCount_0f7a4 41 = .ok (.iload_n 0, 1) := by decide +kernel
theorem dJ6_bitCount_0f7a4_42 : decode cJ6_bitCount_0f7a4 42 = .ok (.iload_n 0, 1) := by decide +kernel
theorem dJ6_bitCount_0f7a4_43 : decode cJ6_bitCount_0f7a4 43 = .ok (.bipush 16, 2) := by decide +kernel
theorem dJ6_bitCount_0f7a4_45 : decode cJ6_bitCount_0f7a4 45 = .ok (.iushr, 1) := by decide +kernel
theorem dJ6_bitCount_0f7a4_46 : decode cJ6_bitCount_0f7a4 46 = .ok (.iadd, 1) := by decide +kernel
theorem dJ6_bitCount_0f7a4_47 : decode cJ6_bitCount_0f7a4 47 = .ok (.istore_n 0, 1) := by decide +kernel
theorem dJ6_bitCount_0f7a4_48 : decode cJ6_bitCount_0f7a4 48 = .ok (.iload_n 0, 1) := by decide +kernel
theorem dJ6_bitCount_0f7a4_49 : decode cJ6_bitCount_0f7a4 49 = .ok (.bipush 63, 2) := by decide +kernel
theorem dJ6_bitCount_0f7a4_51 : decode cJ6_bitCount_0f7a4 51 = .ok (.iand, 1) := by decide +kernel
theorem dJ6_bitCount_0f7a4_52 : decode cJ6_bitCount_0f7a4 52 = .ok (.ireturn, 1) := by decide +kernel
theorem dJ9_max_7cf53_0 : decode cJ9_max_7cf53 0 = .ok (.iload_n 0, 1) := by decide +kernel
theorem dJ9_max_7cf53_1 : decode cJ9_max_7cf53 1 = .ok (.iload_n 1, 1) := by decide +kernel
theorem dJ9_max_7cf53_2 : decode cJ9_max_7cf53 2 = .ok (.if_icmp .lt 7, 3) := by decide +kernel
theorem dJ9_max_7cf53_5 : decode cJ9_max_7cf53 5 = .ok (.iload_n 0, 1) := by decide +kernel
theorem dJ9_max_7cf53_6 : decode cJ9_max_7cf53 6 = .ok (.goto 4, 3) := by decide +kernel
theorem dJ9_max_7cf53_9 : decode cJ9_max_7cf53 9 = .ok (.iload_n 1, 1) := by decide +kernel
theorem dJ9_max_7cf53_10 : decode cJ9_max_7cf53 10 = .ok (.ireturn, 1) := by decide +kernel
theorem dJ9_min_7cf53_0 : decode cJ9_min_7cf53 0 = .ok (.iload_n 0, 1) := by decide +kernel
theorem dJ9_min_7cf53_1 : decode cJ9_min_7cf53 1 = .ok (.iload_n 1, 1) := by decide +kernel
theorem dJ9_min_7cf53_2 : decode cJ9_min_7cf53 2 = .ok (.if_icmp .gt 7, 3) := by decide +kernel
theorem dJ9_min_7cf53_5 : decode cJ9_min_7cf53 5 = .ok (.iload_n 0, 1) := by decide +kernel
theorem dJ9_min_7cf53_6 : decode cJ9_min_7cf53 6 = .ok (.goto 4, 3) := by decide +kernel
theorem dJ9_min_7cf53_9 : decode cJ9_min_7cf53 9 = .ok (.iload_n 1, 1) := by decide +kernel
theorem dJ9_min_7cf53_10 : decode cJ9_min_7cf53 10 = .ok (.ireturn, 1) := by decide +kernel
theorem dJ0_length_8abf5_0 : decode cJ0_length_8abf5 0 = .ok (.aload_n 0, 1) := by decide +kernel
theorem dJ0_length_8abf5_1 : decode cJ0_length_8abf5 1 = .ok (.getfield 9, 3) := by decide +kernel
theorem dJ0_length_8abf5_4 : decode cJ0_length_8abf5 4 = .ok (.arraylength, 1) := by decide +kernel
theorem dJ0_length_8abf5_5 : decode cJ0_length_8abf5 5 = .ok (.aload_n 0, 1) := by decide +kernel
theorem dJ0_length_8abf5_6 : decode cJ0_length_8abf5 6 = .ok (.invokevirtual 335, 3) := by decide +kernel
theorem dJ0_length_8abf5_9 : decode cJ0_length_8abf5 9 = .ok (.ishr, 1) := by decide +kernel
theorem dJ0_length_8abf5_10 : decode cJ0_length_8abf5 10 = .ok (.ireturn, 1) := by decide +kernel
theorem dJ0_charAt_5068e_0 : decode cJ0_charAt_5068e 0 = .ok (.aload_n 0, 1) := by decide +kernel
theorem dJ0_charAt_5068e_1 : decode cJ0_charAt_5068e 1 = .ok (.invokevirtual 492, 3) := by decide +kernel
theorem dJ0_charAt_5068e_4 : decode cJ0_charAt_5068e 4 = .ok (.ifCond .eq 12, 3) := by decide +kernel
theorem dJ0_charAt_5068e_7 : decode cJ0_charAt_5068e 7 = .ok (.aload_n 0, 1) := by decide +kernel
theorem dJ0_charAt_5068e_8 : decode cJ0_charAt_5068e 8 = .ok (.getfield 9, 3) := by decide +kernel
theorem dJ0_charAt_5068e_11 : decode cJ0_charAt_5068e 11 = .ok (.iload_n 1, 1) := by decide +kernel
theorem dJ0_charAt_5068e_12 : decode cJ0_charAt_5068e 12 = .ok (.invokestatic 495, 3) := by decide +kernel
theorem dJ0_charAt_5068e_15 : decode cJ0_charAt_5068e 15 = .ok (.ireturn, 1) := by decide +kernel
theorem dJ0_charAt_5068e_16 : decode cJ0_charAt_5068e 16 = .ok (.aload_n 0, 1) := by decide +kernel
theorem dJ0_charAt_5068e_17 : decode cJ0_charAt_5068e 17 = .ok (.getfield 9, 3) := by decide +kernel
theorem dJ0_charAt_5068e_20 : decode cJ0_charAt_5068e 20 = .ok (.iload_n 1, 1) := by decide +kernel
theorem dJ0_charAt_5068e_21 : decode cJ0_charAt_5068e 21 = .ok (.invokestatic 498, 3) := by decide +kernel
theorem dJ0_charAt_5068e_24 : decode cJ0_charAt_5068e 24 = .ok (.ireturn, 1) := by decide +kernel
theorem dJ0_coder_7d493_0 : decode cJ0_coder_7d493 0 = .ok (.getstatic 38, 3) := by decide +kernel
theorem dJ0_coder_7d493_3 : decode cJ0_coder_7d493 3 = .ok (.ifCond .eq 10, 3) := by decide +kernel
theorem dJ0_coder_7d493_6 : decode cJ0_coder_7d493 6 = .ok (.aload_n 0, 1) := by decide +kernel
theorem dJ0_coder_7d493_7 : decode cJ0_coder_7d493 7 = .ok (.getfield 15, 3) := by decide +kernel
theorem dJ0_coder_7d493_10 : decode cJ0_coder_7d493 10 = .ok (.goto 4, 3) := by decide +kernel
theorem dJ0_coder_7d493_13 : decode cJ0_coder_7d493 13 = .ok (.iconst 1, 1) := by decide +kernel
theorem dJ0_coder_7d493_14 : decode cJ0_coder_7d493 14 = .ok (.ireturn, 1) := by decide +kernel
theorem dJ0_isLatin1_aae02_0 : decode cJ0_isLatin1_aae02 0 = .ok (.getstatic 38, 3) := by decide +kernel
theorem dJ0_isLatin1_aae02_3 : decode cJ0_isLatin1_aae02 3 = .ok (.ifCond .eq 14, 3) := by decide +kernel
theorem dJ0_isLatin1_aae02_6 : decode cJ0_isLatin1_aae02 6 = .ok (.aload_n 0, 1) := by decide +kernel
theorem dJ0_isLatin1_aae02_7 : decode cJ0_isLatin1_aae02 7 = .ok (.getfield 15, 3) := by decide +kernel
theorem dJ0_isLatin1_aae02_10 : decode cJ0_isLatin1_aae02 10 = .ok (.ifCond .ne 7, 3) := by decide +kernel
theorem dJ0_isLatin1_aae02_13 : decode cJ0_isLatin1_aae02 13 = .ok (.iconst 1, 1) := by decide +kernel
theorem dJ0_isLatin1_aae02_14 : decode cJ0_isLatin1_aae02 14 = .ok (.goto 4, 3) := by decide +kernel
theorem dJ0_isLatin1_aae02_17 : decode cJ0_isLatin1_aae02 17 = .ok (.iconst 0, 1) := by decide +kernel
theorem dJ0_isLatin1_aae02_18 : decode cJ0_isLatin1_aae02 18 = .ok (.ireturn, 1) := by decide +kernel
theorem dJ0_checkIndex_df160_0 : decode cJ0_checkIndex_df160 0 = .ok (.iload_n 0, 1) := by decide +kernel
theorem dJ0_checkIndex_df160_1 : decode cJ0_checkIndex_df160 1 = .ok (.iload_n 1, 1) := by decide +kernel
theorem dJ0_checkIndex_df160_2 : decode cJ0_checkIndex_df160 2 = .ok (.getstatic 1053, 3) := by decide +kernel
theorem dJ0_checkIndex_df160_5 : decode cJ0_checkIndex_df160 5 = .ok (.invokestatic 1059, 3) := by decide +kernel
theorem dJ0_checkIndex_df160_8 : decode cJ0_checkIndex_df160 8 = .ok (.pop, 1) := by decide +kernel
theorem dJ0_checkIndex_df160_9 : decode cJ0_checkIndex_df160 9 = .ok (.return_, 1) := by decide +kernel
theorem dJ1_charAt_3b067_0 : decode cJ1_charAt_3b067 0 = .ok (.iload_n 1, 1) := by decide +kernel
theorem dJ1_charAt_3b067_1 : decode cJ1_charAt_3b067 1 = .ok (.aload_n 0, 1) := by decide +kernel
theorem dJ1_charAt_3b067_2 : decode cJ1_charAt_3b067 2 = .ok (.arraylength, 1) := by decide +kernel
theorem dJ1_charAt_3b067_3 : decode cJ1_charAt_3b067 3 = .ok (.invokestatic 9, 3) := by decide +kernel
theorem dJ1_charAt_3b067_6 : decode cJ1_charAt_3b067 6 = .ok (.aload_n 0, 1) := by decide +kernel
theorem dJ1_charAt_3b067_7 : decode cJ1_charAt_3b067 7 = .ok (.iload_n 1, 1) := by decide +kernel
theorem dJ1_charAt_3b067_8 : decode cJ1_charAt_3b067 8 = .ok (.baload, 1) := by decide +kernel
theorem dJ1_charAt_3b067_9 : decode cJ1_charAt_3b067 9 = .ok (.sipush 255, 3) := by decide +kernel
theorem dJ1_charAt_3b067_12 : decode cJ1_charAt_3b067 12 = .ok (.iand, 1) := by decide +kernel
theorem dJ1_charAt_3b067_13 : decode cJ1_charAt_3b067 13 = .ok (.i2c, 1) := by decide +kernel
theorem dJ1_charAt_3b067_14 : decode cJ1_charAt_3b067 14 = .ok (.ireturn, 1) := by decide +kernel
theorem dJ2_getChar_3b067_0 : decode cJ2_getChar_3b067 0 = .ok (.getstatic 44, 3) := by decide +kernel
theorem dJ2_getChar_3b067_3 : decode cJ2_getChar_3b067 3 = .ok (.ifCond .ne 25, 3) := by decide +kernel
theorem dJ2_getChar_3b067_6 : decode cJ2_getChar_3b067 6 = .ok (.iload_n 1, 1) := by decide +kernel
theorem dJ2_getChar_3b067_7 : decode cJ2_getChar_3b067 7 = .ok (.ifCond .lt 11, 3) := by decide +kernel
theorem dJ2_getChar_3b067_10 : decode cJ2_getChar_3b067 10 = .ok (.iload_n 1, 1) := by decide +kernel
theorem dJ2_getChar_3b067_11 : decode cJ2_getChar_3b067 11 = .ok (.aload_n 0, 1) := by decide +kernel
theorem dJ2_getChar_3b067_12 : decode cJ2_getChar_3b067 12 = .ok (.invokestatic 48, 3) := by decide +kernel
theorem dJ2_getChar_3b067_15 : decode cJ2_getChar_3b067 15 = .ok (.if_icmp .lt 13, 3) := by decide +kernel
theorem dJ2_getChar_3b067_18 : decode cJ2_getChar_3b067 18 = .ok (.new 52, 3) := by decide +kernel
theorem dJ2_getChar_3b067_21 : decode cJ2_getChar_3b067 21 = .ok (.dup, 1) := by decide +kernel
theorem dJ2_getChar_3b067_22 : decode cJ2_getChar_3b067 22 = .ok (.ldc 54, 2) := by decide +kernel
theorem dJ2_getChar_3b067_24 : decode cJ2_getChar_3b067 24 = .ok (.invokespecial 56, 3) := by decide +kernel
theorem dJ2_getChar_3b067_27 : decode cJ2_getChar_3b067 27 = .ok (.athrow, 1) := by decide +kernel
theorem dJ2_getChar_3b067_28 : decode cJ2_getChar_3b067 28 = .ok (.iload_n 1, 1) := by decide +kernel
theorem dJ2_getChar_3b067_29 : decode cJ2_getChar_3b067 29 = .ok (.iconst 1, 1) := by decide +kernel
theorem dJ2_getChar_3b067_30 : decode cJ2_getChar_3b067 30 = .ok (.ishl, 1) := by decide +kernel
theorem dJ2_getChar_3b067_31 : decode cJ2_getChar_3b067 31 = .ok (.istore_n 1, 1) := by decide +kernel
theorem dJ2_getChar_3b067_32 : decode cJ2_getChar_3b067 32 = .ok (.aload_n 0, 1) := by decide +kernel
theorem dJ2_getChar_3b067_33 : decode cJ2_getChar_3b067 33 = .ok (.iload_n 1, 1) := by decide +kernel
theorem dJ2_getChar_3b067_34 : decode cJ2_getChar_3b067 34 = .ok (.iinc 1 1, 3) := by decide +kernel
theorem dJ2_getChar_3b067_37 : decode cJ2_getChar_3b067 37 = .ok (.baload, 1) := by decide +kernel
theorem dJ2_getChar_3b067_38 : decode cJ2_getChar_3b067 38 = .ok (.sipush 255, 3) := by decide +kernel
theorem dJ2_getChar_3b067_41 : decode cJ2_getChar_3b067 41 = .ok (.iand, 1) := by decide +kernel
theorem dJ2_getChar_3b067_42 : decode cJ2_getChar_3b067 42 = .ok (.getstatic 59, 3) := by decide +kernel
theorem dJ2_getChar_3b067_45 : decode cJ2_getChar_3b067 45 = .ok (.ishl, 1) := by decide +kernel
theorem dJ2_getChar_3b067_46 : decode cJ2_getChar_3b067 46 = .ok (.aload_n 0, 1) := by decide +kernel
theorem dJ2_getChar_3b067_47 : decode cJ2_getChar_3b067 47 = .ok (.iload_n 1, 1) := by decide +kernel
theorem dJ2_getChar_3b067_48 : decode cJ2_getChar_3b067 48 = .ok (.baload, 1) := by decide +kernel
theorem dJ2_getChar_3b067_49 : decode cJ2_getChar_3b067 49 = .ok (.sipush 255, 3) := by decide +kernel
theorem dJ2_getChar_3b067_52 : decode cJ2_getChar_3b067 52 = .ok (.iand, 1) := by decide +kernel
theorem dJ2_getChar_3b067_53 : decode cJ2_getChar_3b067 53 = .ok (.getstatic 63, 3) := by decide +kernel
theorem dJ2_getChar_3b067_56 : decode cJ2_getChar_3b067 56 = .ok (.ishl, 1) := by decide +kernel
theorem dJ2_getChar_3b067_57 : decode cJ2_getChar_3b067 57 = .ok (.ior, 1) := by decide +kernel
theorem dJ2_getChar_3b067_58 : decode cJ2_getChar_3b067 58 = .ok (.i2c, 1) := by decide +kernel
theorem dJ2_getChar_3b067_59 : decode cJ2_getChar_3b067 59 = .ok (.ireturn, 1) := by decide +kernel
theorem dJ2_length_9d52b_0 : decode cJ2_length_9d52b 0 = .ok (.aload_n 0, 1) := by decide +kernel
theorem dJ2_length_9d52b_1 : decode cJ2_length_9d52b 1 = .ok (.arraylength, 1) := by decide +kernel
theorem dJ2_length_9d52b_2 : decode cJ2_length_9d52b 2 = .ok (.iconst 1, 1) := by decide +kernel
theorem dJ2_length_9d52b_3 : decode cJ2_length_9d52b 3 = .ok (.ishr, 1) := by decide +kernel
theorem dJ2_length_9d52b_4 : decode cJ2_length_9d52b 4 = .ok (.ireturn, 1) := by decide +kernel
theorem dJ2_charAt_3b067_0 : decode cJ2_charAt_3b067 0 = .ok (.iload_n 1, 1) := by decide +kernel
theorem dJ2_charAt_3b067_1 : decode cJ2_charAt_3b067 1 = .ok (.aload_n 0, 1) := by decide +kernel
theorem dJ2_charAt_3b067_2 : decode cJ2_charAt_3b067 2 = .ok (.invokestatic 67, 3) := by decide +kernel
theorem dJ2_charAt_3b067_5 : decode cJ2_charAt_3b067 5 = .ok (.aload_n 0, 1) := by decide +kernel
theorem dJ2_charAt_3b067_6 : decode cJ2_charAt_3b067 6 = .ok (.iload_n 1, 1) := by decide +kernel
theorem dJ2_charAt_3b067_7 : decode cJ2_charAt_3b067 7 = .ok (.invokestatic 71, 3) := by decide +kernel
theorem dJ2_charAt_3b067_10 : decode cJ2_charAt_3b067 10 = .ok (.ireturn, 1) := by decide +kernel
theorem dJ2_checkIndex_2214a_0 : decode cJ2_checkIndex_2214a 0 = .ok (.iload_n 0, 1) := by decide +kernel
theorem dJ2_checkIndex_2214a_1 : decode cJ2_checkIndex_2214a 1 = .ok (.aload_n 1, 1) := by decide +kernel
theorem dJ2_checkIndex_2214a_2 : decode cJ2_checkIndex_2214a 2 = .ok (.invokestatic 48, 3) := by decide +kernel
theorem dJ2_checkIndex_2214a_5 : decode cJ2_checkIndex_2214a 5 = .ok (.invokestatic 414, 3) := by decide +kernel
theorem dJ2_checkIndex_2214a_8 : decode cJ2_checkIndex_2214a 8 = .ok (.return_, 1) := by decide +kernel
theorem dJ3_checkIndex_8e157_0 : decode cJ3_checkIndex_8e157 0 = .ok (.iload_n 0, 1) := by decide +kernel
theorem dJ3_checkIndex_8e157_1 : decode cJ3_checkIndex_8e157 1 = .ok (.ifCond .lt 8, 3) := by decide +kernel
theorem dJ3_checkIndex_8e157_4 : decode cJ3_checkIndex_8e157 4 = .ok (.iload_n 0, 1) := by decide +kernel
theorem dJ3_checkIndex_8e157_5 : decode cJ3_checkIndex_8e157 5 = .ok (.iload_n 1, 1) := by decide +kernel
theorem dJ3_checkIndex_8e157_6 : decode cJ3_checkIndex_8e157 6 = .ok (.if_icmp .lt 10, 3) := by decide +kernel
theorem dJ3_checkIndex_8e157_9 : decode cJ3_checkIndex_8e157 9 = .ok (.aload_n 2, 1) := by decide +kernel
theorem dJ3_checkIndex_8e157_10 : decode cJ3_checkIndex_8e157 10 = .ok (.iload_n 0, 1) := by decide +kernel
theorem dJ3_checkIndex_8e157_11 : decode cJ3_checkIndex_8e157 11 = .ok (.iload_n 1, 1) := by decide +kernel
theorem dJ3_checkIndex_8e157_12 : decode cJ3_checkIndex_8e157 12 = .ok (.invokestatic 95, 3) := by decide +kernel
theorem dJ3_checkIndex_8e157_15 : decode cJ3_checkIndex_8e157 15 = .ok (.athrow, 1) := by decide +kernel
theorem dJ3_checkIndex_8e157_16 : decode cJ3_checkIndex_8e157 16 = .ok (.iload_n 0, 1) := by decide +kernel
theorem dJ3_checkIndex_8e157_17 : decode cJ3_checkIndex_8e157 17 = .ok (.ireturn, 1) := by decide +kernel
theorem dL_law_0 : decode cL_law 0 = .ok (.new 7, 3) := by decide +kernel
theorem dL_law_3 : decode cL_law 3 = .ok (.dup, 1) := by decide +kernel
theorem dL_law_4 : decode cL_law 4 = .ok (.invokespecial 9, 3) := by decide +kernel
theorem dL_law_7 : decode cL_law 7 = .ok (.astore_n 1, 1) := by decide +kernel
theorem dL_law_8 : decode cL_law 8 = .ok (.new 10, 3) := by decide +kernel
theorem dL_law_11 : decode cL_law 11 = .ok (.dup, 1) := by decide +kernel
theorem dL_law_12 : decode cL_law 12 = .ok (.invokespecial 12, 3) := by decide +kernel
theorem dL_law_15 : decode cL_law 15 = .ok (.astore_n 2, 1) := by decide +kernel
theorem dL_law_16 : decode cL_law 16 = .ok (.iconst 0, 1) := by decide +kernel
theorem dL_law_17 : decode cL_law 17 = .ok (.istore_n 3, 1) := by decide +kernel
theorem dL_law_18 : decode cL_law 18 = .ok (.iload_n 3, 1) := by decide +kernel
theorem dL_law_19 : decode cL_law 19 = .ok (.aload_n 0, 1) := by decide +kernel
theorem dL_law_20 : decode cL_law 20 = .ok (.arraylength, 1) := by decide +kernel
theorem dL_law_21 : decode cL_law 21 = .ok (.bipush 6, 2) := by decide +kernel
theorem dL_law_23 : decode cL_law 23 = .ok (.isub, 1) := by decide +kernel
theorem dL_law_24 : decode cL_law 24 = .ok (.if_icmp .gt 1516, 3) := by decide +kernel
theorem dL_law_27 : decode cL_law 27 = .ok (.aload_n 0, 1) := by decide +kernel
theorem dL_law_28 : decode cL_law 28 = .ok (.iload_n 3, 1) := by decide +kernel
theorem dL_law_29 : decode cL_law 29 = .ok (.iaload, 1) := by decide +kernel
theorem dL_law_30 : decode cL_law 30 = .ok (.bipush 63, 2) := by decide +kernel
theorem dL_law_32 : decode cL_law 32 = .ok (.iand, 1) := by decide +kernel
theorem dL_law_33 : decode cL_law 33 = .ok (.tableswitch 1501 0 44 #[195, 218, 261, 294, 317, 350, 373, 406, 429, 452, 485, 518, 551, 584, 617, 650, 683, 726, 779, 802, 855, 888, 921, 944, 967, 990, 1003, 1016, 1039, 1062, 1075, 1088, 1121, 1144, 1187, 1221, 1284, 1337, 1380, 1403, 1416, 1429, 1452, 1465, 1478], 195) := by decide +kernel
theorem dL_law_228 : decode cL_law 228 = .ok (.aload_n 1, 1) := by decide +kernel
theorem dL_law_229 : decode cL_law 229 = .ok (.aload_n 0, 1) := by decide +kernel
theorem dL_law_230 : decode cL_law 230 = .ok (.iload_n 3, 1) := by decide +kernel
theorem dL_law_231 : decode cL_law 231 = .ok (.iconst 1, 1) := by decide +kernel
theorem dL_law_232 : decode cL_law 232 = .ok (.iadd, 1) := by decide +kernel
theorem dL_law_233 : decode cL_law 233 = .ok (.iaload, 1) := by decide +kernel
theorem dL_law_234 : decode cL_law 234 = .ok (.invokevirtual 13, 3) := by decide +kernel
theorem dL_law_237 : decode cL_law 237 = .ok (.aload_n 2, 1) := by decide +kernel
theorem dL_law_238 : decode cL_law 238 = .ok (.aload_n 0, 1) := by decide +kernel
theorem dL_law_239 : decode cL_law 239 = .ok (.iload_n 3, 1) := by decide +kernel
theorem dL_law_240 : decode cL_law 240 = .ok (.iconst 1, 1) := by decide +kernel
theorem dL_law_241 : decode cL_law 241 = .ok (.iadd, 1) := by decide +kernel
theorem dL_law_242 : decode cL_law 242 = .ok (.iaload, 1) := by decide +kernel
theorem dL_law_243 : decode cL_law 243 = .ok (.invokevirtual 17, 3) := by decide +kernel
theorem dL_law_246 : decode cL_law 246 = .ok (.if_icmp .eq 1288, 3) := by decide +kernel
theorem dL_law_249 : decode cL_law 249 = .ok (.iconst 0, 1) := by decide +kernel
theorem dL_law_250 : decode cL_law 250 = .ok (.ireturn, 1) := by decide +kernel
theorem dL_law_251 : decode cL_law 251 = .ok (.aload_n 1, 1) := by decide +kernel
theorem dL_law_252 : decode cL_law 252 = .ok (.aload_n 0, 1) := by decide +kernel
theorem dL_law_253 : decode cL_law 253 = .ok (.iload_n 3, 1) := by decide +kernel
theorem dL_law_254 : decode cL_law 254 = .ok (.iconst 1, 1) := by decide +kernel
theorem dL_law_255 : decode cL_law 255 = .ok (.iadd, 1) := by decide +kernel
theorem dL_law_256 : decode cL_law 256 = .ok (.iaload, 1) := by decide +kernel
theorem dL_law_257 : decode cL_law 257 = .ok (.aload_n 0, 1) := by decide +kernel
theorem dL_law_258 : decode cL_law 258 = .ok (.iload_n 3, 1) := by decide +kernel
theorem dL_law_259 : decode cL_law 259 = .ok (.iconst 2, 1) := by decide +kernel
theorem dL_law_260 : decode cL_law 260 = .ok (.iadd, 1) := by decide +kernel
theorem dL_law_261 : decode cL_law 261 = .ok (.iaload, 1) := by decide +kernel
theorem dL_law_262 : decode cL_law 262 = .ok (.aload_n 0, 1) := by decide +kernel
theorem dL_law_263 : decode cL_law 263 = .ok (.iload_n 3, 1) := by decide +kernel
theorem dL_law_264 : decode cL_law 264 = .ok (.iconst 3, 1) := by decide +kernel
theorem dL_law_265 : decode cL_law 265 = .ok (.iadd, 1) := by decide +kernel
theorem dL_law_266 : decode cL_law 266 = .ok (.iaload, 1) := by decide +kernel
theorem dL_law_267 : decode cL_law 267 = .ok (.invokevirtual 18, 3) := by decide +kernel
theorem dL_law_270 : decode cL_law 270 = .ok (.aload_n 2, 1) := by decide +kernel
theorem dL_law_271 : decode cL_law 271 = .ok (.aload_n 0, 1) := by decide +kernel
theorem dL_law_272 : decode cL_law 272 = .ok (.iload_n 3, 1) := by decide +kernel
theorem dL_law_273 : decode cL_law 273 = .ok (.iconst 1, 1) := by decide +kernel
theorem dL_law_274 : decode cL_law 274 = .ok (.iadd, 1) := by decide +kernel
theorem dL_law_275 : decode cL_law 275 = .ok (.iaload, 1) := by decide +kernel
theorem dL_law_276 : decode cL_law 276 = .ok (.aload_n 0, 1) := by decide +kernel
theorem dL_law_277 : decode cL_law 277 = .ok (.iload_n 3, 1) := by decide +kernel
theorem dL_law_278 : decode cL_law 278 = .ok (.iconst 2, 1) := by decide +kernel
theorem dL_law_279 : decode cL_law 279 = .ok (.iadd, 1) := by decide +kernel
theorem dL_law_280 : decode cL_law 280 = .ok (.iaload, 1) := by decide +kernel
theorem dL_law_281 : decode cL_law 281 = .ok (.aload_n 0, 1) := by decide +kernel
theorem dL_law_282 : decode cL_law 282 = .ok (.iload_n 3, 1) := by decide +kernel
theorem dL_law_283 : decode cL_law 283 = .ok (.iconst 3, 1) := by decide +kernel
theorem dL_law_284 : decode cL_law 284 = .ok (.iadd, 1) := by decide +kernel
theorem dL_law_285 : decode cL_law 285 = .ok (.iaload, 1) := by decide +kernel
theorem dL_law_286 : decode cL_law 286 = .ok (.invokevirtual 22, 3) := by decide +kernel
theorem dL_law_289 : decode cL_law 289 = .ok (.if_icmp .eq 1245, 3) := by decide +kernel
theorem dL_law_292 : decode cL_law 292 = .ok (.iconst 0, 1) := by decide +kernel
theorem dL_law_293 : decode cL_law 293 = .ok (.ireturn, 1) := by decide +kernel
theorem dL_law_294 : decode cL_law 294 = .ok (.aload_n 1, 1) := by decide +kernel
theorem dL_law_295 : decode cL_law 295 = .ok (.aload_n 0, 1) := by decide +kernel
theorem dL_law_296 : decode cL_law 296 = .ok (.iload_n 3, 1) := by decide +kernel
theorem dL_law_297 : decode cL_law 297 = .ok (.iconst 1, 1) := by decide +kernel
theorem dL_law_298 : decode cL_law 298 = .ok (.iadd, 1) := by decide +kernel
theorem dL_law_299 : decode cL_law 299 = .ok (.iaload, 1) := by decide +kernel
theorem dL_law_300 : decode cL_law 300 = .ok (.aload_n 0, 1) := by decide +kernel
theorem dL_law_301 : decode cL_law 301 = .ok (.iload_n 3, 1) := by decide +kernel
theorem dL_law_302 : decode cL_law 302 = .ok (.iconst 2, 1) := by decide +kernel
theorem dL_law_303 : decode cL_law 303 = .ok (.iadd, 1) := by decide +kernel
theorem dL_law_304 : decode cL_law 304 = .ok (.iaload, 1) := by decide +kernel
theorem dL_law_305 : decode cL_law 305 = .ok (.invokevirtual 23, 3) := by decide +kernel
theorem dL_law_308 : decode cL_law 308 = .ok (.aload_n 2, 1) := by decide +kernel
theorem dL_law_309 : decode cL_law 309 = .ok (.aload_n 0, 1) := by decide +kernel
theorem dL_law_310 : decode cL_law 310 = .ok (.iload_n 3, 1) := by decide +kernel
theorem dL_law_311 : decode cL_law 311 = .ok (.iconst 1, 1) := by decide +kernel
theorem dL_law_312 : decode cL_law 312 = .ok (.iadd, 1) := by decide +kernel
theorem dL_law_313 : decode cL_law 313 = .ok (.iaload, 1) := by decide +kernel
theorem dL_law_314 : decode cL_law 314 = .ok (.aload_n 0, 1) := by decide +kernel
theorem dL_law_315 : decode cL_law 315 = .ok (.iload_n 3, 1) := by decide +kernel
theorem dL_law_316 : decode cL_law 316 = .ok (.iconst 2, 1) := by decide +kernel
theorem dL_law_317 : decode cL_law 317 = .ok (.iadd, 1) := by decide +kernel
theorem dL_law_318 : decode cL_law 318 = .ok (.iaload, 1) := by decide +kernel
theorem dL_law_319 : decode cL_law 319 = .ok (.invokevirtual 27, 3) := by decide +kernel
theorem dL_law_322 : decode cL_law 322 = .ok (.if_icmp .eq 1212, 3) := by decide +kernel
theorem dL_law_325 : decode cL_law 325 = .ok (.iconst 0, 1) := by decide +kernel
theorem dL_law_326 : decode cL_law 326 = .ok (.ireturn, 1) := by decide +kernel
theorem dL_law_327 : decode cL_law 327 = .ok (.aload_n 1, 1) := by decide +kernel
theorem dL_law_328 : decode cL_law 328 = .ok (.aload_n 0, 1) := by decide +kernel
theorem dL_law_329 : decode cL_law 329 = .ok (.iload_n 3, 1) := by decide +kernel
theorem dL_law_330 : decode cL_law 330 = .ok (.iconst 1, 1) := by decide +kernel
theorem dL_law_331 : decode cL_law 331 = .ok (.iadd, 1) := by decide +kernel
theorem dL_law_332 : decode cL_law 332 = .ok (.iaload, 1) := by decide +kernel
theorem dL_law_333 : decode cL_law 333 = .ok (.invokevirtual 28, 3) := by decide +kernel
theorem dL_law_336 : decode cL_law 336 = .ok (.aload_n 2, 1) := by decide +kernel
theorem dL_law_337 : decode cL_law 337 = .ok (.aload_n 0, 1) := by decide +kernel
theorem dL_law_338 : decode cL_law 338 = .ok (.iload_n 3, 1) := by decide +kernel
theorem dL_law_339 : decode cL_law 339 = .ok (.iconst 1, 1) := by decide +kernel
theorem dL_law_340 : decode cL_law 340 = .ok (.iadd, 1) := by decide +kernel
theorem dL_law_341 : decode cL_law 341 = .ok (.iaload, 1) := by decide +kernel
theorem dL_law_342 : decode cL_law 342 = .ok (.invokevirtual 31, 3) := by decide +kernel
theorem dL_law_345 : decode cL_law 345 = .ok (.if_icmp .eq 1189, 3) := by decide +kernel
theorem dL_law_348 : decode cL_law 348 = .ok (.iconst 0, 1) := by decide +kernel
theorem dL_law_349 : decode cL_law 349 = .ok (.ireturn, 1) := by decide +kernel
theorem dL_law_350 : decode cL_law 350 = .ok (.aload_n 1, 1) := by decide +kernel
theorem dL_law_351 : decode cL_law 351 = .ok (.aload_n 0, 1) := by decide +kernel
theorem dL_law_352 : decode cL_law 352 = .ok (.iload_n 3, 1) := by decide +kernel
theorem dL_law_353 : decode cL_law 353 = .ok (.iconst 1, 1) := by decide +kernel
theorem dL_law_354 : decode cL_law 354 = .ok (.iadd, 1) := by decide +kernel
theorem dL_law_355 : decode cL_law 355 = .ok (.iaload, 1) := by decide +kernel
theorem dL_law_356 : decode cL_law 356 = .ok (.aload_n 0, 1) := by decide +kernel
theorem dL_law_357 : decode cL_law 357 = .ok (.iload_n 3, 1) := by decide +kernel
theorem dL_law_358 : decode cL_law 358 = .ok (.iconst 2, 1) := by decide +kernel
theorem dL_law_359 : decode cL_law 359 = .ok (.iadd, 1) := by decide +kernel
theorem dL_law_360 : decode cL_law 360 = .ok (.iaload, 1) := by decide +kernel
theorem dL_law_361 : decode cL_law 361 = .ok (.invokevirtual 32, 3) := by decide +kernel
theorem dL_law_364 : decode cL_law 364 = .ok (.aload_n 2, 1) := by decide +kernel
theorem dL_law_365 : decode cL_law 365 = .ok (.aload_n 0, 1) := by decide +kernel
theorem dL_law_366 : decode cL_law 366 = .ok (.iload_n 3, 1) := by decide +kernel
theorem dL_law_367 : decode cL_law 367 = .ok (.iconst 1, 1) := by decide +kernel
theorem dL_law_368 : decode cL_law 368 = .ok (.iadd, 1) := by decide +kernel
theorem dL_law_369 : decode cL_law 369 = .ok (.iaload, 1) := by decide +kernel
theorem dL_law_370 : decode cL_law 370 = .ok (.aload_n 0, 1) := by decide +kernel
theorem dL_law_371 : decode cL_law 371 = .ok (.iload_n 3, 1) := by decide +kernel
theorem dL_law_372 : decode cL_law 372 = .ok (.iconst 2, 1) := by decide +kernel
theorem dL_law_373 : decode cL_law 373 = .ok (.iadd, 1) := by decide +kernel
theorem dL_law_374 : decode cL_law 374 = .ok (.iaload, 1) := by decide +kernel
theorem dL_law_375 : decode cL_law 375 = .ok (.invokevirtual 35, 3) := by decide +kernel
theorem dL_law_378 : decode cL_law 378 = .ok (.if_icmp .eq 1156, 3) := by decide +kernel
theorem dL_law_381 : decode cL_law 381 = .ok (.iconst 0, 1) := by decide +kernel
theorem dL_law_382 : decode cL_law 382 = .ok (.ireturn, 1) := by decide +kernel
theorem dL_law_383 : decode cL_law 383 = .ok (.aload_n 1, 1) := by decide +kernel
theorem dL_law_384 : decode cL_law 384 = .ok (.aload_n 0, 1) := by decide +kernel
theorem dL_law_385 : decode cL_law 385 = .ok (.iload_n 3, 1) := by decide +kernel
theorem dL_law_386 : decode cL_law 386 = .ok (.iconst 1, 1) := by decide +kernel
theorem dL_law_387 : decode cL_law 387 = .ok (.iadd, 1) := by decide +kernel
theorem dL_law_388 : decode cL_law 388 = .ok (.iaload, 1) := by decide +kernel
theorem dL_law_389 : decode cL_law 389 = .ok (.invokevirtual 36, 3) := by decide +kernel
theorem dL_law_392 : decode cL_law 392 = .ok (.aload_n 2, 1) := by decide +kernel
theorem dL_law_393 : decode cL_law 393 = .ok (.aload_n 0, 1) := by decide +kernel
theorem dL_law_394 : decode cL_law 394 = .ok (.iload_n 3, 1) := by decide +kernel
theorem dL_law_395 : decode cL_law 395 = .ok (.iconst 1, 1) := by decide +kernel
theorem dL_law_396 : decode cL_law 396 = .ok (.iadd, 1) := by decide +kernel
theorem dL_law_397 : decode cL_law 397 = .ok (.iaload, 1) := by decide +kernel
theorem dL_law_398 : decode cL_law 398 = .ok (.invokevirtual 39, 3) := by decide +kernel
theorem dL_law_401 : decode cL_law 401 = .ok (.if_icmp .eq 1133, 3) := by decide +kernel
theorem dL_law_404 : decode cL_law 404 = .ok (.iconst 0, 1) := by decide +kernel
theorem dL_law_405 : decode cL_law 405 = .ok (.ireturn, 1) := by decide +kernel
theorem dL_law_406 : decode cL_law 406 = .ok (.aload_n 1, 1) := by decide +kernel
theorem dL_law_407 : decode cL_law 407 = .ok (.aload_n 0, 1) := by decide +kernel
theorem dL_law_408 : decode cL_law 408 = .ok (.iload_n 3, 1) := by decide +kernel
theorem dL_law_409 : decode cL_law 409 = .ok (.iconst 1, 1) := by decide +kernel
theorem dL_law_410 : decode cL_law 410 = .ok (.iadd, 1) := by decide +kernel
theorem dL_law_411 : decode cL_law 411 = .ok (.iaload, 1) := by decide +kernel
theorem dL_law_412 : decode cL_law 412 = .ok (.aload_n 0, 1) := by decide +kernel
theorem dL_law_413 : decode cL_law 413 = .ok (.iload_n 3, 1) := by decide +kernel
theorem dL_law_414 : decode cL_law 414 = .ok (.iconst 2, 1) := by decide +kernel
theorem dL_law_415 : decode cL_law 415 = .ok (.iadd, 1) := by decide +kernel
theorem dL_law_416 : decode cL_law 416 = .ok (.iaload, 1) := by decide +kernel
theorem dL_law_417 : decode cL_law 417 = .ok (.invokevirtual 40, 3) := by decide +kernel
theorem dL_law_420 : decode cL_law 420 = .ok (.aload_n 2, 1) := by decide +kernel
theorem dL_law_421 : decode cL_law 421 = .ok (.aload_n 0, 1) := by decide +kernel
theorem dL_law_422 : decode cL_law 422 = .ok (.iload_n 3, 1) := by decide +kernel
theorem dL_law_423 : decode cL_law 423 = .ok (.iconst 1, 1) := by decide +kernel
theorem dL_law_424 : decode cL_law 424 = .ok (.iadd, 1) := by decide +kernel
theorem dL_law_425 : decode cL_law 425 = .ok (.iaload, 1) := by decide +kernel
theorem dL_law_426 : decode cL_law 426 = .ok (.aload_n 0, 1) := by decide +kernel
theorem dL_law_427 : decode cL_law 427 = .ok (.iload_n 3, 1) := by decide +kernel
theorem dL_law_428 : decode cL_law 428 = .ok (.iconst 2, 1) := by decide +kernel
theorem dL_law_429 : decode cL_law 429 = .ok (.iadd, 1) := by decide +kernel
theorem dL_law_430 : decode cL_law 430 = .ok (.iaload, 1) := by decide +kernel
theorem dL_law_431 : decode cL_law 431 = .ok (.invokevirtual 43, 3) := by decide +kernel
theorem dL_law_434 : decode cL_law 434 = .ok (.if_icmp .eq 1100, 3) := by decide +kernel
theorem dL_law_437 : decode cL_law 437 = .ok (.iconst 0, 1) := by decide +kernel
theorem dL_law_438 : decode cL_law 438 = .ok (.ireturn, 1) := by decide +kernel
theorem dL_law_439 : decode cL_law 439 = .ok (.aload_n 1, 1) := by decide +kernel
theorem dL_law_440 : decode cL_law 440 = .ok (.aload_n 0, 1) := by decide +kernel
theorem dL_law_441 : decode cL_law 441 = .ok (.iload_n 3, 1) := by decide +kernel
theorem dL_law_442 : decode cL_law 442 = .ok (.iconst 1, 1) := by decide +kernel
theorem dL_law_443 : decode cL_law 443 = .ok (.iadd, 1) := by decide +kernel
theorem dL_law_444 : decode cL_law 444 = .ok (.iaload, 1) := by decide +kernel
theorem dL_law_445 : decode cL_law 445 = .ok (.invokevirtual 44, 3) := by decide +kernel
theorem dL_law_448 : decode cL_law 448 = .ok (.aload_n 2, 1) := by decide +kernel
theorem dL_law_449 : decode cL_law 449 = .ok (.aload_n 0, 1) := by decide +kernel
theorem dL_law_450 : decode cL_law 450 = .ok (.iload_n 3, 1) := by decide +kernel
theorem dL_law_451 : decode cL_law 451 = .ok (.iconst 1, 1) := by decide +kernel
theorem dL_law_452 : decode cL_law 452 = .ok (.iadd, 1) := by decide +kernel
theorem dL_law_453 : decode cL_law 453 = .ok (.iaload, 1) := by decide +kernel
theorem dL_law_454 : decode cL_law 454 = .ok (.invokevirtual 47, 3) := by decide +kernel
theorem dL_law_457 : decode cL_law 457 = .ok (.if_icmp .eq 1077, 3) := by decide +kernel
theorem dL_law_460 : decode cL_law 460 = .ok (.iconst 0, 1) := by decide +kernel
theorem dL_law_461 : decode cL_law 461 = .ok (.ireturn, 1) := by decide +kernel
theorem dL_law_462 : decode cL_law 462 = .ok (.aload_n 1, 1) := by decide +kernel
theorem dL_law_463 : decode cL_law 463 = .ok (.aload_n 0, 1) := by decide +kernel
theorem dL_law_464 : decode cL_law 464 = .ok (.iload_n 3, 1) := by decide +kernel
theorem dL_law_465 : decode cL_law 465 = .ok (.iconst 1, 1) := by decide +kernel
theorem dL_law_466 : decode cL_law 466 = .ok (.iadd, 1) := by decide +kernel
theorem dL_law_467 : decode cL_law 467 = .ok (.iaload, 1) := by decide +kernel
theorem dL_law_468 : decode cL_law 468 = .ok (.invokevirtual 48, 3) := by decide +kernel
theorem dL_law_471 : decode cL_law 471 = .ok (.aload_n 2, 1) := by decide +kernel
theorem dL_law_472 : decode cL_law 472 = .ok (.aload_n 0, 1) := by decide +kernel
theorem dL_law_473 : decode cL_law 473 = .ok (.iload_n 3, 1) := by decide +kernel
theorem dL_law_474 : decode cL_law 474 = .ok (.iconst 1, 1) := by decide +kernel
theorem dL_law_475 : decode cL_law 475 = .ok (.iadd, 1) := by decide +kernel
theorem dL_law_476 : decode cL_law 476 = .ok (.iaload, 1) := by decide +kernel
theorem dL_law_477 : decode cL_law 477 = .ok (.invokevirtual 51, 3) := by decide +kernel
theorem dL_law_480 : decode cL_law 480 = .ok (.if_icmp .eq 1054, 3) := by decide +kernel
theorem dL_law_483 : decode cL_law 483 = .ok (.iconst 0, 1) := by decide +kernel
theorem dL_law_484 : decode cL_law 484 = .ok (.ireturn, 1) := by decide +kernel
theorem dL_law_485 : decode cL_law 485 = .ok (.aload_n 1, 1) := by decide +kernel
theorem dL_law_486 : decode cL_law 486 = .ok (.aload_n 0, 1) := by decide +kernel
theorem dL_law_487 : decode cL_law 487 = .ok (.iload_n 3, 1) := by decide +kernel
theorem dL_law_488 : decode cL_law 488 = .ok (.iconst 1, 1) := by decide +kernel
theorem dL_law_489 : decode cL_law 489 = .ok (.iadd, 1) := by decide +kernel
theorem dL_law_490 : decode cL_law 490 = .ok (.iaload, 1) := by decide +kernel
theorem dL_law_491 : decode cL_law 491 = .ok (.aload_n 0, 1) := by decide +kernel
theorem dL_law_492 : decode cL_law 492 = .ok (.iload_n 3, 1) := by decide +kernel
theorem dL_law_493 : decode cL_law 493 = .ok (.iconst 2, 1) := by decide +kernel
theorem dL_law_494 : decode cL_law 494 = .ok (.iadd, 1) := by decide +kernel
theorem dL_law_495 : decode cL_law 495 = .ok (.iaload, 1) := by decide +kernel
theorem dL_law_496 : decode cL_law 496 = .ok (.invokevirtual 52, 3) := by decide +kernel
theorem dL_law_499 : decode cL_law 499 = .ok (.aload_n 2, 1) := by decide +kernel
theorem dL_law_500 : decode cL_law 500 = .ok (.aload_n 0, 1) := by decide +kernel
theorem dL_law_501 : decode cL_law 501 = .ok (.iload_n 3, 1) := by decide +kernel
theorem dL_law_502 : decode cL_law 502 = .ok (.iconst 1, 1) := by decide +kernel
theorem dL_law_503 : decode cL_law 503 = .ok (.iadd, 1) := by decide +kernel
theorem dL_law_504 : decode cL_law 504 = .ok (.iaload, 1) := by decide +kernel
theorem dL_law_505 : decode cL_law 505 = .ok (.aload_n 0, 1) := by decide +kernel
theorem dL_law_506 : decode cL_law 506 = .ok (.iload_n 3, 1) := by decide +kernel
theorem dL_law_507 : decode cL_law 507 = .ok (.iconst 2, 1) := by decide +kernel
theorem dL_law_508 : decode cL_law 508 = .ok (.iadd, 1) := by decide +kernel
theorem dL_law_509 : decode cL_law 509 = .ok (.iaload, 1) := by decide +kernel
theorem dL_law_510 : decode cL_law 510 = .ok (.invokevirtual 55, 3) := by decide +kernel
theorem dL_law_513 : decode cL_law 513 = .ok (.if_icmp .eq 1021, 3) := by decide +kernel
theorem dL_law_516 : decode cL_law 516 = .ok (.iconst 0, 1) := by decide +kernel
theorem dL_law_517 : decode cL_law 517 = .ok (.ireturn, 1) := by decide +kernel
theorem dL_law_518 : decode cL_law 518 = .ok (.aload_n 1, 1) := by decide +kernel
theorem dL_law_519 : decode cL_law 519 = .ok (.aload_n 0, 1) := by decide +kernel
theorem dL_law_520 : decode cL_law 520 = .ok (.iload_n 3, 1) := by decide +kernel
theorem dL_law_521 : decode cL_law 521 = .ok (.iconst 1, 1) := by decide +kernel
theorem dL_law_522 : decode cL_law 522 = .ok (.iadd, 1) := by decide +kernel
theorem dL_law_523 : decode cL_law 523 = .ok (.iaload, 1) := by decide +kernel
theorem dL_law_524 : decode cL_law 524 = .ok (.aload_n 0, 1) := by decide +kernel
theorem dL_law_525 : decode cL_law 525 = .ok (.iload_n 3, 1) := by decide +kernel
theorem dL_law_526 : decode cL_law 526 = .ok (.iconst 2, 1) := by decide +kernel
theorem dL_law_527 : decode cL_law 527 = .ok (.iadd, 1) := by decide +kernel
theorem dL_law_528 : decode cL_law 528 = .ok (.iaload, 1) := by decide +kernel
theorem dL_law_529 : decode cL_law 529 = .ok (.invokevirtual 56, 3) := by decide +kernel
theorem dL_law_532 : decode cL_law 532 = .ok (.aload_n 2, 1) := by decide +kernel
theorem dL_law_533 : decode cL_law 533 = .ok (.aload_n 0, 1) := by decide +kernel
theorem dL_law_534 : decode cL_law 534 = .ok (.iload_n 3, 1) := by decide +kernel
theorem dL_law_535 : decode cL_law 535 = .ok (.iconst 1, 1) := by decide +kernel
theorem dL_law_536 : decode cL_law 536 = .ok (.iadd, 1) := by decide +kernel
theorem dL_law_537 : decode cL_law 537 = .ok (.iaload, 1) := by decide +kernel
theorem dL_law_538 : decode cL_law 538 = .ok (.aload_n 0, 1) := by decide +kernel
theorem dL_law_539 : decode cL_law 539 = .ok (.iload_n 3, 1) := by decide +kernel
theorem dL_law_540 : decode cL_law 540 = .ok (.iconst 2, 1) := by decide +kernel
theorem dL_law_541 : decode cL_law 541 = .ok (.iadd, 1) := by decide +kernel
theorem dL_law_542 : decode cL_law 542 = .ok (.iaload, 1) := by decide +kernel
theorem dL_law_543 : decode cL_law 543 = .ok (.invokevirtual 59, 3) := by decide +kernel
theorem dL_law_546 : decode cL_law 546 = .ok (.if_icmp .eq 988, 3) := by decide +kernel
theorem dL_law_549 : decode cL_law 549 = .ok (.iconst 0, 1) := by decide +kernel
theorem dL_law_550 : decode cL_law 550 = .ok (.ireturn, 1) := by decide +kernel
theorem dL_law_551 : decode cL_law 551 = .ok (.aload_n 1, 1) := by decide +kernel
theorem dL_law_552 : decode cL_law 552 = .ok (.aload_n 0, 1) := by decide +kernel
theorem dL_law_553 : decode cL_law 553 = .ok (.iload_n 3, 1) := by decide +kernel
theorem dL_law_554 : decode cL_law 554 = .ok (.iconst 1, 1) := by decide +kernel
theorem dL_law_555 : decode cL_law 555 = .ok (.iadd, 1) := by decide +kernel
theorem dL_law_556 : decode cL_law 556 = .ok (.iaload, 1) := by decide +kernel
theorem dL_law_557 : decode cL_law 557 = .ok (.aload_n 0, 1) := by decide +kernel
theorem dL_law_558 : decode cL_law 558 = .ok (.iload_n 3, 1) := by decide +kernel
theorem dL_law_559 : decode cL_law 559 = .ok (.iconst 2, 1) := by decide +kernel
theorem dL_law_560 : decode cL_law 560 = .ok (.iadd, 1) := by decide +kernel
theorem dL_law_561 : decode cL_law 561 = .ok (.iaload, 1) := by decide +kernel
theorem dL_law_562 : decode cL_law 562 = .ok (.invokevirtual 60, 3) := by decide +kernel
theorem dL_law_565 : decode cL_law 565 = .ok (.aload_n 2, 1) := by decide +kernel
theorem dL_law_566 : decode cL_law 566 = .ok (.aload_n 0, 1) := by decide +kernel
theorem dL_law_567 : decode cL_law 567 = .ok (.iload_n 3, 1) := by decide +kernel
theorem dL_law_568 : decode cL_law 568 = .ok (.iconst 1, 1) := by decide +kernel
theorem dL_law_569 : decode cL_law 569 = .ok (.iadd, 1) := by decide +kernel
theorem dL_law_570 : decode cL_law 570 = .ok (.iaload, 1) := by decide +kernel
theorem dL_law_571 : decode cL_law 571 = .ok (.aload_n 0, 1) := by decide +kernel
theorem dL_law_572 : decode cL_law 572 = .ok (.iload_n 3, 1) := by decide +kernel
theorem dL_law_573 : decode cL_law 573 = .ok (.iconst 2, 1) := by decide +kernel
theorem dL_law_574 : decode cL_law 574 = .ok (.iadd, 1) := by decide +kernel
theorem dL_law_575 : decode cL_law 575 = .ok (.iaload, 1) := by decide +kernel
theorem dL_law_576 : decode cL_law 576 = .ok (.invokevirtual 63, 3) := by decide +kernel
theorem dL_law_579 : decode cL_law 579 = .ok (.if_icmp .eq 955, 3) := by decide +kernel
theorem dL_law_582 : decode cL_law 582 = .ok (.iconst 0, 1) := by decide +kernel
theorem dL_law_583 : decode cL_law 583 = .ok (.ireturn, 1) := by decide +kernel
theorem dL_law_584 : decode cL_law 584 = .ok (.aload_n 1, 1) := by decide +kernel
theorem dL_law_585 : decode cL_law 585 = .ok (.aload_n 0, 1) := by decide +kernel
theorem dL_law_586 : decode cL_law 586 = .ok (.iload_n 3, 1) := by decide +kernel
theorem dL_law_587 : decode cL_law 587 = .ok (.iconst 1, 1) := by decide +kernel
theorem dL_law_588 : decode cL_law 588 = .ok (.iadd, 1) := by decide +kernel
theorem dL_law_589 : decode cL_law 589 = .ok (.iaload, 1) := by decide +kernel
theorem dL_law_590 : decode cL_law 590 = .ok (.aload_n 0, 1) := by decide +kernel
theorem dL_law_591 : decode cL_law 591 = .ok (.iload_n 3, 1) := by decide +kernel
theorem dL_law_592 : decode cL_law 592 = .ok (.iconst 2, 1) := by decide +kernel
theorem dL_law_593 : decode cL_law 593 = .ok (.iadd, 1) := by decide +kernel
theorem dL_law_594 : decode cL_law 594 = .ok (.iaload, 1) := by decide +kernel
theorem dL_law_595 : decode cL_law 595 = .ok (.invokevirtual 64, 3) := by decide +kernel
theorem dL_law_598 : decode cL_law 598 = .ok (.aload_n 2, 1) := by decide +kernel
theorem dL_law_599 : decode cL_law 599 = .ok (.aload_n 0, 1) := by decide +kernel
theorem dL_law_600 : decode cL_law 600 = .ok (.iload_n 3, 1) := by decide +kernel
theorem dL_law_601 : decode cL_law 601 = .ok (.iconst 1, 1) := by decide +kernel
theorem dL_law_602 : decode cL_law 602 = .ok (.iadd, 1) := by decide +kernel
theorem dL_law_603 : decode cL_law 603 = .ok (.iaload, 1) := by decide +kernel
theorem dL_law_604 : decode cL_law 604 = .ok (.aload_n 0, 1) := by decide +kernel
theorem dL_law_605 : decode cL_law 605 = .ok (.iload_n 3, 1) := by decide +kernel
theorem dL_law_606 : decode cL_law 606 = .ok (.iconst 2, 1) := by decide +kernel
theorem dL_law_607 : decode cL_law 607 = .ok (.iadd, 1) := by decide +kernel
theorem dL_law_608 : decode cL_law 608 = .ok (.iaload, 1) := by decide +kernel
theorem dL_law_609 : decode cL_law 609 = .ok (.invokevirtual 67, 3) := by decide +kernel
theorem dL_law_612 : decode cL_law 612 = .ok (.if_icmp .eq 922, 3) := by decide +kernel
theorem dL_law_615 : decode cL_law 615 = .ok (.iconst 0, 1) := by decide +kernel
theorem dL_law_616 : decode cL_law 616 = .ok (.ireturn, 1) := by decide +kernel
theorem dL_law_617 : decode cL_law 617 = .ok (.aload_n 1, 1) := by decide +kernel
theorem dL_law_618 : decode cL_law 618 = .ok (.aload_n 0, 1) := by decide +kernel
theorem dL_law_619 : decode cL_law 619 = .ok (.iload_n 3, 1) := by decide +kernel
theorem dL_law_620 : decode cL_law 620 = .ok (.iconst 1, 1) := by decide +kernel
theorem dL_law_621 : decode cL_law 621 = .ok (.iadd, 1) := by decide +kernel
theorem dL_law_622 : decode cL_law 622 = .ok (.iaload, 1) := by decide +kernel
theorem dL_law_623 : decode cL_law 623 = .ok (.aload_n 0, 1) := by decide +kernel
theorem dL_law_624 : decode cL_law 624 = .ok (.iload_n 3, 1) := by decide +kernel
theorem dL_law_625 : decode cL_law 625 = .ok (.iconst 2, 1) := by decide +kernel
theorem dL_law_626 : decode cL_law 626 = .ok (.iadd, 1) := by decide +kernel
theorem dL_law_627 : decode cL_law 627 = .ok (.iaload, 1) := by decide +kernel
theorem dL_law_628 : decode cL_law 628 = .ok (.invokevirtual 68, 3) := by decide +kernel
theorem dL_law_631 : decode cL_law 631 = .ok (.aload_n 2, 1) := by decide +kernel
theorem dL_law_632 : decode cL_law 632 = .ok (.aload_n 0, 1) := by decide +kernel
theorem dL_law_633 : decode cL_law 633 = .ok (.iload_n 3, 1) := by decide +kernel
theorem dL_law_634 : decode cL_law 634 = .ok (.iconst 1, 1) := by decide +kernel
theorem dL_law_635 : decode cL_law 635 = .ok (.iadd, 1) := by decide +kernel
theorem dL_law_636 : decode cL_law 636 = .ok (.iaload, 1) := by decide +kernel
theorem dL_law_637 : decode cL_law 637 = .ok (.aload_n 0, 1) := by decide +kernel
theorem dL_law_638 : decode cL_law 638 = .ok (.iload_n 3, 1) := by decide +kernel
theorem dL_law_639 : decode cL_law 639 = .ok (.iconst 2, 1) := by decide +kernel
theorem dL_law_640 : decode cL_law 640 = .ok (.iadd, 1) := by decide +kernel
theorem dL_law_641 : decode cL_law 641 = .ok (.iaload, 1) := by decide +kernel
theorem dL_law_642 : decode cL_law 642 = .ok (.invokevirtual 71, 3) := by decide +kernel
theorem dL_law_645 : decode cL_law 645 = .ok (.if_icmp .eq 889, 3) := by decide +kernel
theorem dL_law_648 : decode cL_law 648 = .ok (.iconst 0, 1) := by decide +kernel
theorem dL_law_649 : decode cL_law 649 = .ok (.ireturn, 1) := by decide +kernel
theorem dL_law_650 : decode cL_law 650 = .ok (.aload_n 1, 1) := by decide +kernel
theorem dL_law_651 : decode cL_law 651 = .ok (.aload_n 0, 1) := by decide +kernel
theorem dL_law_652 : decode cL_law 652 = .ok (.iload_n 3, 1) := by decide +kernel
theorem dL_law_653 : decode cL_law 653 = .ok (.iconst 1, 1) := by decide +kernel
theorem dL_law_654 : decode cL_law 654 = .ok (.iadd, 1) := by decide +kernel
theorem dL_law_655 : decode cL_law 655 = .ok (.iaload, 1) := by decide +kernel
theorem dL_law_656 : decode cL_law 656 = .ok (.aload_n 0, 1) := by decide +kernel
theorem dL_law_657 : decode cL_law 657 = .ok (.iload_n 3, 1) := by decide +kernel
theorem dL_law_658 : decode cL_law 658 = .ok (.iconst 2, 1) := by decide +kernel
theorem dL_law_659 : decode cL_law 659 = .ok (.iadd, 1) := by decide +kernel
theorem dL_law_660 : decode cL_law 660 = .ok (.iaload, 1) := by decide +kernel
theorem dL_law_661 : decode cL_law 661 = .ok (.invokevirtual 72, 3) := by decide +kernel
theorem dL_law_664 : decode cL_law 664 = .ok (.aload_n 2, 1) := by decide +kernel
theorem dL_law_665 : decode cL_law 665 = .ok (.aload_n 0, 1) := by decide +kernel
theorem dL_law_666 : decode cL_law 666 = .ok (.iload_n 3, 1) := by decide +kernel
theorem dL_law_667 : decode cL_law 667 = .ok (.iconst 1, 1) := by decide +kernel
theorem dL_law_668 : decode cL_law 668 = .ok (.iadd, 1) := by decide +kernel
theorem dL_law_669 : decode cL_law 669 = .ok (.iaload, 1) := by decide +kernel
theorem dL_law_670 : decode cL_law 670 = .ok (.aload_n 0, 1) := by decide +kernel
theorem dL_law_671 : decode cL_law 671 = .ok (.iload_n 3, 1) := by decide +kernel
theorem dL_law_672 : decode cL_law 672 = .ok (.iconst 2, 1) := by decide +kernel
theorem dL_law_673 : decode cL_law 673 = .ok (.iadd, 1) := by decide +kernel
theorem dL_law_674 : decode cL_law 674 = .ok (.iaload, 1) := by decide +kernel
theorem dL_law_675 : decode cL_law 675 = .ok (.invokevirtual 75, 3) := by decide +kernel
theorem dL_law_678 : decode cL_law 678 = .ok (.if_icmp .eq 856, 3) := by decide +kernel
theorem dL_law_681 : decode cL_law 681 = .ok (.iconst 0, 1) := by decide +kernel
theorem dL_law_682 : decode cL_law 682 = .ok (.ireturn, 1) := by decide +kernel
theorem dL_law_683 : decode cL_law 683 = .ok (.aload_n 1, 1) := by decide +kernel
theorem dL_law_684 : decode cL_law 684 = .ok (.aload_n 0, 1) := by decide +kernel
theorem dL_law_685 : decode cL_law 685 = .ok (.iload_n 3, 1) := by decide +kernel
theorem dL_law_686 : decode cL_law 686 = .ok (.iconst 1, 1) := by decide +kernel
theorem dL_law_687 : decode cL_law 687 = .ok (.iadd, 1) := by decide +kernel
theorem dL_law_688 : decode cL_law 688 = .ok (.iaload, 1) := by decide +kernel
theorem dL_law_689 : decode cL_law 689 = .ok (.aload_n 0, 1) := by decide +kernel
theorem dL_law_690 : decode cL_law 690 = .ok (.iload_n 3, 1) := by decide +kernel
theorem dL_law_691 : decode cL_law 691 = .ok (.iconst 2, 1) := by decide +kernel
theorem dL_law_692 : decode cL_law 692 = .ok (.iadd, 1) := by decide +kernel
theorem dL_law_693 : decode cL_law 693 = .ok (.iaload, 1) := by decide +kernel
theorem dL_law_694 : decode cL_law 694 = .ok (.invokevirtual 76, 3) := by decide +kernel
theorem dL_law_697 : decode cL_law 697 = .ok (.aload_n 2, 1) := by decide +kernel
theorem dL_law_698 : decode cL_law 698 = .ok (.aload_n 0, 1) := by decide +kernel
theorem dL_law_699 : decode cL_law 699 = .ok (.iload_n 3, 1) := by decide +kernel
theorem dL_law_700 : decode cL_law 700 = .ok (.iconst 1, 1) := by decide +kernel
theorem dL_law_701 : decode cL_law 701 = .ok (.iadd, 1) := by decide +kernel
theorem dL_law_702 : decode cL_law 702 = .ok (.iaload, 1) := by decide +kernel
theorem dL_law_703 : decode cL_law 703 = .ok (.aload_n 0, 1) := by decide +kernel
theorem dL_law_704 : decode cL_law 704 = .ok (.iload_n 3, 1) := by decide +kernel
theorem dL_law_705 : decode cL_law 705 = .ok (.iconst 2, 1) := by decide +kernel
theorem dL_law_706 : decode cL_law 706 = .ok (.iadd, 1) := by decide +kernel
theorem dL_law_707 : decode cL_law 707 = .ok (.iaload, 1) := by decide +kernel
theorem dL_law_708 : decode cL_law 708 = .ok (.invokevirtual 79, 3) := by decide +kernel
theorem dL_law_711 : decode cL_law 711 = .ok (.if_icmp .eq 823, 3) := by decide +kernel
theorem dL_law_714 : decode cL_law 714 = .ok (.iconst 0, 1) := by decide +kernel
theorem dL_law_715 : decode cL_law 715 = .ok (.ireturn, 1) := by decide +kernel
theorem dL_law_716 : decode cL_law 716 = .ok (.aload_n 1, 1) := by decide +kernel
theorem dL_law_717 : decode cL_law 717 = .ok (.aload_n 0, 1) := by decide +kernel
theorem dL_law_718 : decode cL_law 718 = .ok (.iload_n 3, 1) := by decide +kernel
theorem dL_law_719 : decode cL_law 719 = .ok (.iconst 1, 1) := by decide +kernel
theorem dL_law_720 : decode cL_law 720 = .ok (.iadd, 1) := by decide +kernel
theorem dL_law_721 : decode cL_law 721 = .ok (.iaload, 1) := by decide +kernel
theorem dL_law_722 : decode cL_law 722 = .ok (.aload_n 0, 1) := by decide +kernel
theorem dL_law_723 : decode cL_law 723 = .ok (.iload_n 3, 1) := by decide +kernel
theorem dL_law_724 : decode cL_law 724 = .ok (.iconst 2, 1) := by decide +kernel
theorem dL_law_725 : decode cL_law 725 = .ok (.iadd, 1) := by decide +kernel
theorem dL_law_726 : decode cL_law 726 = .ok (.iaload, 1) := by decide +kernel
theorem dL_law_727 : decode cL_law 727 = .ok (.aload_n 0, 1) := by decide +kernel
theorem dL_law_728 : decode cL_law 728 = .ok (.iload_n 3, 1) := by decide +kernel
theorem dL_law_729 : decode cL_law 729 = .ok (.iconst 3, 1) := by decide +kernel
theorem dL_law_730 : decode cL_law 730 = .ok (.iadd, 1) := by decide +kernel
theorem dL_law_731 : decode cL_law 731 = .ok (.iaload, 1) := by decide +kernel
theorem dL_law_732 : decode cL_law 732 = .ok (.invokevirtual 80, 3) := by decide +kernel
theorem dL_law_735 : decode cL_law 735 = .ok (.aload_n 2, 1) := by decide +kernel
theorem dL_law_736 : decode cL_law 736 = .ok (.aload_n 0, 1) := by decide +kernel
theorem dL_law_737 : decode cL_law 737 = .ok (.iload_n 3, 1) := by decide +kernel
theorem dL_law_738 : decode cL_law 738 = .ok (.iconst 1, 1) := by decide +kernel
theorem dL_law_739 : decode cL_law 739 = .ok (.iadd, 1) := by decide +kernel
theorem dL_law_740 : decode cL_law 740 = .ok (.iaload, 1) := by decide +kernel
theorem dL_law_741 : decode cL_law 741 = .ok (.aload_n 0, 1) := by decide +kernel
theorem dL_law_742 : decode cL_law 742 = .ok (.iload_n 3, 1) := by decide +kernel
theorem dL_law_743 : decode cL_law 743 = .ok (.iconst 2, 1) := by decide +kernel
theorem dL_law_744 : decode cL_law 744 = .ok (.iadd, 1) := by decide +kernel
theorem dL_law_745 : decode cL_law 745 = .ok (.iaload, 1) := by decide +kernel
theorem dL_law_746 : decode cL_law 746 = .ok (.aload_n 0, 1) := by decide +kernel
theorem dL_law_747 : decode cL_law 747 = .ok (.iload_n 3, 1) := by decide +kernel
theorem dL_law_748 : decode cL_law 748 = .ok (.iconst 3, 1) := by decide +kernel
theorem dL_law_749 : decode cL_law 749 = .ok (.iadd, 1) := by decide +kernel
theorem dL_law_750 : decode cL_law 750 = .ok (.iaload, 1) := by decide +kernel
theorem dL_law_751 : decode cL_law 751 = .ok (.invokevirtual 83, 3) := by decide +kernel
theorem dL_law_754 : decode cL_law 754 = .ok (.if_icmp .eq 780, 3) := by decide +kernel
theorem dL_law_757 : decode cL_law 757 = .ok (.iconst 0, 1) := by decide +kernel
theorem dL_law_758 : decode cL_law 758 = .ok (.ireturn, 1) := by decide +kernel
theorem dL_law_759 : decode cL_law 759 = .ok (.aload_n 1, 1) := by decide +kernel
theorem dL_law_760 : decode cL_law 760 = .ok (.aload_n 0, 1) := by decide +kernel
theorem dL_law_761 : decode cL_law 761 = .ok (.iload_n 3, 1) := by decide +kernel
theorem dL_law_762 : decode cL_law 762 = .ok (.iconst 1, 1) := by decide +kernel
theorem dL_law_763 : decode cL_law 763 = .ok (.iadd, 1) := by decide +kernel
theorem dL_law_764 : decode cL_law 764 = .ok (.iaload, 1) := by decide +kernel
theorem dL_law_765 : decode cL_law 765 = .ok (.aload_n 0, 1) := by decide +kernel
theorem dL_law_766 : decode cL_law 766 = .ok (.iload_n 3, 1) := by decide +kernel
theorem dL_law_767 : decode cL_law 767 = .ok (.iconst 2, 1) := by decide +kernel
theorem dL_law_768 : decode cL_law 768 = .ok (.iadd, 1) := by decide +kernel
theorem dL_law_769 : decode cL_law 769 = .ok (.iaload, 1) := by decide +kernel
theorem dL_law_770 : decode cL_law 770 = .ok (.aload_n 0, 1) := by decide +kernel
theorem dL_law_771 : decode cL_law 771 = .ok (.iload_n 3, 1) := by decide +kernel
theorem dL_law_772 : decode cL_law 772 = .ok (.iconst 3, 1) := by decide +kernel
theorem dL_law_773 : decode cL_law 773 = .ok (.iadd, 1) := by decide +kernel
theorem dL_law_774 : decode cL_law 774 = .ok (.iaload, 1) := by decide +kernel
theorem dL_law_775 : decode cL_law 775 = .ok (.aload_n 0, 1) := by decide +kernel
theorem dL_law_776 : decode cL_law 776 = .ok (.iload_n 3, 1) := by decide +kernel
theorem dL_law_777 : decode cL_law 777 = .ok (.iconst 4, 1) := by decide +kernel
theorem dL_law_778 : decode cL_law 778 = .ok (.iadd, 1) := by decide +kernel
theorem dL_law_779 : decode cL_law 779 = .ok (.iaload, 1) := by decide +kernel
theorem dL_law_780 : decode cL_law 780 = .ok (.invokevirtual 84, 3) := by decide +kernel
theorem dL_law_783 : decode cL_law 783 = .ok (.aload_n 2, 1) := by decide +kernel
theorem dL_law_784 : decode cL_law 784 = .ok (.aload_n 0, 1) := by decide +kernel
theorem dL_law_785 : decode cL_law 785 = .ok (.iload_n 3, 1) := by decide +kernel
theorem dL_law_786 : decode cL_law 786 = .ok (.iconst 1, 1) := by decide +kernel
theorem dL_law_787 : decode cL_law 787 = .ok (.iadd, 1) := by decide +kernel
theorem dL_law_788 : decode cL_law 788 = .ok (.iaload, 1) := by decide +kernel
theorem dL_law_789 : decode cL_law 789 = .ok (.aload_n 0, 1) := by decide +kernel
theorem dL_law_790 : decode cL_law 790 = .ok (.iload_n 3, 1) := by decide +kernel
theorem dL_law_791 : decode cL_law 791 = .ok (.iconst 2, 1) := by decide +kernel
theorem dL_law_792 : decode cL_law 792 = .ok (.iadd, 1) := by decide +kernel
theorem dL_law_793 : decode cL_law 793 = .ok (.iaload, 1) := by decide +kernel
theorem dL_law_794 : decode cL_law 794 = .ok (.aload_n 0, 1) := by decide +kernel
theorem dL_law_795 : decode cL_law 795 = .ok (.iload_n 3, 1) := by decide +kernel
theorem dL_law_796 : decode cL_law 796 = .ok (.iconst 3, 1) := by decide +kernel
theorem dL_law_797 : decode cL_law 797 = .ok (.iadd, 1) := by decide +kernel
theorem dL_law_798 : decode cL_law 798 = .ok (.iaload, 1) := by decide +kernel
theorem dL_law_799 : decode cL_law 799 = .ok (.aload_n 0, 1) := by decide +kernel
theorem dL_law_800 : decode cL_law 800 = .ok (.iload_n 3, 1) := by decide +kernel
theorem dL_law_801 : decode cL_law 801 = .ok (.iconst 4, 1) := by decide +kernel
theorem dL_law_802 : decode cL_law 802 = .ok (.iadd, 1) := by decide +kernel
theorem dL_law_803 : decode cL_law 803 = .ok (.iaload, 1) := by decide +kernel
theorem dL_law_804 : decode cL_law 804 = .ok (.invokevirtual 88, 3) := by decide +kernel
theorem dL_law_807 : decode cL_law 807 = .ok (.if_icmp .eq 727, 3) := by decide +kernel
theorem dL_law_810 : decode cL_law 810 = .ok (.iconst 0, 1) := by decide +kernel
theorem dL_law_811 : decode cL_law 811 = .ok (.ireturn, 1) := by decide +kernel
theorem dL_law_812 : decode cL_law 812 = .ok (.aload_n 1, 1) := by decide +kernel
theorem dL_law_813 : decode cL_law 813 = .ok (.aload_n 0, 1) := by decide +kernel
theorem dL_law_814 : decode cL_law 814 = .ok (.iload_n 3, 1) := by decide +kernel
theorem dL_law_815 : decode cL_law 815 = .ok (.iconst 1, 1) := by decide +kernel
theorem dL_law_816 : decode cL_law 816 = .ok (.iadd, 1) := by decide +kernel
theorem dL_law_817 : decode cL_law 817 = .ok (.iaload, 1) := by decide +kernel
theorem dL_law_818 : decode cL_law 818 = .ok (.invokevirtual 89, 3) := by decide +kernel
theorem dL_law_821 : decode cL_law 821 = .ok (.aload_n 2, 1) := by decide +kernel
theorem dL_law_822 : decode cL_law 822 = .ok (.aload_n 0, 1) := by decide +kernel
theorem dL_law_823 : decode cL_law 823 = .ok (.iload_n 3, 1) := by decide +kernel
theorem dL_law_824 : decode cL_law 824 = .ok (.iconst 1, 1) := by decide +kernel
theorem dL_law_825 : decode cL_law 825 = .ok (.iadd, 1) := by decide +kernel
theorem dL_law_826 : decode cL_law 826 = .ok (.iaload, 1) := by decide +kernel
theorem dL_law_827 : decode cL_law 827 = .ok (.invokevirtual 92, 3) := by decide +kernel
theorem dL_law_830 : decode cL_law 830 = .ok (.if_icmp .eq 704, 3) := by decide +kernel
theorem dL_law_833 : decode cL_law 833 = .ok (.iconst 0, 1) := by decide +kernel
theorem dL_law_834 : decode cL_law 834 = .ok (.ireturn, 1) := by decide +kernel
theorem dL_law_835 : decode cL_law 835 = .ok (.aload_n 1, 1) := by decide +kernel
theorem dL_law_836 : decode cL_law 836 = .ok (.aload_n 0, 1) := by decide +kernel
theorem dL_law_837 : decode cL_law 837 = .ok (.iload_n 3, 1) := by decide +kernel
theorem dL_law_838 : decode cL_law 838 = .ok (.iconst 1, 1) := by decide +kernel
theorem dL_law_839 : decode cL_law 839 = .ok (.iadd, 1) := by decide +kernel
theorem dL_law_840 : decode cL_law 840 = .ok (.iaload, 1) := by decide +kernel
theorem dL_law_841 : decode cL_law 841 = .ok (.aload_n 0, 1) := by decide +kernel
theorem dL_law_842 : decode cL_law 842 = .ok (.iload_n 3, 1) := by decide +kernel
theorem dL_law_843 : decode cL_law 843 = .ok (.iconst 2, 1) := by decide +kernel
theorem dL_law_844 : decode cL_law 844 = .ok (.iadd, 1) := by decide +kernel
theorem dL_law_845 : decode cL_law 845 = .ok (.iaload, 1) := by decide +kernel
theorem dL_law_846 : decode cL_law 846 = .ok (.aload_n 0, 1) := by decide +kernel
theorem dL_law_847 : decode cL_law 847 = .ok (.iload_n 3, 1) := by decide +kernel
theorem dL_law_848 : decode cL_law 848 = .ok (.iconst 3, 1) := by decide +kernel
theorem dL_law_849 : decode cL_law 849 = .ok (.iadd, 1) := by decide +kernel
theorem dL_law_850 : decode cL_law 850 = .ok (.iaload, 1) := by decide +kernel
theorem dL_law_851 : decode cL_law 851 = .ok (.aload_n 0, 1) := by decide +kernel
theorem dL_law_852 : decode cL_law 852 = .ok (.iload_n 3, 1) := by decide +kernel
theorem dL_law_853 : decode cL_law 853 = .ok (.iconst 4, 1) := by decide +kernel
theorem dL_law_854 : decode cL_law 854 = .ok (.iadd, 1) := by decide +kernel
theorem dL_law_855 : decode cL_law 855 = .ok (.iaload, 1) := by decide +kernel
theorem dL_law_856 : decode cL_law 856 = .ok (.invokevirtual 93, 3) := by decide +kernel
theorem dL_law_859 : decode cL_law 859 = .ok (.aload_n 2, 1) := by decide +kernel
theorem dL_law_860 : decode cL_law 860 = .ok (.aload_n 0, 1) := by decide +kernel
theorem dL_law_861 : decode cL_law 861 = .ok (.iload_n 3, 1) := by decide +kernel
theorem dL_law_862 : decode cL_law 862 = .ok (.iconst 1, 1) := by decide +kernel
theorem dL_law_863 : decode cL_law 863 = .ok (.iadd, 1) := by decide +kernel
theorem dL_law_864 : decode cL_law 864 = .ok (.iaload, 1) := by decide +kernel
theorem dL_law_865 : decode cL_law 865 = .ok (.aload_n 0, 1) := by decide +kernel
theorem dL_law_866 : decode cL_law 866 = .ok (.iload_n 3, 1) := by decide +kernel
theorem dL_law_867 : decode cL_law 867 = .ok (.iconst 2, 1) := by decide +kernel
theorem dL_law_868 : decode cL_law 868 = .ok (.iadd, 1) := by decide +kernel
theorem dL_law_869 : decode cL_law 869 = .ok (.iaload, 1) := by decide +kernel
theorem dL_law_870 : decode cL_law 870 = .ok (.aload_n 0, 1) := by decide +kernel
theorem dL_law_871 : decode cL_law 871 = .ok (.iload_n 3, 1) := by decide +kernel
theorem dL_law_872 : decode cL_law 872 = .ok (.iconst 3, 1) := by decide +kernel
theorem dL_law_873 : decode cL_law 873 = .ok (.iadd, 1) := by decide +kernel
theorem dL_law_874 : decode cL_law 874 = .ok (.iaload, 1) := by decide +kernel
theorem dL_law_875 : decode cL_law 875 = .ok (.aload_n 0, 1) := by decide +kernel
theorem dL_law_876 : decode cL_law 876 = .ok (.iload_n 3, 1) := by decide +kernel
theorem dL_law_877 : decode cL_law 877 = .ok (.iconst 4, 1) := by decide +kernel
theorem dL_law_878 : decode cL_law 878 = .ok (.iadd, 1) := by decide +kernel
theorem dL_law_879 : decode cL_law 879 = .ok (.iaload, 1) := by decide +kernel
theorem dL_law_880 : decode cL_law 880 = .ok (.invokevirtual 96, 3) := by decide +kernel
theorem dL_law_883 : decode cL_law 883 = .ok (.if_icmp .eq 651, 3) := by decide +kernel
theorem dL_law_886 : decode cL_law 886 = .ok (.iconst 0, 1) := by decide +kernel
theorem dL_law_887 : decode cL_law 887 = .ok (.ireturn, 1) := by decide +kernel
theorem dL_law_888 : decode cL_law 888 = .ok (.aload_n 1, 1) := by decide +kernel
theorem dL_law_889 : decode cL_law 889 = .ok (.aload_n 0, 1) := by decide +kernel
theorem dL_law_890 : decode cL_law 890 = .ok (.iload_n 3, 1) := by decide +kernel
theorem dL_law_891 : decode cL_law 891 = .ok (.iconst 1, 1) := by decide +kernel
theorem dL_law_892 : decode cL_law 892 = .ok (.iadd, 1) := by decide +kernel
theorem dL_law_893 : decode cL_law 893 = .ok (.iaload, 1) := by decide +kernel
theorem dL_law_894 : decode cL_law 894 = .ok (.aload_n 0, 1) := by decide +kernel
theorem dL_law_895 : decode cL_law 895 = .ok (.iload_n 3, 1) := by decide +kernel
theorem dL_law_896 : decode cL_law 896 = .ok (.iconst 2, 1) := by decide +kernel
theorem dL_law_897 : decode cL_law 897 = .ok (.iadd, 1) := by decide +kernel
theorem dL_law_898 : decode cL_law 898 = .ok (.iaload, 1) := by decide +kernel
theorem dL_law_899 : decode cL_law 899 = .ok (.invokevirtual 97, 3) := by decide +kernel
theorem dL_law_902 : decode cL_law 902 = .ok (.aload_n 2, 1) := by decide +kernel
theorem dL_law_903 : decode cL_law 903 = .ok (.aload_n 0, 1) := by decide +kernel
theorem dL_law_904 : decode cL_law 904 = .ok (.iload_n 3, 1) := by decide +kernel
theorem dL_law_905 : decode cL_law 905 = .ok (.iconst 1, 1) := by decide +kernel
theorem dL_law_906 : decode cL_law 906 = .ok (.iadd, 1) := by decide +kernel
theorem dL_law_907 : decode cL_law 907 = .ok (.iaload, 1) := by decide +kernel
theorem dL_law_908 : decode cL_law 908 = .ok (.aload_n 0, 1) := by decide +kernel
theorem dL_law_909 : decode cL_law 909 = .ok (.iload_n 3, 1) := by decide +kernel
theorem dL_law_910 : decode cL_law 910 = .ok (.iconst 2, 1) := by decide +kernel
theorem dL_law_911 : decode cL_law 911 = .ok (.iadd, 1) := by decide +kernel
theorem dL_law_912 : decode cL_law 912 = .ok (.iaload, 1) := by decide +kernel
theorem dL_law_913 : decode cL_law 913 = .ok (.invokevirtual 100, 3) := by decide +kernel
theorem dL_law_916 : decode cL_law 916 = .ok (.if_icmp .eq 618, 3) := by decide +kernel
theorem dL_law_919 : decode cL_law 919 = .ok (.iconst 0, 1) := by decide +kernel
theorem dL_law_920 : decode cL_law 920 = .ok (.ireturn, 1) := by decide +kernel
theorem dL_law_921 : decode cL_law 921 = .ok (.aload_n 1, 1) := by decide +kernel
theorem dL_law_922 : decode cL_law 922 = .ok (.aload_n 0, 1) := by decide +kernel
theorem dL_law_923 : decode cL_law 923 = .ok (.iload_n 3, 1) := by decide +kernel
theorem dL_law_924 : decode cL_law 924 = .ok (.iconst 1, 1) := by decide +kernel
theorem dL_law_925 : decode cL_law 925 = .ok (.iadd, 1) := by decide +kernel
theorem dL_law_926 : decode cL_law 926 = .ok (.iaload, 1) := by decide +kernel
theorem dL_law_927 : decode cL_law 927 = .ok (.aload_n 0, 1) := by decide +kernel
theorem dL_law_928 : decode cL_law 928 = .ok (.iload_n 3, 1) := by decide +kernel
theorem dL_law_929 : decode cL_law 929 = .ok (.iconst 2, 1) := by decide +kernel
theorem dL_law_930 : decode cL_law 930 = .ok (.iadd, 1) := by decide +kernel
theorem dL_law_931 : decode cL_law 931 = .ok (.iaload, 1) := by decide +kernel
theorem dL_law_932 : decode cL_law 932 = .ok (.invokevirtual 101, 3) := by decide +kernel
theorem dL_law_935 : decode cL_law 935 = .ok (.aload_n 2, 1) := by decide +kernel
theorem dL_law_936 : decode cL_law 936 = .ok (.aload_n 0, 1) := by decide +kernel
theorem dL_law_937 : decode cL_law 937 = .ok (.iload_n 3, 1) := by decide +kernel
theorem dL_law_938 : decode cL_law 938 = .ok (.iconst 1, 1) := by decide +kernel
theorem dL_law_939 : decode cL_law 939 = .ok (.iadd, 1) := by decide +kernel
theorem dL_law_940 : decode cL_law 940 = .ok (.iaload, 1) := by decide +kernel
theorem dL_law_941 : decode cL_law 941 = .ok (.aload_n 0, 1) := by decide +kernel
theorem dL_law_942 : decode cL_law 942 = .ok (.iload_n 3, 1) := by decide +kernel
theorem dL_law_943 : decode cL_law 943 = .ok (.iconst 2, 1) := by decide +kernel
theorem dL_law_944 : decode cL_law 944 = .ok (.iadd, 1) := by decide +kernel
theorem dL_law_945 : decode cL_law 945 = .ok (.iaload, 1) := by decide +kernel
theorem dL_law_946 : decode cL_law 946 = .ok (.invokevirtual 104, 3) := by decide +kernel
theorem dL_law_949 : decode cL_law 949 = .ok (.if_icmp .eq 585, 3) := by decide +kernel
theorem dL_law_952 : decode cL_law 952 = .ok (.iconst 0, 1) := by decide +kernel
theorem dL_law_953 : decode cL_law 953 = .ok (.ireturn, 1) := by decide +kernel
theorem dL_law_954 : decode cL_law 954 = .ok (.aload_n 1, 1) := by decide +kernel
theorem dL_law_955 : decode cL_law 955 = .ok (.aload_n 0, 1) := by decide +kernel
theorem dL_law_956 : decode cL_law 956 = .ok (.iload_n 3, 1) := by decide +kernel
theorem dL_law_957 : decode cL_law 957 = .ok (.iconst 1, 1) := by decide +kernel
theorem dL_law_958 : decode cL_law 958 = .ok (.iadd, 1) := by decide +kernel
theorem dL_law_959 : decode cL_law 959 = .ok (.iaload, 1) := by decide +kernel
theorem dL_law_960 : decode cL_law 960 = .ok (.invokevirtual 105, 3) := by decide +kernel
theorem dL_law_963 : decode cL_law 963 = .ok (.aload_n 2, 1) := by decide +kernel
theorem dL_law_964 : decode cL_law 964 = .ok (.aload_n 0, 1) := by decide +kernel
theorem dL_law_965 : decode cL_law 965 = .ok (.iload_n 3, 1) := by decide +kernel
theorem dL_law_966 : decode cL_law 966 = .ok (.iconst 1, 1) := by decide +kernel
theorem dL_law_967 : decode cL_law 967 = .ok (.iadd, 1) := by decide +kernel
theorem dL_law_968 : decode cL_law 968 = .ok (.iaload, 1) := by decide +kernel
theorem dL_law_969 : decode cL_law 969 = .ok (.invokevirtual 108, 3) := by decide +kernel
theorem dL_law_972 : decode cL_law 972 = .ok (.if_icmp .eq 562, 3) := by decide +kernel
theorem dL_law_975 : decode cL_law 975 = .ok (.iconst 0, 1) := by decide +kernel
theorem dL_law_976 : decode cL_law 976 = .ok (.ireturn, 1) := by decide +kernel
theorem dL_law_977 : decode cL_law 977 = .ok (.aload_n 1, 1) := by decide +kernel
theorem dL_law_978 : decode cL_law 978 = .ok (.aload_n 0, 1) := by decide +kernel
theorem dL_law_979 : decode cL_law 979 = .ok (.iload_n 3, 1) := by decide +kernel
theorem dL_law_980 : decode cL_law 980 = .ok (.iconst 1, 1) := by decide +kernel
theorem dL_law_981 : decode cL_law 981 = .ok (.iadd, 1) := by decide +kernel
theorem dL_law_982 : decode cL_law 982 = .ok (.iaload, 1) := by decide +kernel
theorem dL_law_983 : decode cL_law 983 = .ok (.invokevirtual 109, 3) := by decide +kernel
theorem dL_law_986 : decode cL_law 986 = .ok (.aload_n 2, 1) := by decide +kernel
theorem dL_law_987 : decode cL_law 987 = .ok (.aload_n 0, 1) := by decide +kernel
theorem dL_law_988 : decode cL_law 988 = .ok (.iload_n 3, 1) := by decide +kernel
theorem dL_law_989 : decode cL_law 989 = .ok (.iconst 1, 1) := by decide +kernel
theorem dL_law_990 : decode cL_law 990 = .ok (.iadd, 1) := by decide +kernel
theorem dL_law_991 : decode cL_law 991 = .ok (.iaload, 1) := by decide +kernel
theorem dL_law_992 : decode cL_law 992 = .ok (.invokevirtual 112, 3) := by decide +kernel
theorem dL_law_995 : decode cL_law 995 = .ok (.if_icmp .eq 539, 3) := by decide +kernel
theorem dL_law_998 : decode cL_law 998 = .ok (.iconst 0, 1) := by decide +kernel
theorem dL_law_999 : decode cL_law 999 = .ok (.ireturn, 1) := by decide +kernel
theorem dL_law_1000 : decode cL_law 1000 = .ok (.aload_n 1, 1) := by decide +kernel
theorem dL_law_1001 : decode cL_law 1001 = .ok (.aload_n 0, 1) := by decide +kernel
theorem dL_law_1002 : decode cL_law 1002 = .ok (.iload_n 3, 1) := by decide +kernel
theorem dL_law_1003 : decode cL_law 1003 = .ok (.iconst 1, 1) := by decide +kernel
theorem dL_law_1004 : decode cL_law 1004 = .ok (.iadd, 1) := by decide +kernel
theorem dL_law_1005 : decode cL_law 1005 = .ok (.iaload, 1) := by decide +kernel
theorem dL_law_1006 : decode cL_law 1006 = .ok (.invokevirtual 113, 3) := by decide +kernel
theorem dL_law_1009 : decode cL_law 1009 = .ok (.aload_n 2, 1) := by decide +kernel
theorem dL_law_1010 : decode cL_law 1010 = .ok (.aload_n 0, 1) := by decide +kernel
theorem dL_law_1011 : decode cL_law 1011 = .ok (.iload_n 3, 1) := by decide +kernel
theorem dL_law_1012 : decode cL_law 1012 = .ok (.iconst 1, 1) := by decide +kernel
theorem dL_law_1013 : decode cL_law 1013 = .ok (.iadd, 1) := by decide +kernel
theorem dL_law_1014 : decode cL_law 1014 = .ok (.iaload, 1) := by decide +kernel
theorem dL_law_1015 : decode cL_law 1015 = .ok (.invokevirtual 116, 3) := by decide +kernel
theorem dL_law_1018 : decode cL_law 1018 = .ok (.if_icmp .eq 516, 3) := by decide +kernel
theorem dL_law_1021 : decode cL_law 1021 = .ok (.iconst 0, 1) := by decide +kernel
theorem dL_law_1022 : decode cL_law 1022 = .ok (.ireturn, 1) := by decide +kernel
theorem dL_law_1023 : decode cL_law 1023 = .ok (.aload_n 1, 1) := by decide +kernel
theorem dL_law_1024 : decode cL_law 1024 = .ok (.invokevirtual 117, 3) := by decide +kernel
theorem dL_law_1027 : decode cL_law 1027 = .ok (.aload_n 2, 1) := by decide +kernel
theorem dL_law_1028 : decode cL_law 1028 = .ok (.invokevirtual 121, 3) := by decide +kernel
theorem dL_law_1031 : decode cL_law 1031 = .ok (.if_icmp .eq 503, 3) := by decide +kernel
theorem dL_law_1034 : decode cL_law 1034 = .ok (.iconst 0, 1) := by decide +kernel
theorem dL_law_1035 : decode cL_law 1035 = .ok (.ireturn, 1) := by decide +kernel
theorem dL_law_1036 : decode cL_law 1036 = .ok (.aload_n 1, 1) := by decide +kernel
theorem dL_law_1037 : decode cL_law 1037 = .ok (.invokevirtual 122, 3) := by decide +kernel
theorem dL_law_1040 : decode cL_law 1040 = .ok (.aload_n 2, 1) := by decide +kernel
theorem dL_law_1041 : decode cL_law 1041 = .ok (.invokevirtual 125, 3) := by decide +kernel
theorem dL_law_1044 : decode cL_law 1044 = .ok (.if_icmp .eq 490, 3) := by decide +kernel
theorem dL_law_1047 : decode cL_law 1047 = .ok (.iconst 0, 1) := by decide +kernel
theorem dL_law_1048 : decode cL_law 1048 = .ok (.ireturn, 1) := by decide +kernel
theorem dL_law_1049 : decode cL_law 1049 = .ok (.aload_n 1, 1) := by decide +kernel
theorem dL_law_1050 : decode cL_law 1050 = .ok (.aload_n 0, 1) := by decide +kernel
theorem dL_law_1051 : decode cL_law 1051 = .ok (.iload_n 3, 1) := by decide +kernel
theorem dL_law_1052 : decode cL_law 1052 = .ok (.iconst 1, 1) := by decide +kernel
theorem dL_law_1053 : decode cL_law 1053 = .ok (.iadd, 1) := by decide +kernel
theorem dL_law_1054 : decode cL_law 1054 = .ok (.iaload, 1) := by decide +kernel
theorem dL_law_1055 : decode cL_law 1055 = .ok (.invokevirtual 126, 3) := by decide +kernel
theorem dL_law_1058 : decode cL_law 1058 = .ok (.aload_n 2, 1) := by decide +kernel
theorem dL_law_1059 : decode cL_law 1059 = .ok (.aload_n 0, 1) := by decide +kernel
theorem dL_law_1060 : decode cL_law 1060 = .ok (.iload_n 3, 1) := by decide +kernel
theorem dL_law_1061 : decode cL_law 1061 = .ok (.iconst 1, 1) := by decide +kernel
theorem dL_law_1062 : decode cL_law 1062 = .ok (.iadd, 1) := by decide +kernel
theorem dL_law_1063 : decode cL_law 1063 = .ok (.iaload, 1) := by decide +kernel
theorem dL_law_1064 : decode cL_law 1064 = .ok (.invokevirtual 129, 3) := by decide +kernel
theorem dL_law_1067 : decode cL_law 1067 = .ok (.if_icmp .eq 467, 3) := by decide +kernel
theorem dL_law_1070 : decode cL_law 1070 = .ok (.iconst 0, 1) := by decide +kernel
theorem dL_law_1071 : decode cL_law 1071 = .ok (.ireturn, 1) := by decide +kernel
theorem dL_law_1072 : decode cL_law 1072 = .ok (.aload_n 1, 1) := by decide +kernel
theorem dL_law_1073 : decode cL_law 1073 = .ok (.aload_n 0, 1) := by decide +kernel
theorem dL_law_1074 : decode cL_law 1074 = .ok (.iload_n 3, 1) := by decide +kernel
theorem dL_law_1075 : decode cL_law 1075 = .ok (.iconst 1, 1) := by decide +kernel
theorem dL_law_1076 : decode cL_law 1076 = .ok (.iadd, 1) := by decide +kernel
theorem dL_law_1077 : decode cL_law 1077 = .ok (.iaload, 1) := by decide +kernel
theorem dL_law_1078 : decode cL_law 1078 = .ok (.invokevirtual 130, 3) := by decide +kernel
theorem dL_law_1081 : decode cL_law 1081 = .ok (.aload_n 2, 1) := by decide +kernel
theorem dL_law_1082 : decode cL_law 1082 = .ok (.aload_n 0, 1) := by decide +kernel
theorem dL_law_1083 : decode cL_law 1083 = .ok (.iload_n 3, 1) := by decide +kernel
theorem dL_law_1084 : decode cL_law 1084 = .ok (.iconst 1, 1) := by decide +kernel
theorem dL_law_1085 : decode cL_law 1085 = .ok (.iadd, 1) := by decide +kernel
theorem dL_law_1086 : decode cL_law 1086 = .ok (.iaload, 1) := by decide +kernel
theorem dL_law_1087 : decode cL_law 1087 = .ok (.invokevirtual 133, 3) := by decide +kernel
theorem dL_law_1090 : decode cL_law 1090 = .ok (.if_icmp .eq 444, 3) := by decide +kernel
theorem dL_law_1093 : decode cL_law 1093 = .ok (.iconst 0, 1) := by decide +kernel
theorem dL_law_1094 : decode cL_law 1094 = .ok (.ireturn, 1) := by decide +kernel
theorem dL_law_1095 : decode cL_law 1095 = .ok (.aload_n 1, 1) := by decide +kernel
theorem dL_law_1096 : decode cL_law 1096 = .ok (.invokevirtual 134, 3) := by decide +kernel
theorem dL_law_1099 : decode cL_law 1099 = .ok (.aload_n 2, 1) := by decide +kernel
theorem dL_law_1100 : decode cL_law 1100 = .ok (.invokevirtual 137, 3) := by decide +kernel
theorem dL_law_1103 : decode cL_law 1103 = .ok (.if_icmp .eq 431, 3) := by decide +kernel
theorem dL_law_1106 : decode cL_law 1106 = .ok (.iconst 0, 1) := by decide +kernel
theorem dL_law_1107 : decode cL_law 1107 = .ok (.ireturn, 1) := by decide +kernel
theorem dL_law_1108 : decode cL_law 1108 = .ok (.aload_n 1, 1) := by decide +kernel
theorem dL_law_1109 : decode cL_law 1109 = .ok (.invokevirtual 138, 3) := by decide +kernel
theorem dL_law_1112 : decode cL_law 1112 = .ok (.aload_n 2, 1) := by decide +kernel
theorem dL_law_1113 : decode cL_law 1113 = .ok (.invokevirtual 141, 3) := by decide +kernel
theorem dL_law_1116 : decode cL_law 1116 = .ok (.if_icmp .eq 418, 3) := by decide +kernel
theorem dL_law_1119 : decode cL_law 1119 = .ok (.iconst 0, 1) := by decide +kernel
theorem dL_law_1120 : decode cL_law 1120 = .ok (.ireturn, 1) := by decide +kernel
theorem dL_law_1121 : decode cL_law 1121 = .ok (.aload_n 1, 1) := by decide +kernel
theorem dL_law_1122 : decode cL_law 1122 = .ok (.aload_n 0, 1) := by decide +kernel
theorem dL_law_1123 : decode cL_law 1123 = .ok (.iload_n 3, 1) := by decide +kernel
theorem dL_law_1124 : decode cL_law 1124 = .ok (.iconst 1, 1) := by decide +kernel
theorem dL_law_1125 : decode cL_law 1125 = .ok (.iadd, 1) := by decide +kernel
theorem dL_law_1126 : decode cL_law 1126 = .ok (.iaload, 1) := by decide +kernel
theorem dL_law_1127 : decode cL_law 1127 = .ok (.aload_n 0, 1) := by decide +kernel
theorem dL_law_1128 : decode cL_law 1128 = .ok (.iload_n 3, 1) := by decide +kernel
theorem dL_law_1129 : decode cL_law 1129 = .ok (.iconst 2, 1) := by decide +kernel
theorem dL_law_1130 : decode cL_law 1130 = .ok (.iadd, 1) := by decide +kernel
theorem dL_law_1131 : decode cL_law 1131 = .ok (.iaload, 1) := by decide +kernel
theorem dL_law_1132 : decode cL_law 1132 = .ok (.invokevirtual 142, 3) := by decide +kernel
theorem dL_law_1135 : decode cL_law 1135 = .ok (.aload_n 2, 1) := by decide +kernel
theorem dL_law_1136 : decode cL_law 1136 = .ok (.aload_n 0, 1) := by decide +kernel
theorem dL_law_1137 : decode cL_law 1137 = .ok (.iload_n 3, 1) := by decide +kernel
theorem dL_law_1138 : decode cL_law 1138 = .ok (.iconst 1, 1) := by decide +kernel
theorem dL_law_1139 : decode cL_law 1139 = .ok (.iadd, 1) := by decide +kernel
theorem dL_law_1140 : decode cL_law 1140 = .ok (.iaload, 1) := by decide +kernel
theorem dL_law_1141 : decode cL_law 1141 = .ok (.aload_n 0, 1) := by decide +kernel
theorem dL_law_1142 : decode cL_law 1142 = .ok (.iload_n 3, 1) := by decide +kernel
theorem dL_law_1143 : decode cL_law 1143 = .ok (.iconst 2, 1) := by decide +kernel
theorem dL_law_1144 : decode cL_law 1144 = .ok (.iadd, 1) := by decide +kernel
theorem dL_law_1145 : decode cL_law 1145 = .ok (.iaload, 1) := by decide +kernel
theorem dL_law_1146 : decode cL_law 1146 = .ok (.invokevirtual 145, 3) := by decide +kernel
theorem dL_law_1149 : decode cL_law 1149 = .ok (.if_icmp .eq 385, 3) := by decide +kernel
theorem dL_law_1152 : decode cL_law 1152 = .ok (.iconst 0, 1) := by decide +kernel
theorem dL_law_1153 : decode cL_law 1153 = .ok (.ireturn, 1) := by decide +kernel
theorem dL_law_1154 : decode cL_law 1154 = .ok (.aload_n 1, 1) := by decide +kernel
theorem dL_law_1155 : decode cL_law 1155 = .ok (.aload_n 0, 1) := by decide +kernel
theorem dL_law_1156 : decode cL_law 1156 = .ok (.iload_n 3, 1) := by decide +kernel
theorem dL_law_1157 : decode cL_law 1157 = .ok (.iconst 1, 1) := by decide +kernel
theorem dL_law_1158 : decode cL_law 1158 = .ok (.iadd, 1) := by decide +kernel
theorem dL_law_1159 : decode cL_law 1159 = .ok (.iaload, 1) := by decide +kernel
theorem dL_law_1160 : decode cL_law 1160 = .ok (.invokevirtual 146, 3) := by decide +kernel
theorem dL_law_1163 : decode cL_law 1163 = .ok (.aload_n 2, 1) := by decide +kernel
theorem dL_law_1164 : decode cL_law 1164 = .ok (.aload_n 0, 1) := by decide +kernel
theorem dL_law_1165 : decode cL_law 1165 = .ok (.iload_n 3, 1) := by decide +kernel
theorem dL_law_1166 : decode cL_law 1166 = .ok (.iconst 1, 1) := by decide +kernel
theorem dL_law_1167 : decode cL_law 1167 = .ok (.iadd, 1) := by decide +kernel
theorem dL_law_1168 : decode cL_law 1168 = .ok (.iaload, 1) := by decide +kernel
theorem dL_law_1169 : decode cL_law 1169 = .ok (.invokevirtual 149, 3) := by decide +kernel
theorem dL_law_1172 : decode cL_law 1172 = .ok (.if_icmp .eq 362, 3) := by decide +kernel
theorem dL_law_1175 : decode cL_law 1175 = .ok (.iconst 0, 1) := by decide +kernel
theorem dL_law_1176 : decode cL_law 1176 = .ok (.ireturn, 1) := by decide +kernel
theorem dL_law_1177 : decode cL_law 1177 = .ok (.aload_n 1, 1) := by decide +kernel
theorem dL_law_1178 : decode cL_law 1178 = .ok (.aload_n 0, 1) := by decide +kernel
theorem dL_law_1179 : decode cL_law 1179 = .ok (.iload_n 3, 1) := by decide +kernel
theorem dL_law_1180 : decode cL_law 1180 = .ok (.iconst 1, 1) := by decide +kernel
theorem dL_law_1181 : decode cL_law 1181 = .ok (.iadd, 1) := by decide +kernel
theorem dL_law_1182 : decode cL_law 1182 = .ok (.iaload, 1) := by decide +kernel
theorem dL_law_1183 : decode cL_law 1183 = .ok (.aload_n 0, 1) := by decide +kernel
theorem dL_law_1184 : decode cL_law 1184 = .ok (.iload_n 3, 1) := by decide +kernel
theorem dL_law_1185 : decode cL_law 1185 = .ok (.iconst 2, 1) := by decide +kernel
theorem dL_law_1186 : decode cL_law 1186 = .ok (.iadd, 1) := by decide +kernel
theorem dL_law_1187 : decode cL_law 1187 = .ok (.iaload, 1) := by decide +kernel
theorem dL_law_1188 : decode cL_law 1188 = .ok (.aload_n 0, 1) := by decide +kernel
theorem dL_law_1189 : decode cL_law 1189 = .ok (.iload_n 3, 1) := by decide +kernel
theorem dL_law_1190 : decode cL_law 1190 = .ok (.iconst 3, 1) := by decide +kernel
theorem dL_law_1191 : decode cL_law 1191 = .ok (.iadd, 1) := by decide +kernel
theorem dL_law_1192 : decode cL_law 1192 = .ok (.iaload, 1) := by decide +kernel
theorem dL_law_1193 : decode cL_law 1193 = .ok (.invokevirtual 150, 3) := by decide +kernel
theorem dL_law_1196 : decode cL_law 1196 = .ok (.aload_n 2, 1) := by decide +kernel
theorem dL_law_1197 : decode cL_law 1197 = .ok (.aload_n 0, 1) := by decide +kernel
theorem dL_law_1198 : decode cL_law 1198 = .ok (.iload_n 3, 1) := by decide +kernel
theorem dL_law_1199 : decode cL_law 1199 = .ok (.iconst 1, 1) := by decide +kernel
theorem dL_law_1200 : decode cL_law 1200 = .ok (.iadd, 1) := by decide +kernel
theorem dL_law_1201 : decode cL_law 1201 = .ok (.iaload, 1) := by decide +kernel
theorem dL_law_1202 : decode cL_law 1202 = .ok (.aload_n 0, 1) := by decide +kernel
theorem dL_law_1203 : decode cL_law 1203 = .ok (.iload_n 3, 1) := by decide +kernel
theorem dL_law_1204 : decode cL_law 1204 = .ok (.iconst 2, 1) := by decide +kernel
theorem dL_law_1205 : decode cL_law 1205 = .ok (.iadd, 1) := by decide +kernel
theorem dL_law_1206 : decode cL_law 1206 = .ok (.iaload, 1) := by decide +kernel
theorem dL_law_1207 : decode cL_law 1207 = .ok (.aload_n 0, 1) := by decide +kernel
theorem dL_law_1208 : decode cL_law 1208 = .ok (.iload_n 3, 1) := by decide +kernel
theorem dL_law_1209 : decode cL_law 1209 = .ok (.iconst 3, 1) := by decide +kernel
theorem dL_law_1210 : decode cL_law 1210 = .ok (.iadd, 1) := by decide +kernel
theorem dL_law_1211 : decode cL_law 1211 = .ok (.iaload, 1) := by decide +kernel
theorem dL_law_1212 : decode cL_law 1212 = .ok (.invokevirtual 153, 3) := by decide +kernel
theorem dL_law_1215 : decode cL_law 1215 = .ok (.if_icmp .eq 319, 3) := by decide +kernel
theorem dL_law_1218 : decode cL_law 1218 = .ok (.iconst 0, 1) := by decide +kernel
theorem dL_law_1219 : decode cL_law 1219 = .ok (.ireturn, 1) := by decide +kernel
theorem dL_law_1220 : decode cL_law 1220 = .ok (.aload_n 1, 1) := by decide +kernel
theorem dL_law_1221 : decode cL_law 1221 = .ok (.aload_n 0, 1) := by decide +kernel
theorem dL_law_1222 : decode cL_law 1222 = .ok (.iload_n 3, 1) := by decide +kernel
theorem dL_law_1223 : decode cL_law 1223 = .ok (.iconst 1, 1) := by decide +kernel
theorem dL_law_1224 : decode cL_law 1224 = .ok (.iadd, 1) := by decide +kernel
theorem dL_law_1225 : decode cL_law 1225 = .ok (.iaload, 1) := by decide +kernel
theorem dL_law_1226 : decode cL_law 1226 = .ok (.aload_n 0, 1) := by decide +kernel
theorem dL_law_1227 : decode cL_law 1227 = .ok (.iload_n 3, 1) := by decide +kernel
theorem dL_law_1228 : decode cL_law 1228 = .ok (.iconst 2, 1) := by decide +kernel
theorem dL_law_1229 : decode cL_law 1229 = .ok (.iadd, 1) := by decide +kernel
theorem dL_law_1230 : decode cL_law 1230 = .ok (.iaload, 1) := by decide +kernel
theorem dL_law_1231 : decode cL_law 1231 = .ok (.invokevirtual 154, 3) := by decide +kernel
theorem dL_law_1234 : decode cL_law 1234 = .ok (.aload_n 2, 1) := by decide +kernel
theorem dL_law_1235 : decode cL_law 1235 = .ok (.aload_n 0, 1) := by decide +kernel
theorem dL_law_1236 : decode cL_law 1236 = .ok (.iload_n 3, 1) := by decide +kernel
theorem dL_law_1237 : decode cL_law 1237 = .ok (.iconst 1, 1) := by decide +kernel
theorem dL_law_1238 : decode cL_law 1238 = .ok (.iadd, 1) := by decide +kernel
theorem dL_law_1239 : decode cL_law 1239 = .ok (.iaload, 1) := by decide +kernel
theorem dL_law_1240 : decode cL_law 1240 = .ok (.aload_n 0, 1) := by decide +kernel
theorem dL_law_1241 : decode cL_law 1241 = .ok (.iload_n 3, 1) := by decide +kernel
theorem dL_law_1242 : decode cL_law 1242 = .ok (.iconst 2, 1) := by decide +kernel
theorem dL_law_1243 : decode cL_law 1243 = .ok (.iadd, 1) := by decide +kernel
theorem dL_law_1244 : decode cL_law 1244 = .ok (.iaload, 1) := by decide +kernel
theorem dL_law_1245 : decode cL_law 1245 = .ok (.invokevirtual 158, 3) := by decide +kernel
theorem dL_law_1248 : decode cL_law 1248 = .ok (.lcmp, 1) := by decide +kernel
theorem dL_law_1249 : decode cL_law 1249 = .ok (.ifCond .eq 285, 3) := by decide +kernel
theorem dL_law_1252 : decode cL_law 1252 = .ok (.iconst 0, 1) := by decide +kernel
theorem dL_law_1253 : decode cL_law 1253 = .ok (.ireturn, 1) := by decide +kernel
theorem dL_law_1254 : decode cL_law 1254 = .ok (.aload_n 1, 1) := by decide +kernel
theorem dL_law_1255 : decode cL_law 1255 = .ok (.aload_n 0, 1) := by decide +kernel
theorem dL_law_1256 : decode cL_law 1256 = .ok (.iload_n 3, 1) := by decide +kernel
theorem dL_law_1257 : decode cL_law 1257 = .ok (.iconst 1, 1) := by decide +kernel
theorem dL_law_1258 : decode cL_law 1258 = .ok (.iadd, 1) := by decide +kernel
theorem dL_law_1259 : decode cL_law 1259 = .ok (.iaload, 1) := by decide +kernel
theorem dL_law_1260 : decode cL_law 1260 = .ok (.aload_n 0, 1) := by decide +kernel
theorem dL_law_1261 : decode cL_law 1261 = .ok (.iload_n 3, 1) := by decide +kernel
theorem dL_law_1262 : decode cL_law 1262 = .ok (.iconst 2, 1) := by decide +kernel
theorem dL_law_1263 : decode cL_law 1263 = .ok (.iadd, 1) := by decide +kernel
theorem dL_law_1264 : decode cL_law 1264 = .ok (.iaload, 1) := by decide +kernel
theorem dL_law_1265 : decode cL_law 1265 = .ok (.aload_n 0, 1) := by decide +kernel
theorem dL_law_1266 : decode cL_law 1266 = .ok (.iload_n 3, 1) := by decide +kernel
theorem dL_law_1267 : decode cL_law 1267 = .ok (.iconst 3, 1) := by decide +kernel
theorem dL_law_1268 : decode cL_law 1268 = .ok (.iadd, 1) := by decide +kernel
theorem dL_law_1269 : decode cL_law 1269 = .ok (.iaload, 1) := by decide +kernel
theorem dL_law_1270 : decode cL_law 1270 = .ok (.aload_n 0, 1) := by decide +kernel
theorem dL_law_1271 : decode cL_law 1271 = .ok (.iload_n 3, 1) := by decide +kernel
theorem dL_law_1272 : decode cL_law 1272 = .ok (.iconst 4, 1) := by decide +kernel
theorem dL_law_1273 : decode cL_law 1273 = .ok (.iadd, 1) := by decide +kernel
theorem dL_law_1274 : decode cL_law 1274 = .ok (.iaload, 1) := by decide +kernel
theorem dL_law_1275 : decode cL_law 1275 = .ok (.aload_n 0, 1) := by decide +kernel
theorem dL_law_1276 : decode cL_law 1276 = .ok (.iload_n 3, 1) := by decide +kernel
theorem dL_law_1277 : decode cL_law 1277 = .ok (.iconst 5, 1) := by decide +kernel
theorem dL_law_1278 : decode cL_law 1278 = .ok (.iadd, 1) := by decide +kernel
theorem dL_law_1279 : decode cL_law 1279 = .ok (.iaload, 1) := by decide +kernel
theorem dL_law_1280 : decode cL_law 1280 = .ok (.invokevirtual 159, 3) := by decide +kernel
theorem dL_law_1283 : decode cL_law 1283 = .ok (.aload_n 2, 1) := by decide +kernel
theorem dL_law_1284 : decode cL_law 1284 = .ok (.aload_n 0, 1) := by decide +kernel
theorem dL_law_1285 : decode cL_law 1285 = .ok (.iload_n 3, 1) := by decide +kernel
theorem dL_law_1286 : decode cL_law 1286 = .ok (.iconst 1, 1) := by decide +kernel
theorem dL_law_1287 : decode cL_law 1287 = .ok (.iadd, 1) := by decide +kernel
theorem dL_law_1288 : decode cL_law 1288 = .ok (.iaload, 1) := by decide +kernel
theorem dL_law_1289 : decode cL_law 1289 = .ok (.aload_n 0, 1) := by decide +kernel
theorem dL_law_1290 : decode cL_law 1290 = .ok (.iload_n 3, 1) := by decide +kernel
theorem dL_law_1291 : decode cL_law 1291 = .ok (.iconst 2, 1) := by decide +kernel
theorem dL_law_1292 : decode cL_law 1292 = .ok (.iadd, 1) := by decide +kernel
theorem dL_law_1293 : decode cL_law 1293 = .ok (.iaload, 1) := by decide +kernel
theorem dL_law_1294 : decode cL_law 1294 = .ok (.aload_n 0, 1) := by decide +kernel
theorem dL_law_1295 : decode cL_law 1295 = .ok (.iload_n 3, 1) := by decide +kernel
theorem dL_law_1296 : decode cL_law 1296 = .ok (.iconst 3, 1) := by decide +kernel
theorem dL_law_1297 : decode cL_law 1297 = .ok (.iadd, 1) := by decide +kernel
theorem dL_law_1298 : decode cL_law 1298 = .ok (.iaload, 1) := by decide +kernel
theorem dL_law_1299 : decode cL_law 1299 = .ok (.aload_n 0, 1) := by decide +kernel
theorem dL_law_1300 : decode cL_law 1300 = .ok (.iload_n 3, 1) := by decide +kernel
theorem dL_law_1301 : decode cL_law 1301 = .ok (.iconst 4, 1) := by decide +kernel
theorem dL_law_1302 : decode cL_law 1302 = .ok (.iadd, 1) := by decide +kernel
theorem dL_law_1303 : decode cL_law 1303 = .ok (.iaload, 1) := by decide +kernel
theorem dL_law_1304 : decode cL_law 1304 = .ok (.aload_n 0, 1) := by decide +kernel
theorem dL_law_1305 : decode cL_law 1305 = .ok (.iload_n 3, 1) := by decide +kernel
theorem dL_law_1306 : decode cL_law 1306 = .ok (.iconst 5, 1) := by decide +kernel
theorem dL_law_1307 : decode cL_law 1307 = .ok (.iadd, 1) := by decide +kernel
theorem dL_law_1308 : decode cL_law 1308 = .ok (.iaload, 1) := by decide +kernel
theorem dL_law_1309 : decode cL_law 1309 = .ok (.invokevirtual 163, 3) := by decide +kernel
theorem dL_law_1312 : decode cL_law 1312 = .ok (.if_icmp .eq 222, 3) := by decide +kernel
theorem dL_law_1315 : decode cL_law 1315 = .ok (.iconst 0, 1) := by decide +kernel
theorem dL_law_1316 : decode cL_law 1316 = .ok (.ireturn, 1) := by decide +kernel
theorem dL_law_1317 : decode cL_law 1317 = .ok (.aload_n 1, 1) := by decide +kernel
theorem dL_law_1318 : decode cL_law 1318 = .ok (.aload_n 0, 1) := by decide +kernel
theorem dL_law_1319 : decode cL_law 1319 = .ok (.iload_n 3, 1) := by decide +kernel
theorem dL_law_1320 : decode cL_law 1320 = .ok (.iconst 1, 1) := by decide +kernel
theorem dL_law_1321 : decode cL_law 1321 = .ok (.iadd, 1) := by decide +kernel
theorem dL_law_1322 : decode cL_law 1322 = .ok (.iaload, 1) := by decide +kernel
theorem dL_law_1323 : decode cL_law 1323 = .ok (.aload_n 0, 1) := by decide +kernel
theorem dL_law_1324 : decode cL_law 1324 = .ok (.iload_n 3, 1) := by decide +kernel
theorem dL_law_1325 : decode cL_law 1325 = .ok (.iconst 2, 1) := by decide +kernel
theorem dL_law_1326 : decode cL_law 1326 = .ok (.iadd, 1) := by decide +kernel
theorem dL_law_1327 : decode cL_law 1327 = .ok (.iaload, 1) := by decide +kernel
theorem dL_law_1328 : decode cL_law 1328 = .ok (.aload_n 0, 1) := by decide +kernel
theorem dL_law_1329 : decode cL_law 1329 = .ok (.iload_n 3, 1) := by decide +kernel
theorem dL_law_1330 : decode cL_law 1330 = .ok (.iconst 3, 1) := by decide +kernel
theorem dL_law_1331 : decode cL_law 1331 = .ok (.iadd, 1) := by decide +kernel
theorem dL_law_1332 : decode cL_law 1332 = .ok (.iaload, 1) := by decide +kernel
theorem dL_law_1333 : decode cL_law 1333 = .ok (.aload_n 0, 1) := by decide +kernel
theorem dL_law_1334 : decode cL_law 1334 = .ok (.iload_n 3, 1) := by decide +kernel
theorem dL_law_1335 : decode cL_law 1335 = .ok (.iconst 4, 1) := by decide +kernel
theorem dL_law_1336 : decode cL_law 1336 = .ok (.iadd, 1) := by decide +kernel
theorem dL_law_1337 : decode cL_law 1337 = .ok (.iaload, 1) := by decide +kernel
theorem dL_law_1338 : decode cL_law 1338 = .ok (.invokevirtual 164, 3) := by decide +kernel
theorem dL_law_1341 : decode cL_law 1341 = .ok (.aload_n 2, 1) := by decide +kernel
theorem dL_law_1342 : decode cL_law 1342 = .ok (.aload_n 0, 1) := by decide +kernel
theorem dL_law_1343 : decode cL_law 1343 = .ok (.iload_n 3, 1) := by decide +kernel
theorem dL_law_1344 : decode cL_law 1344 = .ok (.iconst 1, 1) := by decide +kernel
theorem dL_law_1345 : decode cL_law 1345 = .ok (.iadd, 1) := by decide +kernel
theorem dL_law_1346 : decode cL_law 1346 = .ok (.iaload, 1) := by decide +kernel
theorem dL_law_1347 : decode cL_law 1347 = .ok (.aload_n 0, 1) := by decide +kernel
theorem dL_law_1348 : decode cL_law 1348 = .ok (.iload_n 3, 1) := by decide +kernel
theorem dL_law_1349 : decode cL_law 1349 = .ok (.iconst 2, 1) := by decide +kernel
theorem dL_law_1350 : decode cL_law 1350 = .ok (.iadd, 1) := by decide +kernel
theorem dL_law_1351 : decode cL_law 1351 = .ok (.iaload, 1) := by decide +kernel
theorem dL_law_1352 : decode cL_law 1352 = .ok (.aload_n 0, 1) := by decide +kernel
theorem dL_law_1353 : decode cL_law 1353 = .ok (.iload_n 3, 1) := by decide +kernel
theorem dL_law_1354 : decode cL_law 1354 = .ok (.iconst 3, 1) := by decide +kernel
theorem dL_law_1355 : decode cL_law 1355 = .ok (.iadd, 1) := by decide +kernel
theorem dL_law_1356 : decode cL_law 1356 = .ok (.iaload, 1) := by decide +kernel
theorem dL_law_1357 : decode cL_law 1357 = .ok (.aload_n 0, 1) := by decide +kernel
theorem dL_law_1358 : decode cL_law 1358 = .ok (.iload_n 3, 1) := by decide +kernel
theorem dL_law_1359 : decode cL_law 1359 = .ok (.iconst 4, 1) := by decide +kernel
theorem dL_law_1360 : decode cL_law 1360 = .ok (.iadd, 1) := by decide +kernel
theorem dL_law_1361 : decode cL_law 1361 = .ok (.iaload, 1) := by decide +kernel
theorem dL_law_1362 : decode cL_law 1362 = .ok (.invokevirtual 167, 3) := by decide +kernel
theorem dL_law_1365 : decode cL_law 1365 = .ok (.if_icmp .eq 169, 3) := by decide +kernel
theorem dL_law_1368 : decode cL_law 1368 = .ok (.iconst 0, 1) := by decide +kernel
theorem dL_law_1369 : decode cL_law 1369 = .ok (.ireturn, 1) := by decide +kernel
theorem dL_law_1370 : decode cL_law 1370 = .ok (.aload_n 1, 1) := by decide +kernel
theorem dL_law_1371 : decode cL_law 1371 = .ok (.aload_n 0, 1) := by decide +kernel
theorem dL_law_1372 : decode cL_law 1372 = .ok (.iload_n 3, 1) := by decide +kernel
theorem dL_law_1373 : decode cL_law 1373 = .ok (.iconst 1, 1) := by decide +kernel
theorem dL_law_1374 : decode cL_law 1374 = .ok (.iadd, 1) := by decide +kernel
theorem dL_law_1375 : decode cL_law 1375 = .ok (.iaload, 1) := by decide +kernel
theorem dL_law_1376 : decode cL_law 1376 = .ok (.aload_n 0, 1) := by decide +kernel
theorem dL_law_1377 : decode cL_law 1377 = .ok (.iload_n 3, 1) := by decide +kernel
theorem dL_law_1378 : decode cL_law 1378 = .ok (.iconst 2, 1) := by decide +kernel
theorem dL_law_1379 : decode cL_law 1379 = .ok (.iadd, 1) := by decide +kernel
theorem dL_law_1380 : decode cL_law 1380 = .ok (.iaload, 1) := by decide +kernel
theorem dL_law_1381 : decode cL_law 1381 = .ok (.aload_n 0, 1) := by decide +kernel
theorem dL_law_1382 : decode cL_law 1382 = .ok (.iload_n 3, 1) := by decide +kernel
theorem dL_law_1383 : decode cL_law 1383 = .ok (.iconst 3, 1) := by decide +kernel
theorem dL_law_1384 : decode cL_law 1384 = .ok (.iadd, 1) := by decide +kernel
theorem dL_law_1385 : decode cL_law 1385 = .ok (.iaload, 1) := by decide +kernel
theorem dL_law_1386 : decode cL_law 1386 = .ok (.invokevirtual 168, 3) := by decide +kernel
theorem dL_law_1389 : decode cL_law 1389 = .ok (.aload_n 2, 1) := by decide +kernel
theorem dL_law_1390 : decode cL_law 1390 = .ok (.aload_n 0, 1) := by decide +kernel
theorem dL_law_1391 : decode cL_law 1391 = .ok (.iload_n 3, 1) := by decide +kernel
theorem dL_law_1392 : decode cL_law 1392 = .ok (.iconst 1, 1) := by decide +kernel
theorem dL_law_1393 : decode cL_law 1393 = .ok (.iadd, 1) := by decide +kernel
theorem dL_law_1394 : decode cL_law 1394 = .ok (.iaload, 1) := by decide +kernel
theorem dL_law_1395 : decode cL_law 1395 = .ok (.aload_n 0, 1) := by decide +kernel
theorem dL_law_1396 : decode cL_law 1396 = .ok (.iload_n 3, 1) := by decide +kernel
theorem dL_law_1397 : decode cL_law 1397 = .ok (.iconst 2, 1) := by decide +kernel
theorem dL_law_1398 : decode cL_law 1398 = .ok (.iadd, 1) := by decide +kernel
theorem dL_law_1399 : decode cL_law 1399 = .ok (.iaload, 1) := by decide +kernel
theorem dL_law_1400 : decode cL_law 1400 = .ok (.aload_n 0, 1) := by decide +kernel
theorem dL_law_1401 : decode cL_law 1401 = .ok (.iload_n 3, 1) := by decide +kernel
theorem dL_law_1402 : decode cL_law 1402 = .ok (.iconst 3, 1) := by decide +kernel
theorem dL_law_1403 : decode cL_law 1403 = .ok (.iadd, 1) := by decide +kernel
theorem dL_law_1404 : decode cL_law 1404 = .ok (.iaload, 1) := by decide +kernel
theorem dL_law_1405 : decode cL_law 1405 = .ok (.invokevirtual 171, 3) := by decide +kernel
theorem dL_law_1408 : decode cL_law 1408 = .ok (.if_icmp .eq 126, 3) := by decide +kernel
theorem dL_law_1411 : decode cL_law 1411 = .ok (.iconst 0, 1) := by decide +kernel
theorem dL_law_1412 : decode cL_law 1412 = .ok (.ireturn, 1) := by decide +kernel
theorem dL_law_1413 : decode cL_law 1413 = .ok (.aload_n 1, 1) := by decide +kernel
theorem dL_law_1414 : decode cL_law 1414 = .ok (.aload_n 0, 1) := by decide +kernel
theorem dL_law_1415 : decode cL_law 1415 = .ok (.iload_n 3, 1) := by decide +kernel
theorem dL_law_1416 : decode cL_law 1416 = .ok (.iconst 1, 1) := by decide +kernel
theorem dL_law_1417 : decode cL_law 1417 = .ok (.iadd, 1) := by decide +kernel
theorem dL_law_1418 : decode cL_law 1418 = .ok (.iaload, 1) := by decide +kernel
theorem dL_law_1419 : decode cL_law 1419 = .ok (.invokevirtual 172, 3) := by decide +kernel
theorem dL_law_1422 : decode cL_law 1422 = .ok (.aload_n 2, 1) := by decide +kernel
theorem dL_law_1423 : decode cL_law 1423 = .ok (.aload_n 0, 1) := by decide +kernel
theorem dL_law_1424 : decode cL_law 1424 = .ok (.iload_n 3, 1) := by decide +kernel
theorem dL_law_1425 : decode cL_law 1425 = .ok (.iconst 1, 1) := by decide +kernel
theorem dL_law_1426 : decode cL_law 1426 = .ok (.iadd, 1) := by decide +kernel
theorem dL_law_1427 : decode cL_law 1427 = .ok (.iaload, 1) := by decide +kernel
theorem dL_law_1428 : decode cL_law 1428 = .ok (.invokevirtual 175, 3) := by decide +kernel
theorem dL_law_1431 : decode cL_law 1431 = .ok (.if_icmp .eq 103, 3) := by decide +kernel
theorem dL_law_1434 : decode cL_law 1434 = .ok (.iconst 0, 1) := by decide +kernel
theorem dL_law_1435 : decode cL_law 1435 = .ok (.ireturn, 1) := by decide +kernel
theorem dL_law_1436 : decode cL_law 1436 = .ok (.aload_n 1, 1) := by decide +kernel
theorem dL_law_1437 : decode cL_law 1437 = .ok (.invokevirtual 176, 3) := by decide +kernel
theorem dL_law_1440 : decode cL_law 1440 = .ok (.aload_n 2, 1) := by decide +kernel
theorem dL_law_1441 : decode cL_law 1441 = .ok (.invokevirtual 179, 3) := by decide +kernel
theorem dL_law_1444 : decode cL_law 1444 = .ok (.if_icmp .eq 90, 3) := by decide +kernel
theorem dL_law_1447 : decode cL_law 1447 = .ok (.iconst 0, 1) := by decide +kernel
theorem dL_law_1448 : decode cL_law 1448 = .ok (.ireturn, 1) := by decide +kernel
theorem dL_law_1449 : decode cL_law 1449 = .ok (.aload_n 1, 1) := by decide +kernel
theorem dL_law_1450 : decode cL_law 1450 = .ok (.invokevirtual 180, 3) := by decide +kernel
theorem dL_law_1453 : decode cL_law 1453 = .ok (.aload_n 2, 1) := by decide +kernel
theorem dL_law_1454 : decode cL_law 1454 = .ok (.invokevirtual 183, 3) := by decide +kernel
theorem dL_law_1457 : decode cL_law 1457 = .ok (.if_icmp .eq 77, 3) := by decide +kernel
theorem dL_law_1460 : decode cL_law 1460 = .ok (.iconst 0, 1) := by decide +kernel
theorem dL_law_1461 : decode cL_law 1461 = .ok (.ireturn, 1) := by decide +kernel
theorem dL_law_1462 : decode cL_law 1462 = .ok (.aload_n 1, 1) := by decide +kernel
theorem dL_law_1463 : decode cL_law 1463 = .ok (.aload_n 0, 1) := by decide +kernel
theorem dL_law_1464 : decode cL_law 1464 = .ok (.iload_n 3, 1) := by decide +kernel
theorem dL_law_1465 : decode cL_law 1465 = .ok (.iconst 1, 1) := by decide +kernel
theorem dL_law_1466 : decode cL_law 1466 = .ok (.iadd, 1) := by decide +kernel
theorem dL_law_1467 : decode cL_law 1467 = .ok (.iaload, 1) := by decide +kernel
theorem dL_law_1468 : decode cL_law 1468 = .ok (.invokevirtual 184, 3) := by decide +kernel
theorem dL_law_1471 : decode cL_law 1471 = .ok (.aload_n 2, 1) := by decide +kernel
theorem dL_law_1472 : decode cL_law 1472 = .ok (.aload_n 0, 1) := by decide +kernel
theorem dL_law_1473 : decode cL_law 1473 = .ok (.iload_n 3, 1) := by decide +kernel
theorem dL_law_1474 : decode cL_law 1474 = .ok (.iconst 1, 1) := by decide +kernel
theorem dL_law_1475 : decode cL_law 1475 = .ok (.iadd, 1) := by decide +kernel
theorem dL_law_1476 : decode cL_law 1476 = .ok (.iaload, 1) := by decide +kernel
theorem dL_law_1477 : decode cL_law 1477 = .ok (.invokevirtual 187, 3) := by decide +kernel
theorem dL_law_1480 : decode cL_law 1480 = .ok (.if_icmp .eq 54, 3) := by decide +kernel
theorem dL_law_1483 : decode cL_law 1483 = .ok (.iconst 0, 1) := by decide +kernel
theorem dL_law_1484 : decode cL_law 1484 = .ok (.ireturn, 1) := by decide +kernel
theorem dL_law_1485 : decode cL_law 1485 = .ok (.aload_n 1, 1) := by decide +kernel
theorem dL_law_1486 : decode cL_law 1486 = .ok (.invokevirtual 188, 3) := by decide +kernel
theorem dL_law_1489 : decode cL_law 1489 = .ok (.aload_n 2, 1) := by decide +kernel
theorem dL_law_1490 : decode cL_law 1490 = .ok (.invokevirtual 191, 3) := by decide +kernel
theorem dL_law_1493 : decode cL_law 1493 = .ok (.if_icmp .eq 41, 3) := by decide +kernel
theorem dL_law_1496 : decode cL_law 1496 = .ok (.iconst 0, 1) := by decide +kernel
theorem dL_law_1497 : decode cL_law 1497 = .ok (.ireturn, 1) := by decide +kernel
theorem dL_law_1498 : decode cL_law 1498 = .ok (.aload_n 1, 1) := by decide +kernel
theorem dL_law_1499 : decode cL_law 1499 = .ok (.invokevirtual 192, 3) := by decide +kernel
theorem dL_law_1502 : decode cL_law 1502 = .ok (.aload_n 2, 1) := by decide +kernel
theorem dL_law_1503 : decode cL_law 1503 = .ok (.invokevirtual 195, 3) := by decide +kernel
theorem dL_law_1506 : decode cL_law 1506 = .ok (.if_icmp .eq 28, 3) := by decide +kernel
theorem dL_law_1509 : decode cL_law 1509 = .ok (.iconst 0, 1) := by decide +kernel
theorem dL_law_1510 : decode cL_law 1510 = .ok (.ireturn, 1) := by decide +kernel
theorem dL_law_1511 : decode cL_law 1511 = .ok (.aload_n 1, 1) := by decide +kernel
theorem dL_law_1512 : decode cL_law 1512 = .ok (.aload_n 0, 1) := by decide +kernel
theorem dL_law_1513 : decode cL_law 1513 = .ok (.iload_n 3, 1) := by decide +kernel
theorem dL_law_1514 : decode cL_law 1514 = .ok (.iconst 1, 1) := by decide +kernel
theorem dL_law_1515 : decode cL_law 1515 = .ok (.iadd, 1) := by decide +kernel
theorem dL_law_1516 : decode cL_law 1516 = .ok (.iaload, 1) := by decide +kernel
theorem dL_law_1517 : decode cL_law 1517 = .ok (.invokevirtual 196, 3) := by decide +kernel
theorem dL_law_1520 : decode cL_law 1520 = .ok (.aload_n 2, 1) := by decide +kernel
theorem dL_law_1521 : decode cL_law 1521 = .ok (.aload_n 0, 1) := by decide +kernel
theorem dL_law_1522 : decode cL_law 1522 = .ok (.iload_n 3, 1) := by decide +kernel
theorem dL_law_1523 : decode cL_law 1523 = .ok (.iconst 1, 1) := by decide +kernel
theorem dL_law_1524 : decode cL_law 1524 = .ok (.iadd, 1) := by decide +kernel
theorem dL_law_1525 : decode cL_law 1525 = .ok (.iaload, 1) := by decide +kernel
theorem dL_law_1526 : decode cL_law 1526 = .ok (.invokevirtual 199, 3) := by decide +kernel
theorem dL_law_1529 : decode cL_law 1529 = .ok (.if_icmp .eq 5, 3) := by decide +kernel
theorem dL_law_1532 : decode cL_law 1532 = .ok (.iconst 0, 1) := by decide +kernel
theorem dL_law_1533 : decode cL_law 1533 = .ok (.ireturn, 1) := by decide +kernel
theorem dL_law_1534 : decode cL_law 1534 = .ok (.iinc 3 6, 3) := by decide +kernel
theorem dL_law_1537 : decode cL_law 1537 = .ok (.goto (-1519), 3) := by decide +kernel
theorem dL_law_1540 : decode cL_law 1540 = .ok (.iconst 1, 1) := by decide +kernel
theorem dL_law_1541 : decode cL_law 1541 = .ok (.ireturn, 1) := by decide +kernel
