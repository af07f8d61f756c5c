theorem dX4_layPlace_103 : decode cX4_layPlace 103 = .ok (.aload_n 0, 1) := by decide +kernel
theorem dX4_layPlace_104 : decode cX4_layPlace 104 = .ok (.getfield 85, 3) := by decide +kernel
theorem dX4_layPlace_107 : decode cX4_layPlace 107 = .ok (.invokevirtual 92, 3) := by decide +kernel
theorem dX4_layPlace_110 : decode cX4_layPlace 110 = .ok (.aload_n 0, 1) := by decide +kernel
theorem dX4_layPlace_111 : decode cX4_layPlace 111 = .ok (.dup, 1) := by decide +kernel
theorem dX4_layPlace_112 : decode cX4_layPlace 112 = .ok (.getfield 85, 3) := by decide +kernel
theorem dX4_layPlace_115 : decode cX4_layPlace 115 = .ok (.iconst 1, 1) := by decide +kernel
theorem dX4_layPlace_116 : decode cX4_layPlace 116 = .ok (.iadd, 1) := by decide +kernel
theorem dX4_layPlace_117 : decode cX4_layPlace 117 = .ok (.putfield 85, 3) := by decide +kernel
theorem dX4_layPlace_120 : decode cX4_layPlace 120 = .ok (.return_, 1) := by decide +kernel
theorem dX4_layOn_0 : decode cX4_layOn 0 = .ok (.aload_n 0, 1) := by decide +kernel
theorem dX4_layOn_1 : decode cX4_layOn 1 = .ok (.getfield 50, 3) := by decide +kernel
theorem dX4_layOn_4 : decode cX4_layOn 4 = .ok (.iload_n 1, 1) := by decide +kernel
theorem dX4_layOn_5 : decode cX4_layOn 5 = .ok (.iaload, 1) := by decide +kernel
theorem dX4_layOn_6 : decode cX4_layOn 6 = .ok (.istore_n 3, 1) := by decide +kernel
theorem dX4_layOn_7 : decode cX4_layOn 7 = .ok (.iload_n 3, 1) := by decide +kernel
theorem dX4_layOn_8 : decode cX4_layOn 8 = .ok (.iconst (-1), 1) := by decide +kernel
theorem dX4_layOn_9 : decode cX4_layOn 9 = .ok (.if_icmp .ne 11, 3) := by decide +kernel
theorem dX4_layOn_12 : decode cX4_layOn 12 = .ok (.aload_n 0, 1) := by decide +kernel
theorem dX4_layOn_13 : decode cX4_layOn 13 = .ok (.getfield 50, 3) := by decide +kernel
theorem dX4_layOn_16 : decode cX4_layOn 16 = .ok (.iload_n 1, 1) := by decide +kernel
theorem dX4_layOn_17 : decode cX4_layOn 17 = .ok (.iload_n 2, 1) := by decide +kernel
theorem dX4_layOn_18 : decode cX4_layOn 18 = .ok (.iastore, 1) := by decide +kernel
theorem dX4_layOn_19 : decode cX4_layOn 19 = .ok (.return_, 1) := by decide +kernel
theorem dX4_layOn_20 : decode cX4_layOn 20 = .ok (.aload_n 0, 1) := by decide +kernel
theorem dX4_layOn_21 : decode cX4_layOn 21 = .ok (.getfield 53, 3) := by decide +kernel
theorem dX4_layOn_24 : decode cX4_layOn 24 = .ok (.iload_n 3, 1) := by decide +kernel
theorem dX4_layOn_25 : decode cX4_layOn 25 = .ok (.iaload, 1) := by decide +kernel
theorem dX4_layOn_26 : decode cX4_layOn 26 = .ok (.iconst (-1), 1) := by decide +kernel
theorem dX4_layOn_27 : decode cX4_layOn 27 = .ok (.if_icmp .eq 13, 3) := by decide +kernel
theorem dX4_layOn_30 : decode cX4_layOn 30 = .ok (.aload_n 0, 1) := by decide +kernel
theorem dX4_layOn_31 : decode cX4_layOn 31 = .ok (.getfield 53, 3) := by decide +kernel
theorem dX4_layOn_34 : decode cX4_layOn 34 = .ok (.iload_n 3, 1) := by decide +kernel
theorem dX4_layOn_35 : decode cX4_layOn 35 = .ok (.iaload, 1) := by decide +kernel
theorem dX4_layOn_36 : decode cX4_layOn 36 = .ok (.istore_n 3, 1) := by decide +kernel
theorem dX4_layOn_37 : decode cX4_layOn 37 = .ok (.goto (-17), 3) := by decide +kernel
theorem dX4_layOn_40 : decode cX4_layOn 40 = .ok (.aload_n 0, 1) := by decide +kernel
theorem dX4_layOn_41 : decode cX4_layOn 41 = .ok (.getfield 53, 3) := by decide +kernel
theorem dX4_layOn_44 : decode cX4_layOn 44 = .ok (.iload_n 3, 1) := by decide +kernel
theorem dX4_layOn_45 : decode cX4_layOn 45 = .ok (.iload_n 2, 1) := by decide +kernel
theorem dX4_layOn_46 : decode cX4_layOn 46 = .ok (.iastore, 1) := by decide +kernel
theorem dX4_layOn_47 : decode cX4_layOn 47 = .ok (.return_, 1) := by decide +kernel
theorem dX4_begin_0 : decode cX4_begin 0 = .ok (.aload_n 0, 1) := by decide +kernel
theorem dX4_begin_1 : decode cX4_begin 1 = .ok (.iconst 0, 1) := by decide +kernel
theorem dX4_begin_2 : decode cX4_begin 2 = .ok (.putfield 82, 3) := by decide +kernel
theorem dX4_begin_5 : decode cX4_begin 5 = .ok (.aload_n 0, 1) := by decide +kernel
theorem dX4_begin_6 : decode cX4_begin 6 = .ok (.iconst 0, 1) := by decide +kernel
theorem dX4_begin_7 : decode cX4_begin 7 = .ok (.putfield 85, 3) := by decide +kernel
theorem dX4_begin_10 : decode cX4_begin 10 = .ok (.aload_n 0, 1) := by decide +kernel
theorem dX4_begin_11 : decode cX4_begin 11 = .ok (.iconst 0, 1) := by decide +kernel
theorem dX4_begin_12 : decode cX4_begin 12 = .ok (.putfield 96, 3) := by decide +kernel
theorem dX4_begin_15 : decode cX4_begin 15 = .ok (.iconst 0, 1) := by decide +kernel
theorem dX4_begin_16 : decode cX4_begin 16 = .ok (.istore_n 1, 1) := by decide +kernel
theorem dX4_begin_17 : decode cX4_begin 17 = .ok (.iload_n 1, 1) := by decide +kernel
theorem dX4_begin_18 : decode cX4_begin 18 = .ok (.aload_n 0, 1) := by decide +kernel
theorem dX4_begin_19 : decode cX4_begin 19 = .ok (.getfield 78, 3) := by decide +kernel
theorem dX4_begin_22 : decode cX4_begin 22 = .ok (.if_icmp .ge 24, 3) := by decide +kernel
theorem dX4_begin_25 : decode cX4_begin 25 = .ok (.aload_n 0, 1) := by decide +kernel
theorem dX4_begin_26 : decode cX4_begin 26 = .ok (.aload_n 0, 1) := by decide +kernel
theorem dX4_begin_27 : decode cX4_begin 27 = .ok (.getfield 7, 3) := by decide +kernel
theorem dX4_begin_30 : decode cX4_begin 30 = .ok (.iload_n 1, 1) := by decide +kernel
theorem dX4_begin_31 : decode cX4_begin 31 = .ok (.iaload, 1) := by decide +kernel
theorem dX4_begin_32 : decode cX4_begin 32 = .ok (.iconst (-1), 1) := by decide +kernel
theorem dX4_begin_33 : decode cX4_begin 33 = .ok (.aload_n 0, 1) := by decide +kernel
theorem dX4_begin_34 : decode cX4_begin 34 = .ok (.getfield 85, 3) := by decide +kernel
theorem dX4_begin_37 : decode cX4_begin 37 = .ok (.invokevirtual 99, 3) := by decide +kernel
theorem dX4_begin_40 : decode cX4_begin 40 = .ok (.iinc 1 1, 3) := by decide +kernel
theorem dX4_begin_43 : decode cX4_begin 43 = .ok (.goto (-26), 3) := by decide +kernel
theorem dX4_begin_46 : decode cX4_begin 46 = .ok (.aload_n 0, 1) := by decide +kernel
theorem dX4_begin_47 : decode cX4_begin 47 = .ok (.dup, 1) := by decide +kernel
theorem dX4_begin_48 : decode cX4_begin 48 = .ok (.getfield 103, 3) := by decide +kernel
theorem dX4_begin_51 : decode cX4_begin 51 = .ok (.iconst 1, 1) := by decide +kernel
theorem dX4_begin_52 : decode cX4_begin 52 = .ok (.iadd, 1) := by decide +kernel
theorem dX4_begin_53 : decode cX4_begin 53 = .ok (.putfield 103, 3) := by decide +kernel
theorem dX4_begin_56 : decode cX4_begin 56 = .ok (.aload_n 0, 1) := by decide +kernel
theorem dX4_begin_57 : decode cX4_begin 57 = .ok (.iconst 0, 1) := by decide +kernel
theorem dX4_begin_58 : decode cX4_begin 58 = .ok (.putfield 78, 3) := by decide +kernel
theorem dX4_begin_61 : decode cX4_begin 61 = .ok (.aload_n 0, 1) := by decide +kernel
theorem dX4_begin_62 : decode cX4_begin 62 = .ok (.getfield 82, 3) := by decide +kernel
theorem dX4_begin_65 : decode cX4_begin 65 = .ok (.ireturn, 1) := by decide +kernel
theorem dX4_setOf_0 : decode cX4_setOf 0 = .ok (.iconst 0, 1) := by decide +kernel
theorem dX4_setOf_1 : decode cX4_setOf 1 = .ok (.istore_n 2, 1) := by decide +kernel
theorem dX4_setOf_2 : decode cX4_setOf 2 = .ok (.iconst 0, 1) := by decide +kernel
theorem dX4_setOf_3 : decode cX4_setOf 3 = .ok (.istore_n 3, 1) := by decide +kernel
theorem dX4_setOf_4 : decode cX4_setOf 4 = .ok (.iload_n 3, 1) := by decide +kernel
theorem dX4_setOf_5 : decode cX4_setOf 5 = .ok (.aload_n 0, 1) := by decide +kernel
theorem dX4_setOf_6 : decode cX4_setOf 6 = .ok (.getfield 96, 3) := by decide +kernel
theorem dX4_setOf_9 : decode cX4_setOf 9 = .ok (.if_icmp .ge 81, 3) := by decide +kernel
theorem dX4_setOf_12 : decode cX4_setOf 12 = .ok (.iload_n 1, 1) := by decide +kernel
theorem dX4_setOf_13 : decode cX4_setOf 13 = .ok (.iconst 1, 1) := by decide +kernel
theorem dX4_setOf_14 : decode cX4_setOf 14 = .ok (.if_icmp .eq 29, 3) := by decide +kernel
theorem dX4_setOf_17 : decode cX4_setOf 17 = .ok (.iload_n 1, 1) := by decide +kernel
theorem dX4_setOf_18 : decode cX4_setOf 18 = .ok (.iconst 1, 1) := by decide +kernel
theorem dX4_setOf_19 : decode cX4_setOf 19 = .ok (.if_icmp .le 28, 3) := by decide +kernel
theorem dX4_setOf_22 : decode cX4_setOf 22 = .ok (.aload_n 0, 1) := by decide +kernel
theorem dX4_setOf_23 : decode cX4_setOf 23 = .ok (.getfield 28, 3) := by decide +kernel
theorem dX4_setOf_26 : decode cX4_setOf 26 = .ok (.iload_n 3, 1) := by decide +kernel
theorem dX4_setOf_27 : decode cX4_setOf 27 = .ok (.iaload, 1) := by decide +kernel
theorem dX4_setOf_28 : decode cX4_setOf 28 = .ok (.iload_n 1, 1) := by decide +kernel
theorem dX4_setOf_29 : decode cX4_setOf 29 = .ok (.iconst 2, 1) := by decide +kernel
theorem dX4_setOf_30 : decode cX4_setOf 30 = .ok (.isub, 1) := by decide +kernel
theorem dX4_setOf_31 : decode cX4_setOf 31 = .ok (.if_icmp .eq 12, 3) := by decide +kernel
theorem dX4_setOf_34 : decode cX4_setOf 34 = .ok (.aload_n 0, 1) := by decide +kernel
theorem dX4_setOf_35 : decode cX4_setOf 35 = .ok (.getfield 34, 3) := by decide +kernel
theorem dX4_setOf_38 : decode cX4_setOf 38 = .ok (.iload_n 3, 1) := by decide +kernel
theorem dX4_setOf_39 : decode cX4_setOf 39 = .ok (.baload, 1) := by decide +kernel
theorem dX4_setOf_40 : decode cX4_setOf 40 = .ok (.ifCond .eq 7, 3) := by decide +kernel
theorem dX4_setOf_43 : decode cX4_setOf 43 = .ok (.iconst 1, 1) := by decide +kernel
theorem dX4_setOf_44 : decode cX4_setOf 44 = .ok (.goto 4, 3) := by decide +kernel
theorem dX4_setOf_47 : decode cX4_setOf 47 = .ok (.iconst 0, 1) := by decide +kernel
theorem dX4_setOf_48 : decode cX4_setOf 48 = .ok (.istore 4, 2) := by decide +kernel
theorem dX4_setOf_50 : decode cX4_setOf 50 = .ok (.iload_n 2, 1) := by decide +kernel
theorem dX4_setOf_51 : decode cX4_setOf 51 = .ok (.aload_n 0, 1) := by decide +kernel
theorem dX4_setOf_52 : decode cX4_setOf 52 = .ok (.getfield 31, 3) := by decide +kernel
theorem dX4_setOf_55 : decode cX4_setOf 55 = .ok (.iload_n 3, 1) := by decide +kernel
theorem dX4_setOf_56 : decode cX4_setOf 56 = .ok (.iaload, 1) := by decide +kernel
theorem dX4_setOf_57 : decode cX4_setOf 57 = .ok (.iconst 1, 1) := by decide +kernel
theorem dX4_setOf_58 : decode cX4_setOf 58 = .ok (.if_icmp .eq 17, 3) := by decide +kernel
theorem dX4_setOf_61 : decode cX4_setOf 61 = .ok (.aload_n 0, 1) := by decide +kernel
theorem dX4_setOf_62 : decode cX4_setOf 62 = .ok (.getfield 31, 3) := by decide +kernel
theorem dX4_setOf_65 : decode cX4_setOf 65 = .ok (.iload_n 3, 1) := by decide +kernel
theorem dX4_setOf_66 : decode cX4_setOf 66 = .ok (.iaload, 1) := by decide +kernel
theorem dX4_setOf_67 : decode cX4_setOf 67 = .ok (.ifCond .ne 14, 3) := by decide +kernel
theorem dX4_setOf_70 : decode cX4_setOf 70 = .ok (.iload 4, 2) := by decide +kernel
theorem dX4_setOf_72 : decode cX4_setOf 72 = .ok (.ifCond .eq 9, 3) := by decide +kernel
theorem dX4_setOf_75 : decode cX4_setOf 75 = .ok (.iconst 1, 1) := by decide +kernel
theorem dX4_setOf_76 : decode cX4_setOf 76 = .ok (.iload_n 3, 1) := by decide +kernel
theorem dX4_setOf_77 : decode cX4_setOf 77 = .ok (.ishl, 1) := by decide +kernel
theorem dX4_setOf_78 : decode cX4_setOf 78 = .ok (.goto 4, 3) := by decide +kernel
theorem dX4_setOf_81 : decode cX4_setOf 81 = .ok (.iconst 0, 1) := by decide +kernel
theorem dX4_setOf_82 : decode cX4_setOf 82 = .ok (.ior, 1) := by decide +kernel
theorem dX4_setOf_83 : decode cX4_setOf 83 = .ok (.istore_n 2, 1) := by decide +kernel
theorem dX4_setOf_84 : decode cX4_setOf 84 = .ok (.iinc 3 1, 3) := by decide +kernel
theorem dX4_setOf_87 : decode cX4_setOf 87 = .ok (.goto (-83), 3) := by decide +kernel
theorem dX4_setOf_90 : decode cX4_setOf 90 = .ok (.iload_n 2, 1) := by decide +kernel
theorem dX4_setOf_91 : decode cX4_setOf 91 = .ok (.ireturn, 1) := by decide +kernel
theorem dX4_isThere_0 : decode cX4_isThere 0 = .ok (.aload_n 0, 1) := by decide +kernel
theorem dX4_isThere_1 : decode cX4_isThere 1 = .ok (.getfield 16, 3) := by decide +kernel
theorem dX4_isThere_4 : decode cX4_isThere 4 = .ok (.iload_n 1, 1) := by decide +kernel
theorem dX4_isThere_5 : decode cX4_isThere 5 = .ok (.iaload, 1) := by decide +kernel
theorem dX4_isThere_6 : decode cX4_isThere 6 = .ok (.iconst (-1), 1) := by decide +kernel
theorem dX4_isThere_7 : decode cX4_isThere 7 = .ok (.if_icmp .eq 16, 3) := by decide +kernel
theorem dX4_isThere_10 : decode cX4_isThere 10 = .ok (.iload_n 2, 1) := by decide +kernel
theorem dX4_isThere_11 : decode cX4_isThere 11 = .ok (.aload_n 0, 1) := by decide +kernel
theorem dX4_isThere_12 : decode cX4_isThere 12 = .ok (.getfield 16, 3) := by decide +kernel
theorem dX4_isThere_15 : decode cX4_isThere 15 = .ok (.iload_n 1, 1) := by decide +kernel
theorem dX4_isThere_16 : decode cX4_isThere 16 = .ok (.iaload, 1) := by decide +kernel
theorem dX4_isThere_17 : decode cX4_isThere 17 = .ok (.invokestatic 106, 3) := by decide +kernel
theorem dX4_isThere_20 : decode cX4_isThere 20 = .ok (.ifCond .eq 7, 3) := by decide +kernel
theorem dX4_isThere_23 : decode cX4_isThere 23 = .ok (.iconst 1, 1) := by decide +kernel
theorem dX4_isThere_24 : decode cX4_isThere 24 = .ok (.goto 4, 3) := by decide +kernel
theorem dX4_isThere_27 : decode cX4_isThere 27 = .ok (.iconst 0, 1) := by decide +kernel
theorem dX4_isThere_28 : decode cX4_isThere 28 = .ok (.istore_n 3, 1) := by decide +kernel
theorem dX4_isThere_29 : decode cX4_isThere 29 = .ok (.iload_n 3, 1) := by decide +kernel
theorem dX4_isThere_30 : decode cX4_isThere 30 = .ok (.ifCond .eq 18, 3) := by decide +kernel
theorem dX4_isThere_33 : decode cX4_isThere 33 = .ok (.aload_n 0, 1) := by decide +kernel
theorem dX4_isThere_34 : decode cX4_isThere 34 = .ok (.getfield 22, 3) := by decide +kernel
theorem dX4_isThere_37 : decode cX4_isThere 37 = .ok (.iload_n 1, 1) := by decide +kernel
theorem dX4_isThere_38 : decode cX4_isThere 38 = .ok (.iaload, 1) := by decide +kernel
theorem dX4_isThere_39 : decode cX4_isThere 39 = .ok (.iload_n 2, 1) := by decide +kernel
theorem dX4_isThere_40 : decode cX4_isThere 40 = .ok (.iand, 1) := by decide +kernel
theorem dX4_isThere_41 : decode cX4_isThere 41 = .ok (.ifCond .ne 7, 3) := by decide +kernel
theorem dX4_isThere_44 : decode cX4_isThere 44 = .ok (.iconst 1, 1) := by decide +kernel
theorem dX4_isThere_45 : decode cX4_isThere 45 = .ok (.goto 4, 3) := by decide +kernel
theorem dX4_isThere_48 : decode cX4_isThere 48 = .ok (.iconst 0, 1) := by decide +kernel
theorem dX4_isThere_49 : decode cX4_isThere 49 = .ok (.ireturn, 1) := by decide +kernel
theorem dX4_leadsOn_0 : decode cX4_leadsOn 0 = .ok (.aload_n 0, 1) := by decide +kernel
theorem dX4_leadsOn_1 : decode cX4_leadsOn 1 = .ok (.getfield 50, 3) := by decide +kernel
theorem dX4_leadsOn_4 : decode cX4_leadsOn 4 = .ok (.iload_n 1, 1) := by decide +kernel
theorem dX4_leadsOn_5 : decode cX4_leadsOn 5 = .ok (.iaload, 1) := by decide +kernel
theorem dX4_leadsOn_6 : decode cX4_leadsOn 6 = .ok (.istore_n 3, 1) := by decide +kernel
theorem dX4_leadsOn_7 : decode cX4_leadsOn 7 = .ok (.iload_n 3, 1) := by decide +kernel
theorem dX4_leadsOn_8 : decode cX4_leadsOn 8 = .ok (.iconst (-1), 1) := by decide +kernel
theorem dX4_leadsOn_9 : decode cX4_leadsOn 9 = .ok (.if_icmp .eq 26, 3) := by decide +kernel
theorem dX4_leadsOn_12 : decode cX4_leadsOn 12 = .ok (.iload_n 2, 1) := by decide +kernel
theorem dX4_leadsOn_13 : decode cX4_leadsOn 13 = .ok (.aload_n 0, 1) := by decide +kernel
theorem dX4_leadsOn_14 : decode cX4_leadsOn 14 = .ok (.getfield 44, 3) := by decide +kernel
theorem dX4_leadsOn_17 : decode cX4_leadsOn 17 = .ok (.iload_n 3, 1) := by decide +kernel
theorem dX4_leadsOn_18 : decode cX4_leadsOn 18 = .ok (.iaload, 1) := by decide +kernel
theorem dX4_leadsOn_19 : decode cX4_leadsOn 19 = .ok (.invokestatic 106, 3) := by decide +kernel
theorem dX4_leadsOn_22 : decode cX4_leadsOn 22 = .ok (.ifCond .ne 13, 3) := by decide +kernel
theorem dX4_leadsOn_25 : decode cX4_leadsOn 25 = .ok (.aload_n 0, 1) := by decide +kernel
theorem dX4_leadsOn_26 : decode cX4_leadsOn 26 = .ok (.getfield 53, 3) := by decide +kernel
theorem dX4_leadsOn_29 : decode cX4_leadsOn 29 = .ok (.iload_n 3, 1) := by decide +kernel
theorem dX4_leadsOn_30 : decode cX4_leadsOn 30 = .ok (.iaload, 1) := by decide +kernel
theorem dX4_leadsOn_31 : decode cX4_leadsOn 31 = .ok (.istore_n 3, 1) := by decide +kernel
theorem dX4_leadsOn_32 : decode cX4_leadsOn 32 = .ok (.goto (-25), 3) := by decide +kernel
theorem dX4_leadsOn_35 : decode cX4_leadsOn 35 = .ok (.iload_n 3, 1) := by decide +kernel
theorem dX4_leadsOn_36 : decode cX4_leadsOn 36 = .ok (.ireturn, 1) := by decide +kernel
theorem dX4_standsAt_0 : decode cX4_standsAt 0 = .ok (.aload_n 0, 1) := by decide +kernel
theorem dX4_standsAt_1 : decode cX4_standsAt 1 = .ok (.getfield 19, 3) := by decide +kernel
theorem dX4_standsAt_4 : decode cX4_standsAt 4 = .ok (.iload_n 1, 1) := by decide +kernel
theorem dX4_standsAt_5 : decode cX4_standsAt 5 = .ok (.iaload, 1) := by decide +kernel
theorem dX4_standsAt_6 : decode cX4_standsAt 6 = .ok (.istore_n 3, 1) := by decide +kernel
theorem dX4_standsAt_7 : decode cX4_standsAt 7 = .ok (.aload_n 0, 1) := by decide +kernel
theorem dX4_standsAt_8 : decode cX4_standsAt 8 = .ok (.iload_n 3, 1) := by decide +kernel
theorem dX4_standsAt_9 : decode cX4_standsAt 9 = .ok (.iload_n 2, 1) := by decide +kernel
theorem dX4_standsAt_10 : decode cX4_standsAt 10 = .ok (.invokevirtual 110, 3) := by decide +kernel
theorem dX4_standsAt_13 : decode cX4_standsAt 13 = .ok (.istore 4, 2) := by decide +kernel
theorem dX4_standsAt_15 : decode cX4_standsAt 15 = .ok (.iload 4, 2) := by decide +kernel
theorem dX4_standsAt_17 : decode cX4_standsAt 17 = .ok (.iconst (-1), 1) := by decide +kernel
theorem dX4_standsAt_18 : decode cX4_standsAt 18 = .ok (.if_icmp .eq 17, 3) := by decide +kernel
theorem dX4_standsAt_21 : decode cX4_standsAt 21 = .ok (.iload 4, 2) := by decide +kernel
theorem dX4_standsAt_23 : decode cX4_standsAt 23 = .ok (.istore_n 3, 1) := by decide +kernel
theorem dX4_standsAt_24 : decode cX4_standsAt 24 = .ok (.aload_n 0, 1) := by decide +kernel
theorem dX4_standsAt_25 : decode cX4_standsAt 25 = .ok (.iload_n 3, 1) := by decide +kernel
theorem dX4_standsAt_26 : decode cX4_standsAt 26 = .ok (.iload_n 2, 1) := by decide +kernel
theorem dX4_standsAt_27 : decode cX4_standsAt 27 = .ok (.invokevirtual 110, 3) := by decide +kernel
theorem dX4_standsAt_30 : decode cX4_standsAt 30 = .ok (.istore 4, 2) := by decide +kernel
theorem dX4_standsAt_32 : decode cX4_standsAt 32 = .ok (.goto (-17), 3) := by decide +kernel
theorem dX4_standsAt_35 : decode cX4_standsAt 35 = .ok (.iload_n 3, 1) := by decide +kernel
theorem dX4_standsAt_36 : decode cX4_standsAt 36 = .ok (.ireturn, 1) := by decide +kernel
theorem dX4_layRead_0 : decode cX4_layRead 0 = .ok (.iconst 0, 1) := by decide +kernel
theorem dX4_layRead_1 : decode cX4_layRead 1 = .ok (.istore_n 2, 1) := by decide +kernel
theorem dX4_layRead_2 : decode cX4_layRead 2 = .ok (.iload_n 2, 1) := by decide +kernel
theorem dX4_layRead_3 : decode cX4_layRead 3 = .ok (.aload_n 0, 1) := by decide +kernel
theorem dX4_layRead_4 : decode cX4_layRead 4 = .ok (.getfield 85, 3) := by decide +kernel
theorem dX4_layRead_7 : decode cX4_layRead 7 = .ok (.if_icmp .ge 16, 3) := by decide +kernel
theorem dX4_layRead_10 : decode cX4_layRead 10 = .ok (.aload_n 0, 1) := by decide +kernel
theorem dX4_layRead_11 : decode cX4_layRead 11 = .ok (.getfield 59, 3) := by decide +kernel
theorem dX4_layRead_14 : decode cX4_layRead 14 = .ok (.iload_n 2, 1) := by decide +kernel
theorem dX4_layRead_15 : decode cX4_layRead 15 = .ok (.iconst 0, 1) := by decide +kernel
theorem dX4_layRead_16 : decode cX4_layRead 16 = .ok (.bastore, 1) := by decide +kernel
theorem dX4_layRead_17 : decode cX4_layRead 17 = .ok (.iinc 2 1, 3) := by decide +kernel
theorem dX4_layRead_20 : decode cX4_layRead 20 = .ok (.goto (-18), 3) := by decide +kernel
theorem dX4_layRead_23 : decode cX4_layRead 23 = .ok (.iconst 0, 1) := by decide +kernel
theorem dX4_layRead_24 : decode cX4_layRead 24 = .ok (.istore_n 2, 1) := by decide +kernel
theorem dX4_layRead_25 : decode cX4_layRead 25 = .ok (.iload_n 2, 1) := by decide +kernel
theorem dX4_layRead_26 : decode cX4_layRead 26 = .ok (.aload_n 0, 1) := by decide +kernel
theorem dX4_layRead_27 : decode cX4_layRead 27 = .ok (.getfield 82, 3) := by decide +kernel
theorem dX4_layRead_30 : decode cX4_layRead 30 = .ok (.if_icmp .ge 30, 3) := by decide +kernel
theorem dX4_layRead_33 : decode cX4_layRead 33 = .ok (.aload_n 0, 1) := by decide +kernel
theorem dX4_layRead_34 : decode cX4_layRead 34 = .ok (.iload_n 2, 1) := by decide +kernel
theorem dX4_layRead_35 : decode cX4_layRead 35 = .ok (.iload_n 1, 1) := by decide +kernel
theorem dX4_layRead_36 : decode cX4_layRead 36 = .ok (.invokevirtual 114, 3) := by decide +kernel
theorem dX4_layRead_39 : decode cX4_layRead 39 = .ok (.ifCond .eq 15, 3) := by decide +kernel
theorem dX4_layRead_42 : decode cX4_layRead 42 = .ok (.aload_n 0, 1) := by decide +kernel
theorem dX4_layRead_43 : decode cX4_layRead 43 = .ok (.getfield 59, 3) := by decide +kernel
theorem dX4_layRead_46 : decode cX4_layRead 46 = .ok (.aload_n 0, 1) := by decide +kernel
theorem dX4_layRead_47 : decode cX4_layRead 47 = .ok (.iload_n 2, 1) := by decide +kernel
theorem dX4_layRead_48 : decode cX4_layRead 48 = .ok (.iload_n 1, 1) := by decide +kernel
theorem dX4_layRead_49 : decode cX4_layRead 49 = .ok (.invokevirtual 117, 3) := by decide +kernel
theorem dX4_layRead_52 : decode cX4_layRead 52 = .ok (.iconst 1, 1) := by decide +kernel
theorem dX4_layRead_53 : decode cX4_layRead 53 = .ok (.bastore, 1) := by decide +kernel
theorem dX4_layRead_54 : decode cX4_layRead 54 = .ok (.iinc 2 1, 3) := by decide +kernel
theorem dX4_layRead_57 : decode cX4_layRead 57 = .ok (.goto (-32), 3) := by decide +kernel
theorem dX4_layRead_60 : decode cX4_layRead 60 = .ok (.aload_n 0, 1) := by decide +kernel
theorem dX4_layRead_61 : decode cX4_layRead 61 = .ok (.iconst 0, 1) := by decide +kernel
theorem dX4_layRead_62 : decode cX4_layRead 62 = .ok (.putfield 120, 3) := by decide +kernel
theorem dX4_layRead_65 : decode cX4_layRead 65 = .ok (.iconst 0, 1) := by decide +kernel
theorem dX4_layRead_66 : decode cX4_layRead 66 = .ok (.istore_n 2, 1) := by decide +kernel
theorem dX4_layRead_67 : decode cX4_layRead 67 = .ok (.iload_n 2, 1) := by decide +kernel
theorem dX4_layRead_68 : decode cX4_layRead 68 = .ok (.aload_n 0, 1) := by decide +kernel
theorem dX4_layRead_69 : decode cX4_layRead 69 = .ok (.getfield 85, 3) := by decide +kernel
theorem dX4_layRead_72 : decode cX4_layRead 72 = .ok (.if_icmp .ge 48, 3) := by decide +kernel
theorem dX4_layRead_75 : decode cX4_layRead 75 = .ok (.aload_n 0, 1) := by decide +kernel
theorem dX4_layRead_76 : decode cX4_layRead 76 = .ok (.getfield 59, 3) := by decide +kernel
theorem dX4_layRead_79 : decode cX4_layRead 79 = .ok (.aload_n 0, 1) := by decide +kernel
theorem dX4_layRead_80 : decode cX4_layRead 80 = .ok (.getfield 47, 3) := by decide +kernel
theorem dX4_layRead_83 : decode cX4_layRead 83 = .ok (.iload_n 2, 1) := by decide +kernel
theorem dX4_layRead_84 : decode cX4_layRead 84 = .ok (.iaload, 1) := by decide +kernel
theorem dX4_layRead_85 : decode cX4_layRead 85 = .ok (.baload, 1) := by decide +kernel
theorem dX4_layRead_86 : decode cX4_layRead 86 = .ok (.ifCond .eq 28, 3) := by decide +kernel
theorem dX4_layRead_89 : decode cX4_layRead 89 = .ok (.aload_n 0, 1) := by decide +kernel
theorem dX4_layRead_90 : decode cX4_layRead 90 = .ok (.getfield 56, 3) := by decide +kernel
theorem dX4_layRead_93 : decode cX4_layRead 93 = .ok (.aload_n 0, 1) := by decide +kernel
theorem dX4_layRead_94 : decode cX4_layRead 94 = .ok (.getfield 120, 3) := by decide +kernel
theorem dX4_layRead_97 : decode cX4_layRead 97 = .ok (.aload_n 0, 1) := by decide +kernel
theorem dX4_layRead_98 : decode cX4_layRead 98 = .ok (.getfield 47, 3) := by decide +kernel
theorem dX4_layRead_101 : decode cX4_layRead 101 = .ok (.iload_n 2, 1) := by decide +kernel
theorem dX4_layRead_102 : decode cX4_layRead 102 = .ok (.iaload, 1) := by decide +kernel
theorem dX4_layRead_103 : decode cX4_layRead 103 = .ok (.iastore, 1) := by decide +kernel
theorem dX4_layRead_104 : decode cX4_layRead 104 = .ok (.aload_n 0, 1) := by decide +kernel
theorem dX4_layRead_105 : decode cX4_layRead 105 = .ok (.dup, 1) := by decide +kernel
theorem dX4_layRead_106 : decode cX4_layRead 106 = .ok (.getfield 120, 3) := by decide +kernel
theorem dX4_layRead_109 : decode cX4_layRead 109 = .ok (.iconst 1, 1) := by decide +kernel
theorem dX4_layRead_110 : decode cX4_layRead 110 = .ok (.iadd, 1) := by decide +kernel
theorem dX4_layRead_111 : decode cX4_layRead 111 = .ok (.putfield 120, 3) := by decide +kernel
theorem dX4_layRead_114 : decode cX4_layRead 114 = .ok (.iinc 2 1, 3) := by decide +kernel
theorem dX4_layRead_117 : decode cX4_layRead 117 = .ok (.goto (-50), 3) := by decide +kernel
theorem dX4_layRead_120 : decode cX4_layRead 120 = .ok (.return_, 1) := by decide +kernel
theorem dX4_inLine_0 : decode cX4_inLine 0 = .ok (.iconst 0, 1) := by decide +kernel
theorem dX4_inLine_1 : decode cX4_inLine 1 = .ok (.istore_n 2, 1) := by decide +kernel
theorem dX4_inLine_2 : decode cX4_inLine 2 = .ok (.aload_n 0, 1) := by decide +kernel
theorem dX4_inLine_3 : decode cX4_inLine 3 = .ok (.getfield 47, 3) := by decide +kernel
theorem dX4_inLine_6 : decode cX4_inLine 6 = .ok (.iload_n 2, 1) := by decide +kernel
theorem dX4_inLine_7 : decode cX4_inLine 7 = .ok (.iaload, 1) := by decide +kernel
theorem dX4_inLine_8 : decode cX4_inLine 8 = .ok (.iload_n 1, 1) := by decide +kernel
theorem dX4_inLine_9 : decode cX4_inLine 9 = .ok (.if_icmp .eq 9, 3) := by decide +kernel
theorem dX4_inLine_12 : decode cX4_inLine 12 = .ok (.iinc 2 1, 3) := by decide +kernel
theorem dX4_inLine_15 : decode cX4_inLine 15 = .ok (.goto (-13), 3) := by decide +kernel
theorem dX4_inLine_18 : decode cX4_inLine 18 = .ok (.iload_n 2, 1) := by decide +kernel
theorem dX4_inLine_19 : decode cX4_inLine 19 = .ok (.ireturn, 1) := by decide +kernel
theorem dX4_isAuthor_0 : decode cX4_isAuthor 0 = .ok (.iload_n 0, 1) := by decide +kernel
theorem dX4_isAuthor_1 : decode cX4_isAuthor 1 = .ok (.iconst 0, 1) := by decide +kernel
theorem dX4_isAuthor_2 : decode cX4_isAuthor 2 = .ok (.iconst 3, 1) := by decide +kernel
theorem dX4_isAuthor_3 : decode cX4_isAuthor 3 = .ok (.invokestatic 74, 3) := by decide +kernel
theorem dX4_isAuthor_6 : decode cX4_isAuthor 6 = .ok (.ireturn, 1) := by decide +kernel
theorem dX4_layChange_0 : decode cX4_layChange 0 = .ok (.aload_n 0, 1) := by decide +kernel
theorem dX4_layChange_1 : decode cX4_layChange 1 = .ok (.getfield 25, 3) := by decide +kernel
theorem dX4_layChange_4 : decode cX4_layChange 4 = .ok (.aload_n 0, 1) := by decide +kernel
theorem dX4_layChange_5 : decode cX4_layChange 5 = .ok (.getfield 96, 3) := by decide +kernel
theorem dX4_layChange_8 : decode cX4_layChange 8 = .ok (.iload_n 1, 1) := by decide +kernel
theorem dX4_layChange_9 : decode cX4_layChange 9 = .ok (.iastore, 1) := by decide +kernel
theorem dX4_layChange_10 : decode cX4_layChange 10 = .ok (.aload_n 0, 1) := by decide +kernel
theorem dX4_layChange_11 : decode cX4_layChange 11 = .ok (.getfield 28, 3) := by decide +kernel
theorem dX4_layChange_14 : decode cX4_layChange 14 = .ok (.aload_n 0, 1) := by decide +kernel
theorem dX4_layChange_15 : decode cX4_layChange 15 = .ok (.getfield 96, 3) := by decide +kernel
theorem dX4_layChange_18 : decode cX4_layChange 18 = .ok (.iload_n 2, 1) := by decide +kernel
theorem dX4_layChange_19 : decode cX4_layChange 19 = .ok (.iastore, 1) := by decide +kernel
theorem dX4_layChange_20 : decode cX4_layChange 20 = .ok (.aload_n 0, 1) := by decide +kernel
theorem dX4_layChange_21 : decode cX4_layChange 21 = .ok (.getfield 31, 3) := by decide +kernel
theorem dX4_layChange_24 : decode cX4_layChange 24 = .ok (.aload_n 0, 1) := by decide +kernel
theorem dX4_layChange_25 : decode cX4_layChange 25 = .ok (.getfield 96, 3) := by decide +kernel
theorem dX4_layChange_28 : decode cX4_layChange 28 = .ok (.iconst 0, 1) := by decide +kernel
theorem dX4_layChange_29 : decode cX4_layChange 29 = .ok (.iastore, 1) := by decide +kernel
theorem dX4_layChange_30 : decode cX4_layChange 30 = .ok (.aload_n 0, 1) := by decide +kernel
theorem dX4_layChange_31 : decode cX4_layChange 31 = .ok (.getfield 34, 3) := by decide +kernel
theorem dX4_layChange_34 : decode cX4_layChange 34 = .ok (.aload_n 0, 1) := by decide +kernel
theorem dX4_layChange_35 : decode cX4_layChange 35 = .ok (.getfield 96, 3) := by decide +kernel
theorem dX4_layChange_38 : decode cX4_layChange 38 = .ok (.iconst 0, 1) := by decide +kernel
theorem dX4_layChange_39 : decode cX4_layChange 39 = .ok (.bastore, 1) := by decide +kernel
theorem dX4_layChange_40 : decode cX4_layChange 40 = .ok (.aload_n 0, 1) := by decide +kernel
theorem dX4_layChange_41 : decode cX4_layChange 41 = .ok (.dup, 1) := by decide +kernel
theorem dX4_layChange_42 : decode cX4_layChange 42 = .ok (.getfield 96, 3) := by decide +kernel
theorem dX4_layChange_45 : decode cX4_layChange 45 = .ok (.iconst 1, 1) := by decide +kernel
theorem dX4_layChange_46 : decode cX4_layChange 46 = .ok (.iadd, 1) := by decide +kernel
theorem dX4_layChange_47 : decode cX4_layChange 47 = .ok (.putfield 96, 3) := by decide +kernel
theorem dX4_layChange_50 : decode cX4_layChange 50 = .ok (.aload_n 0, 1) := by decide +kernel
theorem dX4_layChange_51 : decode cX4_layChange 51 = .ok (.getfield 96, 3) := by decide +kernel
theorem dX4_layChange_54 : decode cX4_layChange 54 = .ok (.iconst 1, 1) := by decide +kernel
theorem dX4_layChange_55 : decode cX4_layChange 55 = .ok (.isub, 1) := by decide +kernel
theorem dX4_layChange_56 : decode cX4_layChange 56 = .ok (.ireturn, 1) := by decide +kernel
theorem dX4_ahead_0 : decode cX4_ahead 0 = .ok (.iload_n 1, 1) := by decide +kernel
theorem dX4_ahead_1 : decode cX4_ahead 1 = .ok (.aload_n 0, 1) := by decide +kernel
theorem dX4_ahead_2 : decode cX4_ahead 2 = .ok (.getfield 120, 3) := by decide +kernel
theorem dX4_ahead_5 : decode cX4_ahead 5 = .ok (.if_icmp .ge 16, 3) := by decide +kernel
theorem dX4_ahead_8 : decode cX4_ahead 8 = .ok (.aload_n 0, 1) := by decide +kernel
theorem dX4_ahead_9 : decode cX4_ahead 9 = .ok (.aload_n 0, 1) := by decide +kernel
theorem dX4_ahead_10 : decode cX4_ahead 10 = .ok (.getfield 56, 3) := by decide +kernel
theorem dX4_ahead_13 : decode cX4_ahead 13 = .ok (.iload_n 1, 1) := by decide +kernel
theorem dX4_ahead_14 : decode cX4_ahead 14 = .ok (.iaload, 1) := by decide +kernel
theorem dX4_ahead_15 : decode cX4_ahead 15 = .ok (.invokevirtual 123, 3) := by decide +kernel
theorem dX4_ahead_18 : decode cX4_ahead 18 = .ok (.goto 7, 3) := by decide +kernel
theorem dX4_ahead_21 : decode cX4_ahead 21 = .ok (.aload_n 0, 1) := by decide +kernel
theorem dX4_ahead_22 : decode cX4_ahead 22 = .ok (.getfield 85, 3) := by decide +kernel
theorem dX4_ahead_25 : decode cX4_ahead 25 = .ok (.ireturn, 1) := by decide +kernel
theorem dX4_insert_0 : decode cX4_insert 0 = .ok (.iload_n 1, 1) := by decide +kernel
theorem dX4_insert_1 : decode cX4_insert 1 = .ok (.invokestatic 127, 3) := by decide +kernel
theorem dX4_insert_4 : decode cX4_insert 4 = .ok (.ifCond .ne 7, 3) := by decide +kernel
theorem dX4_insert_7 : decode cX4_insert 7 = .ok (.sipush (-1001), 3) := by decide +kernel
theorem dX4_insert_10 : decode cX4_insert 10 = .ok (.ireturn, 1) := by decide +kernel
theorem dX4_insert_11 : decode cX4_insert 11 = .ok (.aload_n 0, 1) := by decide +kernel
theorem dX4_insert_12 : decode cX4_insert 12 = .ok (.aload_n 0, 1) := by decide +kernel
theorem dX4_insert_13 : decode cX4_insert 13 = .ok (.iload_n 1, 1) := by decide +kernel
theorem dX4_insert_14 : decode cX4_insert 14 = .ok (.iconst 2, 1) := by decide +kernel
theorem dX4_insert_15 : decode cX4_insert 15 = .ok (.iadd, 1) := by decide +kernel
theorem dX4_insert_16 : decode cX4_insert 16 = .ok (.invokevirtual 131, 3) := by decide +kernel
theorem dX4_insert_19 : decode cX4_insert 19 = .ok (.invokevirtual 134, 3) := by decide +kernel
theorem dX4_insert_22 : decode cX4_insert 22 = .ok (.iload_n 2, 1) := by decide +kernel
theorem dX4_insert_23 : decode cX4_insert 23 = .ok (.iconst 0, 1) := by decide +kernel
theorem dX4_insert_24 : decode cX4_insert 24 = .ok (.aload_n 0, 1) := by decide +kernel
theorem dX4_insert_25 : decode cX4_insert 25 = .ok (.getfield 120, 3) := by decide +kernel
theorem dX4_insert_28 : decode cX4_insert 28 = .ok (.invokestatic 74, 3) := by decide +kernel
theorem dX4_insert_31 : decode cX4_insert 31 = .ok (.ifCond .ne 7, 3) := by decide +kernel
theorem dX4_insert_34 : decode cX4_insert 34 = .ok (.sipush (-1001), 3) := by decide +kernel
theorem dX4_insert_37 : decode cX4_insert 37 = .ok (.ireturn, 1) := by decide +kernel
theorem dX4_insert_38 : decode cX4_insert 38 = .ok (.aload_n 0, 1) := by decide +kernel
theorem dX4_insert_39 : decode cX4_insert 39 = .ok (.getfield 78, 3) := by decide +kernel
theorem dX4_insert_42 : decode cX4_insert 42 = .ok (.ifCond .ne 7, 3) := by decide +kernel
theorem dX4_insert_45 : decode cX4_insert 45 = .ok (.sipush (-1003), 3) := by decide +kernel
theorem dX4_insert_48 : decode cX4_insert 48 = .ok (.ireturn, 1) := by decide +kernel
theorem dX4_insert_49 : decode cX4_insert 49 = .ok (.aload_n 0, 1) := by decide +kernel
theorem dX4_insert_50 : decode cX4_insert 50 = .ok (.getfield 82, 3) := by decide +kernel
theorem dX4_insert_53 : decode cX4_insert 53 = .ok (.aload_n 0, 1) := by decide +kernel
theorem dX4_insert_54 : decode cX4_insert 54 = .ok (.getfield 78, 3) := by decide +kernel
theorem dX4_insert_57 : decode cX4_insert 57 = .ok (.iadd, 1) := by decide +kernel
theorem dX4_insert_58 : decode cX4_insert 58 = .ok (.bipush 64, 2) := by decide +kernel
theorem dX4_insert_60 : decode cX4_insert 60 = .ok (.if_icmp .gt 26, 3) := by decide +kernel
theorem dX4_insert_63 : decode cX4_insert 63 = .ok (.aload_n 0, 1) := by decide +kernel
theorem dX4_insert_64 : decode cX4_insert 64 = .ok (.getfield 96, 3) := by decide +kernel
theorem dX4_insert_67 : decode cX4_insert 67 = .ok (.bipush 12, 2) := by decide +kernel
theorem dX4_insert_69 : decode cX4_insert 69 = .ok (.if_icmp .eq 17, 3) := by decide +kernel
theorem dX4_insert_72 : decode cX4_insert 72 = .ok (.aload_n 0, 1) := by decide +kernel
theorem dX4_insert_73 : decode cX4_insert 73 = .ok (.getfield 85, 3) := by decide +kernel
theorem dX4_insert_76 : decode cX4_insert 76 = .ok (.aload_n 0, 1) := by decide +kernel
theorem dX4_insert_77 : decode cX4_insert 77 = .ok (.getfield 78, 3) := by decide +kernel
theorem dX4_insert_80 : decode cX4_insert 80 = .ok (.iadd, 1) := by decide +kernel
theorem dX4_insert_81 : decode cX4_insert 81 = .ok (.bipush 90, 2) := by decide +kernel
theorem dX4_insert_83 : decode cX4_insert 83 = .ok (.if_icmp .le 7, 3) := by decide +kernel
theorem dX4_insert_86 : decode cX4_insert 86 = .ok (.sipush (-1004), 3) := by decide +kernel
theorem dX4_insert_89 : decode cX4_insert 89 = .ok (.ireturn, 1) := by decide +kernel
theorem dX4_insert_90 : decode cX4_insert 90 = .ok (.aload_n 0, 1) := by decide +kernel
theorem dX4_insert_91 : decode cX4_insert 91 = .ok (.iload_n 2, 1) := by decide +kernel
theorem dX4_insert_92 : decode cX4_insert 92 = .ok (.invokevirtual 138, 3) := by decide +kernel
theorem dX4_insert_95 : decode cX4_insert 95 = .ok (.istore_n 3, 1) := by decide +kernel
theorem dX4_insert_96 : decode cX4_insert 96 = .ok (.aload_n 0, 1) := by decide +kernel
theorem dX4_insert_97 : decode cX4_insert 97 = .ok (.iconst 0, 1) := by decide +kernel
theorem dX4_insert_98 : decode cX4_insert 98 = .ok (.iload_n 1, 1) := by decide +kernel
theorem dX4_insert_99 : decode cX4_insert 99 = .ok (.invokevirtual 141, 3) := by decide +kernel
theorem dX4_insert_102 : decode cX4_insert 102 = .ok (.istore 4, 2) := by decide +kernel
theorem dX4_insert_104 : decode cX4_insert 104 = .ok (.iconst 0, 1) := by decide +kernel
theorem dX4_insert_105 : decode cX4_insert 105 = .ok (.istore 5, 2) := by decide +kernel
theorem dX4_insert_107 : decode cX4_insert 107 = .ok (.iload 5, 2) := by decide +kernel
theorem dX4_insert_109 : decode cX4_insert 109 = .ok (.aload_n 0, 1) := by decide +kernel
theorem dX4_insert_110 : decode cX4_insert 110 = .ok (.getfield 78, 3) := by decide +kernel
theorem dX4_insert_113 : decode cX4_insert 113 = .ok (.if_icmp .ge 26, 3) := by decide +kernel
theorem dX4_insert_116 : decode cX4_insert 116 = .ok (.aload_n 0, 1) := by decide +kernel
theorem dX4_insert_117 : decode cX4_insert 117 = .ok (.aload_n 0, 1) := by decide +kernel
theorem dX4_insert_118 : decode cX4_insert 118 = .ok (.getfield 7, 3) := by decide +kernel
theorem dX4_insert_121 : decode cX4_insert 121 = .ok (.iload 5, 2) := by decide +kernel
theorem dX4_insert_123 : decode cX4_insert 123 = .ok (.iaload, 1) := by decide +kernel
theorem dX4_insert_124 : decode cX4_insert 124 = .ok (.iload 4, 2) := by decide +kernel
theorem dX4_insert_126 : decode cX4_insert 126 = .ok (.iload_n 3, 1) := by decide +kernel
theorem dX4_insert_127 : decode cX4_insert 127 = .ok (.iload 5, 2) := by decide +kernel
theorem dX4_insert_129 : decode cX4_insert 129 = .ok (.iadd, 1) := by decide +kernel
theorem dX4_insert_130 : decode cX4_insert 130 = .ok (.invokevirtual 99, 3) := by decide +kernel
theorem dX4_insert_133 : decode cX4_insert 133 = .ok (.iinc 5 1, 3) := by decide +kernel
theorem dX4_insert_136 : decode cX4_insert 136 = .ok (.goto (-29), 3) := by decide +kernel
theorem dX4_insert_139 : decode cX4_insert 139 = .ok (.aload_n 0, 1) := by decide +kernel
theorem dX4_insert_140 : decode cX4_insert 140 = .ok (.iconst 0, 1) := by decide +kernel
theorem dX4_insert_141 : decode cX4_insert 141 = .ok (.putfield 78, 3) := by decide +kernel
theorem dX4_insert_144 : decode cX4_insert 144 = .ok (.iload 4, 2) := by decide +kernel
theorem dX4_insert_146 : decode cX4_insert 146 = .ok (.ireturn, 1) := by decide +kernel
theorem dX4_remove_0 : decode cX4_remove 0 = .ok (.iload_n 1, 1) := by decide +kernel
theorem dX4_remove_1 : decode cX4_remove 1 = .ok (.invokestatic 127, 3) := by decide +kernel
theorem dX4_remove_4 : decode cX4_remove 4 = .ok (.ifCond .ne 7, 3) := by decide +kernel
theorem dX4_remove_7 : decode cX4_remove 7 = .ok (.sipush (-1001), 3) := by decide +kernel
theorem dX4_remove_10 : decode cX4_remove 10 = .ok (.ireturn, 1) := by decide +kernel
theorem dX4_remove_11 : decode cX4_remove 11 = .ok (.aload_n 0, 1) := by decide +kernel
theorem dX4_remove_12 : decode cX4_remove 12 = .ok (.aload_n 0, 1) := by decide +kernel
theorem dX4_remove_13 : decode cX4_remove 13 = .ok (.iload_n 1, 1) := by decide +kernel
theorem dX4_remove_14 : decode cX4_remove 14 = .ok (.iconst 2, 1) := by decide +kernel
theorem dX4_remove_15 : decode cX4_remove 15 = .ok (.iadd, 1) := by decide +kernel
theorem dX4_remove_16 : decode cX4_remove 16 = .ok (.invokevirtual 131, 3) := by decide +kernel
theorem dX4_remove_19 : decode cX4_remove 19 = .ok (.invokevirtual 134, 3) := by decide +kernel
theorem dX4_remove_22 : decode cX4_remove 22 = .ok (.iload_n 2, 1) := by decide +kernel
theorem dX4_remove_23 : decode cX4_remove 23 = .ok (.iconst 0, 1) := by decide +kernel
theorem dX4_remove_24 : decode cX4_remove 24 = .ok (.aload_n 0, 1) := by decide +kernel
theorem dX4_remove_25 : decode cX4_remove 25 = .ok (.getfield 120, 3) := by decide +kernel
theorem dX4_remove_28 : decode cX4_remove 28 = .ok (.iconst 1, 1) := by decide +kernel
theorem dX4_remove_29 : decode cX4_remove 29 = .ok (.isub, 1) := by decide +kernel
theorem dX4_remove_30 : decode cX4_remove 30 = .ok (.invokestatic 74, 3) := by decide +kernel
theorem dX4_remove_33 : decode cX4_remove 33 = .ok (.ifCond .ne 7, 3) := by decide +kernel
theorem dX4_remove_36 : decode cX4_remove 36 = .ok (.sipush (-1001), 3) := by decide +kernel
theorem dX4_remove_39 : decode cX4_remove 39 = .ok (.ireturn, 1) := by decide +kernel
theorem dX4_remove_40 : decode cX4_remove 40 = .ok (.iload_n 3, 1) := by decide +kernel
theorem dX4_remove_41 : decode cX4_remove 41 = .ok (.iconst 1, 1) := by decide +kernel
theorem dX4_remove_42 : decode cX4_remove 42 = .ok (.aload_n 0, 1) := by decide +kernel
theorem dX4_remove_43 : decode cX4_remove 43 = .ok (.getfield 120, 3) := by decide +kernel
theorem dX4_remove_46 : decode cX4_remove 46 = .ok (.iload_n 2, 1) := by decide +kernel
theorem dX4_remove_47 : decode cX4_remove 47 = .ok (.isub, 1) := by decide +kernel
theorem dX4_remove_48 : decode cX4_remove 48 = .ok (.invokestatic 74, 3) := by decide +kernel
theorem dX4_remove_51 : decode cX4_remove 51 = .ok (.ifCond .ne 7, 3) := by decide +kernel
theorem dX4_remove_54 : decode cX4_remove 54 = .ok (.sipush (-1002), 3) := by decide +kernel
theorem dX4_remove_57 : decode cX4_remove 57 = .ok (.ireturn, 1) := by decide +kernel
theorem dX4_remove_58 : decode cX4_remove 58 = .ok (.aload_n 0, 1) := by decide +kernel
theorem dX4_remove_59 : decode cX4_remove 59 = .ok (.getfield 96, 3) := by decide +kernel
theorem dX4_remove_62 : decode cX4_remove 62 = .ok (.bipush 12, 2) := by decide +kernel
theorem dX4_remove_64 : decode cX4_remove 64 = .ok (.if_icmp .ne 7, 3) := by decide +kernel
theorem dX4_remove_67 : decode cX4_remove 67 = .ok (.sipush (-1004), 3) := by decide +kernel
theorem dX4_remove_70 : decode cX4_remove 70 = .ok (.ireturn, 1) := by decide +kernel
theorem dX4_remove_71 : decode cX4_remove 71 = .ok (.aload_n 0, 1) := by decide +kernel
theorem dX4_remove_72 : decode cX4_remove 72 = .ok (.iconst 1, 1) := by decide +kernel
theorem dX4_remove_73 : decode cX4_remove 73 = .ok (.iload_n 1, 1) := by decide +kernel
theorem dX4_remove_74 : decode cX4_remove 74 = .ok (.invokevirtual 141, 3) := by decide +kernel
theorem dX4_remove_77 : decode cX4_remove 77 = .ok (.istore 4, 2) := by decide +kernel
theorem dX4_remove_79 : decode cX4_remove 79 = .ok (.iload_n 2, 1) := by decide +kernel
theorem dX4_remove_80 : decode cX4_remove 80 = .ok (.istore 5, 2) := by decide +kernel
theorem dX4_remove_82 : decode cX4_remove 82 = .ok (.iload 5, 2) := by decide +kernel
theorem dX4_remove_84 : decode cX4_remove 84 = .ok (.iload_n 2, 1) := by decide +kernel
theorem dX4_remove_85 : decode cX4_remove 85 = .ok (.iload_n 3, 1) := by decide +kernel
theorem dX4_remove_86 : decode cX4_remove 86 = .ok (.iadd, 1) := by decide +kernel
theorem dX4_remove_87 : decode cX4_remove 87 = .ok (.if_icmp .ge 33, 3) := by decide +kernel
theorem dX4_remove_90 : decode cX4_remove 90 = .ok (.aload_n 0, 1) := by decide +kernel
theorem dX4_remove_91 : decode cX4_remove 91 = .ok (.getfield 22, 3) := by decide +kernel
theorem dX4_remove_94 : decode cX4_remove 94 = .ok (.aload_n 0, 1) := by decide +kernel
theorem dX4_remove_95 : decode cX4_remove 95 = .ok (.getfield 38, 3) := by decide +kernel
theorem dX4_remove_98 : decode cX4_remove 98 = .ok (.aload_n 0, 1) := by decide +kernel
theorem dX4_remove_99 : decode cX4_remove 99 = .ok (.getfield 56, 3) := by decide +kernel
theorem dX4_remove_102 : decode cX4_remove 102 = .ok (.iload 5, 2) := by decide +kernel
theorem dX4_remove_104 : decode cX4_remove 104 = .ok (.iaload, 1) := by decide +kernel
theorem dX4_remove_105 : decode cX4_remove 105 = .ok (.iaload, 1) := by decide +kernel
theorem dX4_remove_106 : decode cX4_remove 106 = .ok (.dup2, 1) := by decide +kernel
theorem dX4_remove_107 : decode cX4_remove 107 = .ok (.iaload, 1) := by decide +kernel
theorem dX4_remove_108 : decode cX4_remove 108 = .ok (.iconst 1, 1) := by decide +kernel
theorem dX4_remove_109 : decode cX4_remove 109 = .ok (.iload 4, 2) := by decide +kernel
theorem dX4_remove_111 : decode cX4_remove 111 = .ok (.ishl, 1) := by decide +kernel
theorem dX4_remove_112 : decode cX4_remove 112 = .ok (.ior, 1) := by decide +kernel
theorem dX4_remove_113 : decode cX4_remove 113 = .ok (.iastore, 1) := by decide +kernel
theorem dX4_remove_114 : decode cX4_remove 114 = .ok (.iinc 5 1, 3) := by decide +kernel
theorem dX4_remove_117 : decode cX4_remove 117 = .ok (.goto (-35), 3) := by decide +kernel
theorem dX4_remove_120 : decode cX4_remove 120 = .ok (.iload 4, 2) := by decide +kernel
theorem dX4_remove_122 : decode cX4_remove 122 = .ok (.ireturn, 1) := by decide +kernel
theorem dX4_move_0 : decode cX4_move 0 = .ok (.iload_n 1, 1) := by decide +kernel
theorem dX4_move_1 : decode cX4_move 1 = .ok (.invokestatic 127, 3) := by decide +kernel
theorem dX4_move_4 : decode cX4_move 4 = .ok (.ifCond .ne 7, 3) := by decide +kernel
theorem dX4_move_7 : decode cX4_move 7 = .ok (.sipush (-1001), 3) := by decide +kernel
theorem dX4_move_10 : decode cX4_move 10 = .ok (.ireturn, 1) := by decide +kernel
theorem dX4_move_11 : decode cX4_move 11 = .ok (.aload_n 0, 1) := by decide +kernel
theorem dX4_move_12 : decode cX4_move 12 = .ok (.aload_n 0, 1) := by decide +kernel
theorem dX4_move_13 : decode cX4_move 13 = .ok (.iload_n 1, 1) := by decide +kernel
theorem dX4_move_14 : decode cX4_move 14 = .ok (.iconst 2, 1) := by decide +kernel
theorem dX4_move_15 : decode cX4_move 15 = .ok (.iadd, 1) := by decide +kernel
theorem dX4_move_16 : decode cX4_move 16 = .ok (.invokevirtual 131, 3) := by decide +kernel
theorem dX4_move_19 : decode cX4_move 19 = .ok (.invokevirtual 134, 3) := by decide +kernel
theorem dX4_move_22 : decode cX4_move 22 = .ok (.iload_n 2, 1) := by decide +kernel
theorem dX4_move_23 : decode cX4_move 23 = .ok (.iconst 0, 1) := by decide +kernel
theorem dX4_move_24 : decode cX4_move 24 = .ok (.aload_n 0, 1) := by decide +kernel
theorem dX4_move_25 : decode cX4_move 25 = .ok (.getfield 120, 3) := by decide +kernel
theorem dX4_move_28 : decode cX4_move 28 = .ok (.iconst 1, 1) := by decide +kernel
theorem dX4_move_29 : decode cX4_move 29 = .ok (.isub, 1) := by decide +kernel
theorem dX4_move_30 : decode cX4_move 30 = .ok (.invokestatic 74, 3) := by decide +kernel
theorem dX4_move_33 : decode cX4_move 33 = .ok (.ifCond .ne 7, 3) := by decide +kernel
theorem dX4_move_36 : decode cX4_move 36 = .ok (.sipush (-1001), 3) := by decide +kernel
theorem dX4_move_39 : decode cX4_move 39 = .ok (.ireturn, 1) := by decide +kernel
theorem dX4_move_40 : decode cX4_move 40 = .ok (.iload_n 3, 1) := by decide +kernel
theorem dX4_move_41 : decode cX4_move 41 = .ok (.iconst 1, 1) := by decide +kernel
theorem dX4_move_42 : decode cX4_move 42 = .ok (.aload_n 0, 1) := by decide +kernel
theorem dX4_move_43 : decode cX4_move 43 = .ok (.getfield 120, 3) := by decide +kernel
theorem dX4_move_46 : decode cX4_move 46 = .ok (.iload_n 2, 1) := by decide +kernel
theorem dX4_move_47 : decode cX4_move 47 = .ok (.isub, 1) := by decide +kernel
theorem dX4_move_48 : decode cX4_move 48 = .ok (.invokestatic 74, 3) := by decide +kernel
theorem dX4_move_51 : decode cX4_move 51 = .ok (.ifCond .ne 7, 3) := by decide +kernel
theorem dX4_move_54 : decode cX4_move 54 = .ok (.sipush (-1002), 3) := by decide +kernel
theorem dX4_move_57 : decode cX4_move 57 = .ok (.ireturn, 1) := by decide +kernel
theorem dX4_move_58 : decode cX4_move 58 = .ok (.iload 4, 2) := by decide +kernel
theorem dX4_move_60 : decode cX4_move 60 = .ok (.iconst 0, 1) := by decide +kernel
theorem dX4_move_61 : decode cX4_move 61 = .ok (.aload_n 0, 1) := by decide +kernel
theorem dX4_move_62 : decode cX4_move 62 = .ok (.getfield 120, 3) := by decide +kernel
theorem dX4_move_65 : decode cX4_move 65 = .ok (.invokestatic 74, 3) := by decide +kernel
theorem dX4_move_68 : decode cX4_move 68 = .ok (.ifCond .ne 7, 3) := by decide +kernel
theorem dX4_move_71 : decode cX4_move 71 = .ok (.sipush (-1001), 3) := by decide +kernel
theorem dX4_move_74 : decode cX4_move 74 = .ok (.ireturn, 1) := by decide +kernel
theorem dX4_move_75 : decode cX4_move 75 = .ok (.iload 4, 2) := by decide +kernel
theorem dX4_move_77 : decode cX4_move 77 = .ok (.iload_n 2, 1) := by decide +kernel
theorem dX4_move_78 : decode cX4_move 78 = .ok (.if_icmp .le 15, 3) := by decide +kernel
theorem dX4_move_81 : decode cX4_move 81 = .ok (.iload 4, 2) := by decide +kernel
theorem dX4_move_83 : decode cX4_move 83 = .ok (.iload_n 2, 1) := by decide +kernel
theorem dX4_move_84 : decode cX4_move 84 = .ok (.iload_n 3, 1) := by decide +kernel
theorem dX4_move_85 : decode cX4_move 85 = .ok (.iadd, 1) := by decide +kernel
theorem dX4_move_86 : decode cX4_move 86 = .ok (.if_icmp .ge 7, 3) := by decide +kernel
theorem dX4_move_89 : decode cX4_move 89 = .ok (.sipush (-1003), 3) := by decide +kernel
theorem dX4_move_92 : decode cX4_move 92 = .ok (.ireturn, 1) := by decide +kernel
theorem dX4_move_93 : decode cX4_move 93 = .ok (.aload_n 0, 1) := by decide +kernel
theorem dX4_move_94 : decode cX4_move 94 = .ok (.getfield 96, 3) := by decide +kernel
theorem dX4_move_97 : decode cX4_move 97 = .ok (.bipush 12, 2) := by decide +kernel
theorem dX4_move_99 : decode cX4_move 99 = .ok (.if_icmp .eq 14, 3) := by decide +kernel
theorem dX4_move_102 : decode cX4_move 102 = .ok (.aload_n 0, 1) := by decide +kernel
theorem dX4_move_103 : decode cX4_move 103 = .ok (.getfield 85, 3) := by decide +kernel
theorem dX4_move_106 : decode cX4_move 106 = .ok (.iload_n 3, 1) := by decide +kernel
theorem dX4_move_107 : decode cX4_move 107 = .ok (.iadd, 1) := by decide +kernel
theorem dX4_move_108 : decode cX4_move 108 = .ok (.bipush 90, 2) := by decide +kernel
theorem dX4_move_110 : decode cX4_move 110 = .ok (.if_icmp .le 7, 3) := by decide +kernel
theorem dX4_move_113 : decode cX4_move 113 = .ok (.sipush (-1004), 3) := by decide +kernel
theorem dX4_move_116 : decode cX4_move 116 = .ok (.ireturn, 1) := by decide +kernel
theorem dX4_move_117 : decode cX4_move 117 = .ok (.aload_n 0, 1) := by decide +kernel
theorem dX4_move_118 : decode cX4_move 118 = .ok (.iload 4, 2) := by decide +kernel
theorem dX4_move_120 : decode cX4_move 120 = .ok (.invokevirtual 138, 3) := by decide +kernel
theorem dX4_move_123 : decode cX4_move 123 = .ok (.istore 5, 2) := by decide +kernel
theorem dX4_move_125 : decode cX4_move 125 = .ok (.aload_n 0, 1) := by decide +kernel
theorem dX4_move_126 : decode cX4_move 126 = .ok (.iconst 2, 1) := by decide +kernel
theorem dX4_move_127 : decode cX4_move 127 = .ok (.iload_n 1, 1) := by decide +kernel
theorem dX4_move_128 : decode cX4_move 128 = .ok (.invokevirtual 141, 3) := by decide +kernel
theorem dX4_move_131 : decode cX4_move 131 = .ok (.istore 6, 2) := by decide +kernel
theorem dX4_move_133 : decode cX4_move 133 = .ok (.iconst 0, 1) := by decide +kernel
theorem dX4_move_134 : decode cX4_move 134 = .ok (.istore 7, 2) := by decide +kernel
theorem dX4_move_136 : decode cX4_move 136 = .ok (.iload 7, 2) := by decide +kernel
theorem dX4_move_138 : decode cX4_move 138 = .ok (.iload_n 3, 1) := by decide +kernel
theorem dX4_move_139 : decode cX4_move 139 = .ok (.if_icmp .ge 43, 3) := by decide +kernel
theorem dX4_move_142 : decode cX4_move 142 = .ok (.aload_n 0, 1) := by decide +kernel
theorem dX4_move_143 : decode cX4_move 143 = .ok (.aload_n 0, 1) := by decide +kernel
theorem dX4_move_144 : decode cX4_move 144 = .ok (.getfield 38, 3) := by decide +kernel
theorem dX4_move_147 : decode cX4_move 147 = .ok (.aload_n 0, 1) := by decide +kernel
theorem dX4_move_148 : decode cX4_move 148 = .ok (.getfield 56, 3) := by decide +kernel
theorem dX4_move_151 : decode cX4_move 151 = .ok (.iload_n 2, 1) := by decide +kernel
theorem dX4_move_152 : decode cX4_move 152 = .ok (.iload 7, 2) := by decide +kernel
theorem dX4_move_154 : decode cX4_move 154 = .ok (.iadd, 1) := by decide +kernel
theorem dX4_move_155 : decode cX4_move 155 = .ok (.iaload, 1) := by decide +kernel
theorem dX4_move_156 : decode cX4_move 156 = .ok (.iaload, 1) := by decide +kernel
theorem dX4_move_157 : decode cX4_move 157 = .ok (.aload_n 0, 1) := by decide +kernel
theorem dX4_move_158 : decode cX4_move 158 = .ok (.getfield 56, 3) := by decide +kernel
theorem dX4_move_161 : decode cX4_move 161 = .ok (.iload_n 2, 1) := by decide +kernel
theorem dX4_move_162 : decode cX4_move 162 = .ok (.iload 7, 2) := by decide +kernel
theorem dX4_move_164 : decode cX4_move 164 = .ok (.iadd, 1) := by decide +kernel
theorem dX4_move_165 : decode cX4_move 165 = .ok (.iaload, 1) := by decide +kernel
theorem dX4_move_166 : decode cX4_move 166 = .ok (.iload 6, 2) := by decide +kernel
theorem dX4_move_168 : decode cX4_move 168 = .ok (.iload 5, 2) := by decide +kernel
theorem dX4_move_170 : decode cX4_move 170 = .ok (.iload 7, 2) := by decide +kernel
theorem dX4_move_172 : decode cX4_move 172 = .ok (.iadd, 1) := by decide +kernel
theorem dX4_move_173 : decode cX4_move 173 = .ok (.invokevirtual 88, 3) := by decide +kernel
theorem dX4_move_176 : decode cX4_move 176 = .ok (.iinc 7 1, 3) := by decide +kernel
theorem dX4_move_179 : decode cX4_move 179 = .ok (.goto (-43), 3) := by decide +kernel
theorem dX4_move_182 : decode cX4_move 182 = .ok (.iload 6, 2) := by decide +kernel
theorem dX4_move_184 : decode cX4_move 184 = .ok (.ireturn, 1) := by decide +kernel
theorem dX4_isChange_0 : decode cX4_isChange 0 = .ok (.iload_n 1, 1) := by decide +kernel
theorem dX4_isChange_1 : decode cX4_isChange 1 = .ok (.iconst 0, 1) := by decide +kernel
theorem dX4_isChange_2 : decode cX4_isChange 2 = .ok (.aload_n 0, 1) := by decide +kernel
theorem dX4_isChange_3 : decode cX4_isChange 3 = .ok (.getfield 96, 3) := by decide +kernel
theorem dX4_isChange_6 : decode cX4_isChange 6 = .ok (.iconst 1, 1) := by decide +kernel
theorem dX4_isChange_7 : decode cX4_isChange 7 = .ok (.isub, 1) := by decide +kernel
theorem dX4_isChange_8 : decode cX4_isChange 8 = .ok (.invokestatic 74, 3) := by decide +kernel
theorem dX4_isChange_11 : decode cX4_isChange 11 = .ok (.ireturn, 1) := by decide +kernel
theorem dX4_show_0 : decode cX4_show 0 = .ok (.aload_n 0, 1) := by decide +kernel
theorem dX4_show_1 : decode cX4_show 1 = .ok (.iload_n 1, 1) := by decide +kernel
theorem dX4_show_2 : decode cX4_show 2 = .ok (.invokevirtual 144, 3) := by decide +kernel
theorem dX4_show_5 : decode cX4_show 5 = .ok (.ifCond .ne 7, 3) := by decide +kernel
theorem dX4_show_8 : decode cX4_show 8 = .ok (.sipush (-1001), 3) := by decide +kernel
theorem dX4_show_11 : decode cX4_show 11 = .ok (.ireturn, 1) := by decide +kernel
theorem dX4_show_12 : decode cX4_show 12 = .ok (.aload_n 0, 1) := by decide +kernel
theorem dX4_show_13 : decode cX4_show 13 = .ok (.getfield 34, 3) := by decide +kernel
theorem dX4_show_16 : decode cX4_show 16 = .ok (.iload_n 1, 1) := by decide +kernel
theorem dX4_show_17 : decode cX4_show 17 = .ok (.baload, 1) := by decide +kernel
theorem dX4_show_18 : decode cX4_show 18 = .ok (.ifCond .eq 7, 3) := by decide +kernel
theorem dX4_show_21 : decode cX4_show 21 = .ok (.iconst 1, 1) := by decide +kernel
theorem dX4_show_22 : decode cX4_show 22 = .ok (.goto 4, 3) := by decide +kernel
theorem dX4_show_25 : decode cX4_show 25 = .ok (.iconst 0, 1) := by decide +kernel
theorem dX4_show_26 : decode cX4_show 26 = .ok (.istore_n 3, 1) := by decide +kernel
theorem dX4_show_27 : decode cX4_show 27 = .ok (.aload_n 0, 1) := by decide +kernel
theorem dX4_show_28 : decode cX4_show 28 = .ok (.getfield 34, 3) := by decide +kernel
theorem dX4_show_31 : decode cX4_show 31 = .ok (.iload_n 1, 1) := by decide +kernel
theorem dX4_show_32 : decode cX4_show 32 = .ok (.iload_n 2, 1) := by decide +kernel
theorem dX4_show_33 : decode cX4_show 33 = .ok (.bastore, 1) := by decide +kernel
theorem dX4_show_34 : decode cX4_show 34 = .ok (.iload_n 3, 1) := by decide +kernel
theorem dX4_show_35 : decode cX4_show 35 = .ok (.ireturn, 1) := by decide +kernel
theorem dX4_decide_0 : decode cX4_decide 0 = .ok (.aload_n 0, 1) := by decide +kernel
theorem dX4_decide_1 : decode cX4_decide 1 = .ok (.iload_n 1, 1) := by decide +kernel
theorem dX4_decide_2 : decode cX4_decide 2 = .ok (.invokevirtual 144, 3) := by decide +kernel
theorem dX4_decide_5 : decode cX4_decide 5 = .ok (.ifCond .ne 7, 3) := by decide +kernel
theorem dX4_decide_8 : decode cX4_decide 8 = .ok (.sipush (-1001), 3) := by decide +kernel
theorem dX4_decide_11 : decode cX4_decide 11 = .ok (.ireturn, 1) := by decide +kernel
theorem dX4_decide_12 : decode cX4_decide 12 = .ok (.iload_n 2, 1) := by decide +kernel
theorem dX4_decide_13 : decode cX4_decide 13 = .ok (.iconst 0, 1) := by decide +kernel
theorem dX4_decide_14 : decode cX4_decide 14 = .ok (.iconst 2, 1) := by decide +kernel
theorem dX4_decide_15 : decode cX4_decide 15 = .ok (.invokestatic 74, 3) := by decide +kernel
theorem dX4_decide_18 : decode cX4_decide 18 = .ok (.ifCond .ne 7, 3) := by decide +kernel
theorem dX4_decide_21 : decode cX4_decide 21 = .ok (.sipush (-1002), 3) := by decide +kernel
theorem dX4_decide_24 : decode cX4_decide 24 = .ok (.ireturn, 1) := by decide +kernel
theorem dX4_decide_25 : decode cX4_decide 25 = .ok (.aload_n 0, 1) := by decide +kernel
theorem dX4_decide_26 : decode cX4_decide 26 = .ok (.getfield 31, 3) := by decide +kernel
theorem dX4_decide_29 : decode cX4_decide 29 = .ok (.iload_n 1, 1) := by decide +kernel
theorem dX4_decide_30 : decode cX4_decide 30 = .ok (.iaload, 1) := by decide +kernel
theorem dX4_decide_31 : decode cX4_decide 31 = .ok (.istore_n 3, 1) := by decide +kernel
theorem dX4_decide_32 : decode cX4_decide 32 = .ok (.aload_n 0, 1) := by decide +kernel
theorem dX4_decide_33 : decode cX4_decide 33 = .ok (.getfield 31, 3) := by decide +kernel
theorem dX4_decide_36 : decode cX4_decide 36 = .ok (.iload_n 1, 1) := by decide +kernel
theorem dX4_decide_37 : decode cX4_decide 37 = .ok (.iload_n 2, 1) := by decide +kernel
theorem dX4_decide_38 : decode cX4_decide 38 = .ok (.iastore, 1) := by decide +kernel
theorem dX4_decide_39 : decode cX4_decide 39 = .ok (.iload_n 3, 1) := by decide +kernel
theorem dX4_decide_40 : decode cX4_decide 40 = .ok (.ireturn, 1) := by decide +kernel
theorem dX4_inState_0 : decode cX4_inState 0 = .ok (.iconst 0, 1) := by decide +kernel
theorem dX4_inState_1 : decode cX4_inState 1 = .ok (.istore_n 2, 1) := by decide +kernel
theorem dX4_inState_2 : decode cX4_inState 2 = .ok (.iconst 0, 1) := by decide +kernel
theorem dX4_inState_3 : decode cX4_inState 3 = .ok (.istore_n 3, 1) := by decide +kernel
theorem dX4_inState_4 : decode cX4_inState 4 = .ok (.iload_n 3, 1) := by decide +kernel
theorem dX4_inState_5 : decode cX4_inState 5 = .ok (.aload_n 0, 1) := by decide +kernel
theorem dX4_inState_6 : decode cX4_inState 6 = .ok (.getfield 96, 3) := by decide +kernel
theorem dX4_inState_9 : decode cX4_inState 9 = .ok (.if_icmp .ge 29, 3) := by decide +kernel
theorem dX4_inState_12 : decode cX4_inState 12 = .ok (.iload_n 2, 1) := by decide +kernel
theorem dX4_inState_13 : decode cX4_inState 13 = .ok (.aload_n 0, 1) := by decide +kernel
theorem dX4_inState_14 : decode cX4_inState 14 = .ok (.getfield 31, 3) := by decide +kernel
theorem dX4_inState_17 : decode cX4_inState 17 = .ok (.iload_n 3, 1) := by decide +kernel
theorem dX4_inState_18 : decode cX4_inState 18 = .ok (.iaload, 1) := by decide +kernel
theorem dX4_inState_19 : decode cX4_inState 19 = .ok (.iload_n 1, 1) := by decide +kernel
theorem dX4_inState_20 : decode cX4_inState 20 = .ok (.if_icmp .ne 9, 3) := by decide +kernel
theorem dX4_inState_23 : decode cX4_inState 23 = .ok (.iconst 1, 1) := by decide +kernel
theorem dX4_inState_24 : decode cX4_inState 24 = .ok (.iload_n 3, 1) := by decide +kernel
theorem dX4_inState_25 : decode cX4_inState 25 = .ok (.ishl, 1) := by decide +kernel
theorem dX4_inState_26 : decode cX4_inState 26 = .ok (.goto 4, 3) := by decide +kernel
theorem dX4_inState_29 : decode cX4_inState 29 = .ok (.iconst 0, 1) := by decide +kernel
theorem dX4_inState_30 : decode cX4_inState 30 = .ok (.ior, 1) := by decide +kernel
theorem dX4_inState_31 : decode cX4_inState 31 = .ok (.istore_n 2, 1) := by decide +kernel
theorem dX4_inState_32 : decode cX4_inState 32 = .ok (.iinc 3 1, 3) := by decide +kernel
theorem dX4_inState_35 : decode cX4_inState 35 = .ok (.goto (-31), 3) := by decide +kernel
theorem dX4_inState_38 : decode cX4_inState 38 = .ok (.iload_n 2, 1) := by decide +kernel
theorem dX4_inState_39 : decode cX4_inState 39 = .ok (.ireturn, 1) := by decide +kernel
theorem dX4_settle_0 : decode cX4_settle 0 = .ok (.aload_n 0, 1) := by decide +kernel
theorem dX4_settle_1 : decode cX4_settle 1 = .ok (.iconst 0, 1) := by decide +kernel
theorem dX4_settle_2 : decode cX4_settle 2 = .ok (.invokevirtual 147, 3) := by decide +kernel
theorem dX4_settle_5 : decode cX4_settle 5 = .ok (.ifCond .eq 7, 3) := by decide +kernel
theorem dX4_settle_8 : decode cX4_settle 8 = .ok (.sipush (-1003), 3) := by decide +kernel
theorem dX4_settle_11 : decode cX4_settle 11 = .ok (.ireturn, 1) := by decide +kernel
theorem dX4_settle_12 : decode cX4_settle 12 = .ok (.aload_n 0, 1) := by decide +kernel
theorem dX4_settle_13 : decode cX4_settle 13 = .ok (.aload_n 0, 1) := by decide +kernel
theorem dX4_settle_14 : decode cX4_settle 14 = .ok (.iconst 0, 1) := by decide +kernel
theorem dX4_settle_15 : decode cX4_settle 15 = .ok (.invokevirtual 131, 3) := by decide +kernel
theorem dX4_settle_18 : decode cX4_settle 18 = .ok (.invokevirtual 134, 3) := by decide +kernel
theorem dX4_settle_21 : decode cX4_settle 21 = .ok (.iconst 0, 1) := by decide +kernel
theorem dX4_settle_22 : decode cX4_settle 22 = .ok (.istore_n 1, 1) := by decide +kernel
theorem dX4_settle_23 : decode cX4_settle 23 = .ok (.iload_n 1, 1) := by decide +kernel
theorem dX4_settle_24 : decode cX4_settle 24 = .ok (.aload_n 0, 1) := by decide +kernel
theorem dX4_settle_25 : decode cX4_settle 25 = .ok (.getfield 120, 3) := by decide +kernel
theorem dX4_settle_28 : decode cX4_settle 28 = .ok (.if_icmp .ge 31, 3) := by decide +kernel
theorem dX4_settle_31 : decode cX4_settle 31 = .ok (.aload_n 0, 1) := by decide +kernel
theorem dX4_settle_32 : decode cX4_settle 32 = .ok (.getfield 62, 3) := by decide +kernel
theorem dX4_settle_35 : decode cX4_settle 35 = .ok (.iload_n 1, 1) := by decide +kernel
theorem dX4_settle_36 : decode cX4_settle 36 = .ok (.aload_n 0, 1) := by decide +kernel
theorem dX4_settle_37 : decode cX4_settle 37 = .ok (.getfield 13, 3) := by decide +kernel
theorem dX4_settle_40 : decode cX4_settle 40 = .ok (.aload_n 0, 1) := by decide +kernel
theorem dX4_settle_41 : decode cX4_settle 41 = .ok (.getfield 38, 3) := by decide +kernel
theorem dX4_settle_44 : decode cX4_settle 44 = .ok (.aload_n 0, 1) := by decide +kernel
theorem dX4_settle_45 : decode cX4_settle 45 = .ok (.getfield 56, 3) := by decide +kernel
theorem dX4_settle_48 : decode cX4_settle 48 = .ok (.iload_n 1, 1) := by decide +kernel
theorem dX4_settle_49 : decode cX4_settle 49 = .ok (.iaload, 1) := by decide +kernel
theorem dX4_settle_50 : decode cX4_settle 50 = .ok (.iaload, 1) := by decide +kernel
theorem dX4_settle_51 : decode cX4_settle 51 = .ok (.iaload, 1) := by decide +kernel
theorem dX4_settle_52 : decode cX4_settle 52 = .ok (.iastore, 1) := by decide +kernel
theorem dX4_settle_53 : decode cX4_settle 53 = .ok (.iinc 1 1, 3) := by decide +kernel
theorem dX4_settle_56 : decode cX4_settle 56 = .ok (.goto (-33), 3) := by decide +kernel
theorem dX4_settle_59 : decode cX4_settle 59 = .ok (.aload_n 0, 1) := by decide +kernel
theorem dX4_settle_60 : decode cX4_settle 60 = .ok (.iconst 0, 1) := by decide +kernel
theorem dX4_settle_61 : decode cX4_settle 61 = .ok (.putfield 82, 3) := by decide +kernel
theorem dX4_settle_64 : decode cX4_settle 64 = .ok (.aload_n 0, 1) := by decide +kernel
theorem dX4_settle_65 : decode cX4_settle 65 = .ok (.iconst 0, 1) := by decide +kernel
theorem dX4_settle_66 : decode cX4_settle 66 = .ok (.putfield 85, 3) := by decide +kernel
theorem dX4_settle_69 : decode cX4_settle 69 = .ok (.aload_n 0, 1) := by decide +kernel
theorem dX4_settle_70 : decode cX4_settle 70 = .ok (.iconst 0, 1) := by decide +kernel
theorem dX4_settle_71 : decode cX4_settle 71 = .ok (.putfield 96, 3) := by decide +kernel
theorem dX4_settle_74 : decode cX4_settle 74 = .ok (.iconst 0, 1) := by decide +kernel
theorem dX4_settle_75 : decode cX4_settle 75 = .ok (.istore_n 1, 1) := by decide +kernel
theorem dX4_settle_76 : decode cX4_settle 76 = .ok (.iload_n 1, 1) := by decide +kernel
theorem dX4_settle_77 : decode cX4_settle 77 = .ok (.aload_n 0, 1) := by decide +kernel
theorem dX4_settle_78 : decode cX4_settle 78 = .ok (.getfield 120, 3) := by decide +kernel
theorem dX4_settle_81 : decode cX4_settle 81 = .ok (.if_icmp .ge 24, 3) := by decide +kernel
theorem dX4_settle_84 : decode cX4_settle 84 = .ok (.aload_n 0, 1) := by decide +kernel
theorem dX4_settle_85 : decode cX4_settle 85 = .ok (.aload_n 0, 1) := by decide +kernel
theorem dX4_settle_86 : decode cX4_settle 86 = .ok (.getfield 62, 3) := by decide +kernel
theorem dX4_settle_89 : decode cX4_settle 89 = .ok (.iload_n 1, 1) := by decide +kernel
theorem dX4_settle_90 : decode cX4_settle 90 = .ok (.iaload, 1) := by decide +kernel
theorem dX4_settle_91 : decode cX4_settle 91 = .ok (.iconst (-1), 1) := by decide +kernel
theorem dX4_settle_92 : decode cX4_settle 92 = .ok (.aload_n 0, 1) := by decide +kernel
theorem dX4_settle_93 : decode cX4_settle 93 = .ok (.getfield 85, 3) := by decide +kernel
theorem dX4_settle_96 : decode cX4_settle 96 = .ok (.invokevirtual 99, 3) := by decide +kernel
theorem dX4_settle_99 : decode cX4_settle 99 = .ok (.iinc 1 1, 3) := by decide +kernel
theorem dX4_settle_102 : decode cX4_settle 102 = .ok (.goto (-26), 3) := by decide +kernel
theorem dX4_settle_105 : decode cX4_settle 105 = .ok (.aload_n 0, 1) := by decide +kernel
theorem dX4_settle_106 : decode cX4_settle 106 = .ok (.dup, 1) := by decide +kernel
theorem dX4_settle_107 : decode cX4_settle 107 = .ok (.getfield 150, 3) := by decide +kernel
theorem dX4_settle_110 : decode cX4_settle 110 = .ok (.iconst 1, 1) := by decide +kernel
theorem dX4_settle_111 : decode cX4_settle 111 = .ok (.iadd, 1) := by decide +kernel
theorem dX4_settle_112 : decode cX4_settle 112 = .ok (.putfield 150, 3) := by decide +kernel
theorem dX4_settle_115 : decode cX4_settle 115 = .ok (.aload_n 0, 1) := by decide +kernel
theorem dX4_settle_116 : decode cX4_settle 116 = .ok (.getfield 82, 3) := by decide +kernel
theorem dX4_settle_119 : decode cX4_settle 119 = .ok (.ireturn, 1) := by decide +kernel
theorem dX4_isView_0 : decode cX4_isView 0 = .ok (.iload_n 0, 1) := by decide +kernel
theorem dX4_isView_1 : decode cX4_isView 1 = .ok (.iconst 0, 1) := by decide +kernel
theorem dX4_isView_2 : decode cX4_isView 2 = .ok (.iconst 5, 1) := by decide +kernel
theorem dX4_isView_3 : decode cX4_isView 3 = .ok (.invokestatic 74, 3) := by decide +kernel
theorem dX4_isView_6 : decode cX4_isView 6 = .ok (.ireturn, 1) := by decide +kernel
theorem dX4_lengthOf_0 : decode cX4_lengthOf 0 = .ok (.aload_n 0, 1) := by decide +kernel
theorem dX4_lengthOf_1 : decode cX4_lengthOf 1 = .ok (.aload_n 0, 1) := by decide +kernel
theorem dX4_lengthOf_2 : decode cX4_lengthOf 2 = .ok (.iload_n 1, 1) := by decide +kernel
theorem dX4_lengthOf_3 : decode cX4_lengthOf 3 = .ok (.invokevirtual 131, 3) := by decide +kernel
theorem dX4_lengthOf_6 : decode cX4_lengthOf 6 = .ok (.invokevirtual 134, 3) := by decide +kernel
theorem dX4_lengthOf_9 : decode cX4_lengthOf 9 = .ok (.aload_n 0, 1) := by decide +kernel
theorem dX4_lengthOf_10 : decode cX4_lengthOf 10 = .ok (.getfield 120, 3) := by decide +kernel
theorem dX4_lengthOf_13 : decode cX4_lengthOf 13 = .ok (.ireturn, 1) := by decide +kernel
theorem dX4_length_0 : decode cX4_length 0 = .ok (.iload_n 1, 1) := by decide +kernel
theorem dX4_length_1 : decode cX4_length 1 = .ok (.invokestatic 153, 3) := by decide +kernel
theorem dX4_length_4 : decode cX4_length 4 = .ok (.ifCond .eq 11, 3) := by decide +kernel
theorem dX4_length_7 : decode cX4_length 7 = .ok (.aload_n 0, 1) := by decide +kernel
theorem dX4_length_8 : decode cX4_length 8 = .ok (.iload_n 1, 1) := by decide +kernel
theorem dX4_length_9 : decode cX4_length 9 = .ok (.invokevirtual 156, 3) := by decide +kernel
theorem dX4_length_12 : decode cX4_length 12 = .ok (.goto 6, 3) := by decide +kernel
theorem dX4_length_15 : decode cX4_length 15 = .ok (.sipush (-1001), 3) := by decide +kernel
theorem dX4_length_18 : decode cX4_length 18 = .ok (.ireturn, 1) := by decide +kernel
theorem dX4_ones_0 : decode cX4_ones 0 = .ok (.iconst 0, 1) := by decide +kernel
theorem dX4_ones_1 : decode cX4_ones 1 = .ok (.istore_n 1, 1) := by decide +kernel
theorem dX4_ones_2 : decode cX4_ones 2 = .ok (.iconst 0, 1) := by decide +kernel
theorem dX4_ones_3 : decode cX4_ones 3 = .ok (.istore_n 2, 1) := by decide +kernel
theorem dX4_ones_4 : decode cX4_ones 4 = .ok (.iload_n 2, 1) := by decide +kernel
theorem dX4_ones_5 : decode cX4_ones 5 = .ok (.bipush 12, 2) := by decide +kernel
theorem dX4_ones_7 : decode cX4_ones 7 = .ok (.if_icmp .ge 17, 3) := by decide +kernel
theorem dX4_ones_10 : decode cX4_ones 10 = .ok (.iload_n 1, 1) := by decide +kernel
theorem dX4_ones_11 : decode cX4_ones 11 = .ok (.iload_n 0, 1) := by decide +kernel
theorem dX4_ones_12 : decode cX4_ones 12 = .ok (.iload_n 2, 1) := by decide +kernel
theorem dX4_ones_13 : decode cX4_ones 13 = .ok (.ishr, 1) := by decide +kernel
theorem dX4_ones_14 : decode cX4_ones 14 = .ok (.iconst 1, 1) := by decide +kernel
theorem dX4_ones_15 : decode cX4_ones 15 = .ok (.iand, 1) := by decide +kernel
theorem dX4_ones_16 : decode cX4_ones 16 = .ok (.iadd, 1) := by decide +kernel
theorem dX4_ones_17 : decode cX4_ones 17 = .ok (.istore_n 1, 1) := by decide +kernel
theorem dX4_ones_18 : decode cX4_ones 18 = .ok (.iinc 2 1, 3) := by decide +kernel
theorem dX4_ones_21 : decode cX4_ones 21 = .ok (.goto (-17), 3) := by decide +kernel
theorem dX4_ones_24 : decode cX4_ones 24 = .ok (.iload_n 1, 1) := by decide +kernel
theorem dX4_ones_25 : decode cX4_ones 25 = .ok (.ireturn, 1) := by decide +kernel
theorem dX4_movedBy_0 : decode cX4_movedBy 0 = .ok (.iconst 0, 1) := by decide +kernel
theorem dX4_movedBy_1 : decode cX4_movedBy 1 = .ok (.istore_n 2, 1) := by decide +kernel
theorem dX4_movedBy_2 : decode cX4_movedBy 2 = .ok (.iconst 0, 1) := by decide +kernel
theorem dX4_movedBy_3 : decode cX4_movedBy 3 = .ok (.istore_n 3, 1) := by decide +kernel
theorem dX4_movedBy_4 : decode cX4_movedBy 4 = .ok (.iload_n 3, 1) := by decide +kernel
theorem dX4_movedBy_5 : decode cX4_movedBy 5 = .ok (.aload_n 0, 1) := by decide +kernel
theorem dX4_movedBy_6 : decode cX4_movedBy 6 = .ok (.getfield 85, 3) := by decide +kernel
theorem dX4_movedBy_9 : decode cX4_movedBy 9 = .ok (.if_icmp .ge 44, 3) := by decide +kernel
theorem dX4_movedBy_12 : decode cX4_movedBy 12 = .ok (.iload_n 2, 1) := by decide +kernel
theorem dX4_movedBy_13 : decode cX4_movedBy 13 = .ok (.aload_n 0, 1) := by decide +kernel
theorem dX4_movedBy_14 : decode cX4_movedBy 14 = .ok (.getfield 38, 3) := by decide +kernel
theorem dX4_movedBy_17 : decode cX4_movedBy 17 = .ok (.iload_n 3, 1) := by decide +kernel
theorem dX4_movedBy_18 : decode cX4_movedBy 18 = .ok (.iaload, 1) := by decide +kernel
theorem dX4_movedBy_19 : decode cX4_movedBy 19 = .ok (.iload_n 1, 1) := by decide +kernel
theorem dX4_movedBy_20 : decode cX4_movedBy 20 = .ok (.if_icmp .ne 24, 3) := by decide +kernel
theorem dX4_movedBy_23 : decode cX4_movedBy 23 = .ok (.aload_n 0, 1) := by decide +kernel
theorem dX4_movedBy_24 : decode cX4_movedBy 24 = .ok (.getfield 41, 3) := by decide +kernel
theorem dX4_movedBy_27 : decode cX4_movedBy 27 = .ok (.iload_n 3, 1) := by decide +kernel
theorem dX4_movedBy_28 : decode cX4_movedBy 28 = .ok (.iaload, 1) := by decide +kernel
theorem dX4_movedBy_29 : decode cX4_movedBy 29 = .ok (.iconst (-1), 1) := by decide +kernel
theorem dX4_movedBy_30 : decode cX4_movedBy 30 = .ok (.if_icmp .eq 14, 3) := by decide +kernel
theorem dX4_movedBy_33 : decode cX4_movedBy 33 = .ok (.iconst 1, 1) := by decide +kernel
theorem dX4_movedBy_34 : decode cX4_movedBy 34 = .ok (.aload_n 0, 1) := by decide +kernel
theorem dX4_movedBy_35 : decode cX4_movedBy 35 = .ok (.getfield 44, 3) := by decide +kernel
theorem dX4_movedBy_38 : decode cX4_movedBy 38 = .ok (.iload_n 3, 1) := by decide +kernel
theorem dX4_movedBy_39 : decode cX4_movedBy 39 = .ok (.iaload, 1) := by decide +kernel
theorem dX4_movedBy_40 : decode cX4_movedBy 40 = .ok (.ishl, 1) := by decide +kernel
theorem dX4_movedBy_41 : decode cX4_movedBy 41 = .ok (.goto 4, 3) := by decide +kernel
theorem dX4_movedBy_44 : decode cX4_movedBy 44 = .ok (.iconst 0, 1) := by decide +kernel
theorem dX4_movedBy_45 : decode cX4_movedBy 45 = .ok (.ior, 1) := by decide +kernel
theorem dX4_movedBy_46 : decode cX4_movedBy 46 = .ok (.istore_n 2, 1) := by decide +kernel
theorem dX4_movedBy_47 : decode cX4_movedBy 47 = .ok (.iinc 3 1, 3) := by decide +kernel
theorem dX4_movedBy_50 : decode cX4_movedBy 50 = .ok (.goto (-46), 3) := by decide +kernel
theorem dX4_movedBy_53 : decode cX4_movedBy 53 = .ok (.iload_n 2, 1) := by decide +kernel
theorem dX4_movedBy_54 : decode cX4_movedBy 54 = .ok (.ireturn, 1) := by decide +kernel
theorem dX4_readNow_0 : decode cX4_readNow 0 = .ok (.aload_n 0, 1) := by decide +kernel
theorem dX4_readNow_1 : decode cX4_readNow 1 = .ok (.getfield 38, 3) := by decide +kernel
theorem dX4_readNow_4 : decode cX4_readNow 4 = .ok (.iload_n 1, 1) := by decide +kernel
theorem dX4_readNow_5 : decode cX4_readNow 5 = .ok (.iaload, 1) := by decide +kernel
theorem dX4_readNow_6 : decode cX4_readNow 6 = .ok (.istore_n 3, 1) := by decide +kernel
theorem dX4_readNow_7 : decode cX4_readNow 7 = .ok (.iload_n 2, 1) := by decide +kernel
theorem dX4_readNow_8 : decode cX4_readNow 8 = .ok (.tableswitch 74 0 4 #[36, 43, 45, 51, 58], 36) := by decide +kernel
theorem dX4_readNow_44 : decode cX4_readNow 44 = .ok (.aload_n 0, 1) := by decide +kernel
theorem dX4_readNow_45 : decode cX4_readNow 45 = .ok (.getfield 13, 3) := by decide +kernel
theorem dX4_readNow_48 : decode cX4_readNow 48 = .ok (.iload_n 3, 1) := by decide +kernel
theorem dX4_readNow_49 : decode cX4_readNow 49 = .ok (.iaload, 1) := by decide +kernel
theorem dX4_readNow_50 : decode cX4_readNow 50 = .ok (.ireturn, 1) := by decide +kernel
theorem dX4_readNow_51 : decode cX4_readNow 51 = .ok (.iload_n 3, 1) := by decide +kernel
theorem dX4_readNow_52 : decode cX4_readNow 52 = .ok (.ireturn, 1) := by decide +kernel
theorem dX4_readNow_53 : decode cX4_readNow 53 = .ok (.aload_n 0, 1) := by decide +kernel
theorem dX4_readNow_54 : decode cX4_readNow 54 = .ok (.iload_n 1, 1) := by decide +kernel
theorem dX4_readNow_55 : decode cX4_readNow 55 = .ok (.invokevirtual 123, 3) := by decide +kernel
theorem dX4_readNow_58 : decode cX4_readNow 58 = .ok (.ireturn, 1) := by decide +kernel
theorem dX4_readNow_59 : decode cX4_readNow 59 = .ok (.aload_n 0, 1) := by decide +kernel
theorem dX4_readNow_60 : decode cX4_readNow 60 = .ok (.getfield 44, 3) := by decide +kernel
theorem dX4_readNow_63 : decode cX4_readNow 63 = .ok (.iload_n 1, 1) := by decide +kernel
theorem dX4_readNow_64 : decode cX4_readNow 64 = .ok (.iaload, 1) := by decide +kernel
theorem dX4_readNow_65 : decode cX4_readNow 65 = .ok (.ireturn, 1) := by decide +kernel
theorem dX4_readNow_66 : decode cX4_readNow 66 = .ok (.aload_n 0, 1) := by decide +kernel
theorem dX4_readNow_67 : decode cX4_readNow 67 = .ok (.getfield 22, 3) := by decide +kernel
theorem dX4_readNow_70 : decode cX4_readNow 70 = .ok (.iload_n 3, 1) := by decide +kernel
theorem dX4_readNow_71 : decode cX4_readNow 71 = .ok (.iaload, 1) := by decide +kernel
theorem dX4_readNow_72 : decode cX4_readNow 72 = .ok (.aload_n 0, 1) := by decide +kernel
theorem dX4_readNow_73 : decode cX4_readNow 73 = .ok (.iconst 0, 1) := by decide +kernel
theorem dX4_readNow_74 : decode cX4_readNow 74 = .ok (.invokevirtual 147, 3) := by decide +kernel
theorem dX4_readNow_77 : decode cX4_readNow 77 = .ok (.iand, 1) := by decide +kernel
theorem dX4_readNow_78 : decode cX4_readNow 78 = .ok (.invokestatic 159, 3) := by decide +kernel
theorem dX4_readNow_81 : decode cX4_readNow 81 = .ok (.ireturn, 1) := by decide +kernel
theorem dX4_readNow_82 : decode cX4_readNow 82 = .ok (.aload_n 0, 1) := by decide +kernel
theorem dX4_readNow_83 : decode cX4_readNow 83 = .ok (.iload_n 3, 1) := by decide +kernel
theorem dX4_readNow_84 : decode cX4_readNow 84 = .ok (.invokevirtual 162, 3) := by decide +kernel
theorem dX4_readNow_87 : decode cX4_readNow 87 = .ok (.aload_n 0, 1) := by decide +kernel
theorem dX4_readNow_88 : decode cX4_readNow 88 = .ok (.iconst 0, 1) := by decide +kernel
theorem dX4_readNow_89 : decode cX4_readNow 89 = .ok (.invokevirtual 147, 3) := by decide +kernel
theorem dX4_readNow_92 : decode cX4_readNow 92 = .ok (.iand, 1) := by decide +kernel
theorem dX4_readNow_93 : decode cX4_readNow 93 = .ok (.invokestatic 159, 3) := by decide +kernel
theorem dX4_readNow_96 : decode cX4_readNow 96 = .ok (.ireturn, 1) := by decide +kernel
theorem dX4_read_0 : decode cX4_read 0 = .ok (.iload_n 1, 1) := by decide +kernel
theorem dX4_read_1 : decode cX4_read 1 = .ok (.invokestatic 153, 3) := by decide +kernel
theorem dX4_read_4 : decode cX4_read 4 = .ok (.ifCond .eq 18, 3) := by decide +kernel
theorem dX4_read_7 : decode cX4_read 7 = .ok (.iload_n 2, 1) := by decide +kernel
theorem dX4_read_8 : decode cX4_read 8 = .ok (.iconst 0, 1) := by decide +kernel
theorem dX4_read_9 : decode cX4_read 9 = .ok (.aload_n 0, 1) := by decide +kernel
theorem dX4_read_10 : decode cX4_read 10 = .ok (.iload_n 1, 1) := by decide +kernel
theorem dX4_read_11 : decode cX4_read 11 = .ok (.invokevirtual 156, 3) := by decide +kernel
theorem dX4_read_14 : decode cX4_read 14 = .ok (.iconst 1, 1) := by decide +kernel
theorem dX4_read_15 : decode cX4_read 15 = .ok (.isub, 1) := by decide +kernel
theorem dX4_read_16 : decode cX4_read 16 = .ok (.invokestatic 74, 3) := by decide +kernel
theorem dX4_read_19 : decode cX4_read 19 = .ok (.ifCond .ne 7, 3) := by decide +kernel
theorem dX4_read_22 : decode cX4_read 22 = .ok (.sipush (-1001), 3) := by decide +kernel
theorem dX4_read_25 : decode cX4_read 25 = .ok (.ireturn, 1) := by decide +kernel
theorem dX4_read_26 : decode cX4_read 26 = .ok (.iload_n 3, 1) := by decide +kernel
theorem dX4_read_27 : decode cX4_read 27 = .ok (.iconst 0, 1) := by decide +kernel
theorem dX4_read_28 : decode cX4_read 28 = .ok (.iconst 5, 1) := by decide +kernel
theorem dX4_read_29 : decode cX4_read 29 = .ok (.invokestatic 74, 3) := by decide +kernel
theorem dX4_read_32 : decode cX4_read 32 = .ok (.ifCond .eq 17, 3) := by decide +kernel
theorem dX4_read_35 : decode cX4_read 35 = .ok (.aload_n 0, 1) := by decide +kernel
theorem dX4_read_36 : decode cX4_read 36 = .ok (.aload_n 0, 1) := by decide +kernel
theorem dX4_read_37 : decode cX4_read 37 = .ok (.getfield 56, 3) := by decide +kernel
theorem dX4_read_40 : decode cX4_read 40 = .ok (.iload_n 2, 1) := by decide +kernel
theorem dX4_read_41 : decode cX4_read 41 = .ok (.iaload, 1) := by decide +kernel
theorem dX4_read_42 : decode cX4_read 42 = .ok (.iload_n 3, 1) := by decide +kernel
theorem dX4_read_43 : decode cX4_read 43 = .ok (.invokevirtual 165, 3) := by decide +kernel
theorem dX4_read_46 : decode cX4_read 46 = .ok (.goto 6, 3) := by decide +kernel
theorem dX4_read_49 : decode cX4_read 49 = .ok (.sipush (-1002), 3) := by decide +kernel
theorem dX4_read_52 : decode cX4_read 52 = .ok (.ireturn, 1) := by decide +kernel
theorem dX4_isAt_0 : decode cX4_isAt 0 = .ok (.aload_n 0, 1) := by decide +kernel
theorem dX4_isAt_1 : decode cX4_isAt 1 = .ok (.getfield 38, 3) := by decide +kernel
theorem dX4_isAt_4 : decode cX4_isAt 4 = .ok (.iload_n 1, 1) := by decide +kernel
theorem dX4_isAt_5 : decode cX4_isAt 5 = .ok (.iaload, 1) := by decide +kernel
theorem dX4_isAt_6 : decode cX4_isAt 6 = .ok (.istore_n 3, 1) := by decide +kernel
theorem dX4_isAt_7 : decode cX4_isAt 7 = .ok (.aload_n 0, 1) := by decide +kernel
theorem dX4_isAt_8 : decode cX4_isAt 8 = .ok (.iload_n 3, 1) := by decide +kernel
theorem dX4_isAt_9 : decode cX4_isAt 9 = .ok (.iload_n 2, 1) := by decide +kernel
theorem dX4_isAt_10 : decode cX4_isAt 10 = .ok (.invokevirtual 114, 3) := by decide +kernel
theorem dX4_isAt_13 : decode cX4_isAt 13 = .ok (.ifCond .eq 17, 3) := by decide +kernel
theorem dX4_isAt_16 : decode cX4_isAt 16 = .ok (.aload_n 0, 1) := by decide +kernel
theorem dX4_isAt_17 : decode cX4_isAt 17 = .ok (.iload_n 3, 1) := by decide +kernel
theorem dX4_isAt_18 : decode cX4_isAt 18 = .ok (.iload_n 2, 1) := by decide +kernel
theorem dX4_isAt_19 : decode cX4_isAt 19 = .ok (.invokevirtual 117, 3) := by decide +kernel
theorem dX4_isAt_22 : decode cX4_isAt 22 = .ok (.iload_n 1, 1) := by decide +kernel
theorem dX4_isAt_23 : decode cX4_isAt 23 = .ok (.if_icmp .ne 7, 3) := by decide +kernel
theorem dX4_isAt_26 : decode cX4_isAt 26 = .ok (.iconst 1, 1) := by decide +kernel
theorem dX4_isAt_27 : decode cX4_isAt 27 = .ok (.goto 4, 3) := by decide +kernel
theorem dX4_isAt_30 : decode cX4_isAt 30 = .ok (.iconst 0, 1) := by decide +kernel
theorem dX4_isAt_31 : decode cX4_isAt 31 = .ok (.ireturn, 1) := by decide +kernel
theorem dX4_markOf_0 : decode cX4_markOf 0 = .ok (.aload_n 0, 1) := by decide +kernel
theorem dX4_markOf_1 : decode cX4_markOf 1 = .ok (.iload_n 1, 1) := by decide +kernel
theorem dX4_markOf_2 : decode cX4_markOf 2 = .ok (.aload_n 0, 1) := by decide +kernel
theorem dX4_markOf_3 : decode cX4_markOf 3 = .ok (.iconst 0, 1) := by decide +kernel
theorem dX4_markOf_4 : decode cX4_markOf 4 = .ok (.invokevirtual 131, 3) := by decide +kernel
theorem dX4_markOf_7 : decode cX4_markOf 7 = .ok (.invokevirtual 168, 3) := by decide +kernel
theorem dX4_markOf_10 : decode cX4_markOf 10 = .ok (.istore_n 2, 1) := by decide +kernel
theorem dX4_markOf_11 : decode cX4_markOf 11 = .ok (.aload_n 0, 1) := by decide +kernel
theorem dX4_markOf_12 : decode cX4_markOf 12 = .ok (.iload_n 1, 1) := by decide +kernel
theorem dX4_markOf_13 : decode cX4_markOf 13 = .ok (.aload_n 0, 1) := by decide +kernel
theorem dX4_markOf_14 : decode cX4_markOf 14 = .ok (.iconst 1, 1) := by decide +kernel
theorem dX4_markOf_15 : decode cX4_markOf 15 = .ok (.invokevirtual 131, 3) := by decide +kernel
theorem dX4_markOf_18 : decode cX4_markOf 18 = .ok (.invokevirtual 168, 3) := by decide +kernel
theorem dX4_markOf_21 : decode cX4_markOf 21 = .ok (.istore_n 3, 1) := by decide +kernel
theorem dX4_markOf_22 : decode cX4_markOf 22 = .ok (.iload_n 2, 1) := by decide +kernel
theorem dX4_markOf_23 : decode cX4_markOf 23 = .ok (.ifCond .eq 11, 3) := by decide +kernel
theorem dX4_markOf_26 : decode cX4_markOf 26 = .ok (.iload_n 3, 1) := by decide +kernel
theorem dX4_markOf_27 : decode cX4_markOf 27 = .ok (.ifCond .eq 7, 3) := by decide +kernel
theorem dX4_markOf_30 : decode cX4_markOf 30 = .ok (.iconst 0, 1) := by decide +kernel
theorem dX4_markOf_31 : decode cX4_markOf 31 = .ok (.goto 20, 3) := by decide +kernel
theorem dX4_markOf_34 : decode cX4_markOf 34 = .ok (.iload_n 3, 1) := by decide +kernel
theorem dX4_markOf_35 : decode cX4_markOf 35 = .ok (.ifCond .eq 7, 3) := by decide +kernel
theorem dX4_markOf_38 : decode cX4_markOf 38 = .ok (.iconst 1, 1) := by decide +kernel
theorem dX4_markOf_39 : decode cX4_markOf 39 = .ok (.goto 12, 3) := by decide +kernel
theorem dX4_markOf_42 : decode cX4_markOf 42 = .ok (.iload_n 2, 1) := by decide +kernel
theorem dX4_markOf_43 : decode cX4_markOf 43 = .ok (.ifCond .eq 7, 3) := by decide +kernel
theorem dX4_markOf_46 : decode cX4_markOf 46 = .ok (.iconst 2, 1) := by decide +kernel
theorem dX4_markOf_47 : decode cX4_markOf 47 = .ok (.goto 4, 3) := by decide +kernel
theorem dX4_markOf_50 : decode cX4_markOf 50 = .ok (.iconst 3, 1) := by decide +kernel
theorem dX4_markOf_51 : decode cX4_markOf 51 = .ok (.ireturn, 1) := by decide +kernel
theorem dX4_placeNow_0 : decode cX4_placeNow 0 = .ok (.iload_n 2, 1) := by decide +kernel
theorem dX4_placeNow_1 : decode cX4_placeNow 1 = .ok (.tableswitch 66 0 2 #[27, 34, 59], 27) := by decide +kernel
theorem dX4_placeNow_28 : decode cX4_placeNow 28 = .ok (.aload_n 0, 1) := by decide +kernel
theorem dX4_placeNow_29 : decode cX4_placeNow 29 = .ok (.getfield 38, 3) := by decide +kernel
theorem dX4_placeNow_32 : decode cX4_placeNow 32 = .ok (.iload_n 1, 1) := by decide +kernel
theorem dX4_placeNow_33 : decode cX4_placeNow 33 = .ok (.iaload, 1) := by decide +kernel
theorem dX4_placeNow_34 : decode cX4_placeNow 34 = .ok (.ireturn, 1) := by decide +kernel
theorem dX4_placeNow_35 : decode cX4_placeNow 35 = .ok (.aload_n 0, 1) := by decide +kernel
theorem dX4_placeNow_36 : decode cX4_placeNow 36 = .ok (.getfield 41, 3) := by decide +kernel
theorem dX4_placeNow_39 : decode cX4_placeNow 39 = .ok (.iload_n 1, 1) := by decide +kernel
theorem dX4_placeNow_40 : decode cX4_placeNow 40 = .ok (.iaload, 1) := by decide +kernel
theorem dX4_placeNow_41 : decode cX4_placeNow 41 = .ok (.iconst (-1), 1) := by decide +kernel
theorem dX4_placeNow_42 : decode cX4_placeNow 42 = .ok (.if_icmp .ne 7, 3) := by decide +kernel
theorem dX4_placeNow_45 : decode cX4_placeNow 45 = .ok (.iconst (-1), 1) := by decide +kernel
theorem dX4_placeNow_46 : decode cX4_placeNow 46 = .ok (.goto 13, 3) := by decide +kernel
theorem dX4_placeNow_49 : decode cX4_placeNow 49 = .ok (.aload_n 0, 1) := by decide +kernel
theorem dX4_placeNow_50 : decode cX4_placeNow 50 = .ok (.aload_n 0, 1) := by decide +kernel
theorem dX4_placeNow_51 : decode cX4_placeNow 51 = .ok (.getfield 41, 3) := by decide +kernel
theorem dX4_placeNow_54 : decode cX4_placeNow 54 = .ok (.iload_n 1, 1) := by decide +kernel
theorem dX4_placeNow_55 : decode cX4_placeNow 55 = .ok (.iaload, 1) := by decide +kernel
theorem dX4_placeNow_56 : decode cX4_placeNow 56 = .ok (.invokevirtual 123, 3) := by decide +kernel
theorem dX4_placeNow_59 : decode cX4_placeNow 59 = .ok (.ireturn, 1) := by decide +kernel
theorem dX4_placeNow_60 : decode cX4_placeNow 60 = .ok (.aload_n 0, 1) := by decide +kernel
theorem dX4_placeNow_61 : decode cX4_placeNow 61 = .ok (.getfield 44, 3) := by decide +kernel
theorem dX4_placeNow_64 : decode cX4_placeNow 64 = .ok (.iload_n 1, 1) := by decide +kernel
theorem dX4_placeNow_65 : decode cX4_placeNow 65 = .ok (.iaload, 1) := by decide +kernel
theorem dX4_placeNow_66 : decode cX4_placeNow 66 = .ok (.ireturn, 1) := by decide +kernel
theorem dX4_placeNow_67 : decode cX4_placeNow 67 = .ok (.aload_n 0, 1) := by decide +kernel
theorem dX4_placeNow_68 : decode cX4_placeNow 68 = .ok (.iload_n 1, 1) := by decide +kernel
theorem dX4_placeNow_69 : decode cX4_placeNow 69 = .ok (.invokevirtual 171, 3) := by decide +kernel
theorem dX4_placeNow_72 : decode cX4_placeNow 72 = .ok (.ireturn, 1) := by decide +kernel
theorem dX4_place_0 : decode cX4_place 0 = .ok (.iload_n 1, 1) := by decide +kernel
theorem dX4_place_1 : decode cX4_place 1 = .ok (.iconst 0, 1) := by decide +kernel
theorem dX4_place_2 : decode cX4_place 2 = .ok (.aload_n 0, 1) := by decide +kernel
theorem dX4_place_3 : decode cX4_place 3 = .ok (.getfield 85, 3) := by decide +kernel
theorem dX4_place_6 : decode cX4_place 6 = .ok (.iconst 1, 1) := by decide +kernel
theorem dX4_place_7 : decode cX4_place 7 = .ok (.isub, 1) := by decide +kernel
theorem dX4_place_8 : decode cX4_place 8 = .ok (.invokestatic 74, 3) := by decide +kernel
theorem dX4_place_11 : decode cX4_place 11 = .ok (.ifCond .ne 7, 3) := by decide +kernel
theorem dX4_place_14 : decode cX4_place 14 = .ok (.sipush (-1001), 3) := by decide +kernel
theorem dX4_place_17 : decode cX4_place 17 = .ok (.ireturn, 1) := by decide +kernel
theorem dX4_place_18 : decode cX4_place 18 = .ok (.iload_n 2, 1) := by decide +kernel
theorem dX4_place_19 : decode cX4_place 19 = .ok (.iconst 0, 1) := by decide +kernel
theorem dX4_place_20 : decode cX4_place 20 = .ok (.iconst 3, 1) := by decide +kernel
theorem dX4_place_21 : decode cX4_place 21 = .ok (.invokestatic 74, 3) := by decide +kernel
theorem dX4_place_24 : decode cX4_place 24 = .ok (.ifCond .eq 17, 3) := by decide +kernel
theorem dX4_place_27 : decode cX4_place 27 = .ok (.aload_n 0, 1) := by decide +kernel
theorem dX4_place_28 : decode cX4_place 28 = .ok (.aload_n 0, 1) := by decide +kernel
theorem dX4_place_29 : decode cX4_place 29 = .ok (.getfield 47, 3) := by decide +kernel
theorem dX4_place_32 : decode cX4_place 32 = .ok (.iload_n 1, 1) := by decide +kernel
theorem dX4_place_33 : decode cX4_place 33 = .ok (.iaload, 1) := by decide +kernel
theorem dX4_place_34 : decode cX4_place 34 = .ok (.iload_n 2, 1) := by decide +kernel
theorem dX4_place_35 : decode cX4_place 35 = .ok (.invokevirtual 174, 3) := by decide +kernel
theorem dX4_place_38 : decode cX4_place 38 = .ok (.goto 6, 3) := by decide +kernel
theorem dX4_place_41 : decode cX4_place 41 = .ok (.sipush (-1002), 3) := by decide +kernel
theorem dX4_place_44 : decode cX4_place 44 = .ok (.ireturn, 1) := by decide +kernel
theorem dX4_isTouched_0 : decode cX4_isTouched 0 = .ok (.aload_n 0, 1) := by decide +kernel
theorem dX4_isTouched_1 : decode cX4_isTouched 1 = .ok (.getfield 16, 3) := by decide +kernel
theorem dX4_isTouched_4 : decode cX4_isTouched 4 = .ok (.iload_n 1, 1) := by decide +kernel
theorem dX4_isTouched_5 : decode cX4_isTouched 5 = .ok (.iaload, 1) := by decide +kernel
theorem dX4_isTouched_6 : decode cX4_isTouched 6 = .ok (.iload_n 2, 1) := by decide +kernel
theorem dX4_isTouched_7 : decode cX4_isTouched 7 = .ok (.if_icmp .eq 28, 3) := by decide +kernel
theorem dX4_isTouched_10 : decode cX4_isTouched 10 = .ok (.aload_n 0, 1) := by decide +kernel
theorem dX4_isTouched_11 : decode cX4_isTouched 11 = .ok (.getfield 22, 3) := by decide +kernel
theorem dX4_isTouched_14 : decode cX4_isTouched 14 = .ok (.iload_n 1, 1) := by decide +kernel
theorem dX4_isTouched_15 : decode cX4_isTouched 15 = .ok (.iaload, 1) := by decide +kernel
theorem dX4_isTouched_16 : decode cX4_isTouched 16 = .ok (.iload_n 2, 1) := by decide +kernel
theorem dX4_isTouched_17 : decode cX4_isTouched 17 = .ok (.invokestatic 106, 3) := by decide +kernel
theorem dX4_isTouched_20 : decode cX4_isTouched 20 = .ok (.ifCond .ne 15, 3) := by decide +kernel
theorem dX4_isTouched_23 : decode cX4_isTouched 23 = .ok (.aload_n 0, 1) := by decide +kernel
theorem dX4_isTouched_24 : decode cX4_isTouched 24 = .ok (.iload_n 1, 1) := by decide +kernel
theorem dX4_isTouched_25 : decode cX4_isTouched 25 = .ok (.invokevirtual 162, 3) := by decide +kernel
theorem dX4_isTouched_28 : decode cX4_isTouched 28 = .ok (.iload_n 2, 1) := by decide +kernel
theorem dX4_isTouched_29 : decode cX4_isTouched 29 = .ok (.invokestatic 106, 3) := by decide +kernel
theorem dX4_isTouched_32 : decode cX4_isTouched 32 = .ok (.ifCond .eq 7, 3) := by decide +kernel
theorem dX4_isTouched_35 : decode cX4_isTouched 35 = .ok (.iconst 1, 1) := by decide +kernel
theorem dX4_isTouched_36 : decode cX4_isTouched 36 = .ok (.goto 4, 3) := by decide +kernel
theorem dX4_isTouched_39 : decode cX4_isTouched 39 = .ok (.iconst 0, 1) := by decide +kernel
theorem dX4_isTouched_40 : decode cX4_isTouched 40 = .ok (.ireturn, 1) := by decide +kernel
theorem dX4_isIdle_0 : decode cX4_isIdle 0 = .ok (.aload_n 0, 1) := by decide +kernel
theorem dX4_isIdle_1 : decode cX4_isIdle 1 = .ok (.iconst 1, 1) := by decide +kernel
theorem dX4_isIdle_2 : decode cX4_isIdle 2 = .ok (.invokevirtual 131, 3) := by decide +kernel
theorem dX4_isIdle_5 : decode cX4_isIdle 5 = .ok (.iconst 1, 1) := by decide +kernel
theorem dX4_isIdle_6 : decode cX4_isIdle 6 = .ok (.iload_n 2, 1) := by decide +kernel
theorem dX4_isIdle_7 : decode cX4_isIdle 7 = .ok (.ishl, 1) := by decide +kernel
theorem dX4_isIdle_8 : decode cX4_isIdle 8 = .ok (.iconst (-1), 1) := by decide +kernel
theorem dX4_isIdle_9 : decode cX4_isIdle 9 = .ok (.ixor, 1) := by decide +kernel
theorem dX4_isIdle_10 : decode cX4_isIdle 10 = .ok (.iand, 1) := by decide +kernel
theorem dX4_isIdle_11 : decode cX4_isIdle 11 = .ok (.istore_n 3, 1) := by decide +kernel
theorem dX4_isIdle_12 : decode cX4_isIdle 12 = .ok (.iload_n 3, 1) := by decide +kernel
theorem dX4_isIdle_13 : decode cX4_isIdle 13 = .ok (.iconst 1, 1) := by decide +kernel
theorem dX4_isIdle_14 : decode cX4_isIdle 14 = .ok (.iload_n 2, 1) := by decide +kernel
theorem dX4_isIdle_15 : decode cX4_isIdle 15 = .ok (.ishl, 1) := by decide +kernel
theorem dX4_isIdle_16 : decode cX4_isIdle 16 = .ok (.ior, 1) := by decide +kernel
theorem dX4_isIdle_17 : decode cX4_isIdle 17 = .ok (.istore 4, 2) := by decide +kernel
theorem dX4_isIdle_19 : decode cX4_isIdle 19 = .ok (.aload_n 0, 1) := by decide +kernel
theorem dX4_isIdle_20 : decode cX4_isIdle 20 = .ok (.iload_n 1, 1) := by decide +kernel
theorem dX4_isIdle_21 : decode cX4_isIdle 21 = .ok (.iload 4, 2) := by decide +kernel
theorem dX4_isIdle_23 : decode cX4_isIdle 23 = .ok (.invokevirtual 114, 3) := by decide +kernel
theorem dX4_isIdle_26 : decode cX4_isIdle 26 = .ok (.istore 5, 2) := by decide +kernel
theorem dX4_isIdle_28 : decode cX4_isIdle 28 = .ok (.iload 5, 2) := by decide +kernel
theorem dX4_isIdle_30 : decode cX4_isIdle 30 = .ok (.aload_n 0, 1) := by decide +kernel
theorem dX4_isIdle_31 : decode cX4_isIdle 31 = .ok (.iload_n 1, 1) := by decide +kernel
theorem dX4_isIdle_32 : decode cX4_isIdle 32 = .ok (.iload_n 3, 1) := by decide +kernel
theorem dX4_isIdle_33 : decode cX4_isIdle 33 = .ok (.invokevirtual 114, 3) := by decide +kernel
theorem dX4_isIdle_36 : decode cX4_isIdle 36 = .ok (.if_icmp .ne 28, 3) := by decide +kernel
theorem dX4_isIdle_39 : decode cX4_isIdle 39 = .ok (.iload 5, 2) := by decide +kernel
theorem dX4_isIdle_41 : decode cX4_isIdle 41 = .ok (.ifCond .eq 19, 3) := by decide +kernel
theorem dX4_isIdle_44 : decode cX4_isIdle 44 = .ok (.aload_n 0, 1) := by decide +kernel
theorem dX4_isIdle_45 : decode cX4_isIdle 45 = .ok (.iload_n 1, 1) := by decide +kernel
theorem dX4_isIdle_46 : decode cX4_isIdle 46 = .ok (.iload 4, 2) := by decide +kernel
theorem dX4_isIdle_48 : decode cX4_isIdle 48 = .ok (.invokevirtual 117, 3) := by decide +kernel
theorem dX4_isIdle_51 : decode cX4_isIdle 51 = .ok (.aload_n 0, 1) := by decide +kernel
theorem dX4_isIdle_52 : decode cX4_isIdle 52 = .ok (.iload_n 1, 1) := by decide +kernel
theorem dX4_isIdle_53 : decode cX4_isIdle 53 = .ok (.iload_n 3, 1) := by decide +kernel
theorem dX4_isIdle_54 : decode cX4_isIdle 54 = .ok (.invokevirtual 117, 3) := by decide +kernel
theorem dX4_isIdle_57 : decode cX4_isIdle 57 = .ok (.if_icmp .ne 7, 3) := by decide +kernel
theorem dX4_isIdle_60 : decode cX4_isIdle 60 = .ok (.iconst 1, 1) := by decide +kernel
theorem dX4_isIdle_61 : decode cX4_isIdle 61 = .ok (.goto 4, 3) := by decide +kernel
theorem dX4_isIdle_64 : decode cX4_isIdle 64 = .ok (.iconst 0, 1) := by decide +kernel
theorem dX4_isIdle_65 : decode cX4_isIdle 65 = .ok (.ireturn, 1) := by decide +kernel
theorem dX4_touchedBy_0 : decode cX4_touchedBy 0 = .ok (.iconst 0, 1) := by decide +kernel
theorem dX4_touchedBy_1 : decode cX4_touchedBy 1 = .ok (.istore_n 3, 1) := by decide +kernel
theorem dX4_touchedBy_2 : decode cX4_touchedBy 2 = .ok (.iconst 0, 1) := by decide +kernel
theorem dX4_touchedBy_3 : decode cX4_touchedBy 3 = .ok (.istore 4, 2) := by decide +kernel
theorem dX4_touchedBy_5 : decode cX4_touchedBy 5 = .ok (.iload 4, 2) := by decide +kernel
theorem dX4_touchedBy_7 : decode cX4_touchedBy 7 = .ok (.aload_n 0, 1) := by decide +kernel
theorem dX4_touchedBy_8 : decode cX4_touchedBy 8 = .ok (.getfield 82, 3) := by decide +kernel
theorem dX4_touchedBy_11 : decode cX4_touchedBy 11 = .ok (.if_icmp .ge 41, 3) := by decide +kernel
theorem dX4_touchedBy_14 : decode cX4_touchedBy 14 = .ok (.iload_n 3, 1) := by decide +kernel
theorem dX4_touchedBy_15 : decode cX4_touchedBy 15 = .ok (.aload_n 0, 1) := by decide +kernel
theorem dX4_touchedBy_16 : decode cX4_touchedBy 16 = .ok (.iload 4, 2) := by decide +kernel
theorem dX4_touchedBy_18 : decode cX4_touchedBy 18 = .ok (.iload_n 1, 1) := by decide +kernel
theorem dX4_touchedBy_19 : decode cX4_touchedBy 19 = .ok (.invokevirtual 177, 3) := by decide +kernel
theorem dX4_touchedBy_22 : decode cX4_touchedBy 22 = .ok (.ifCond .eq 21, 3) := by decide +kernel
theorem dX4_touchedBy_25 : decode cX4_touchedBy 25 = .ok (.iload_n 2, 1) := by decide +kernel
theorem dX4_touchedBy_26 : decode cX4_touchedBy 26 = .ok (.ifCond .eq 13, 3) := by decide +kernel
theorem dX4_touchedBy_29 : decode cX4_touchedBy 29 = .ok (.aload_n 0, 1) := by decide +kernel
theorem dX4_touchedBy_30 : decode cX4_touchedBy 30 = .ok (.iload 4, 2) := by decide +kernel
theorem dX4_touchedBy_32 : decode cX4_touchedBy 32 = .ok (.iload_n 1, 1) := by decide +kernel
theorem dX4_touchedBy_33 : decode cX4_touchedBy 33 = .ok (.invokevirtual 180, 3) := by decide +kernel
theorem dX4_touchedBy_36 : decode cX4_touchedBy 36 = .ok (.ifCond .eq 7, 3) := by decide +kernel
theorem dX4_touchedBy_39 : decode cX4_touchedBy 39 = .ok (.iconst 1, 1) := by decide +kernel
theorem dX4_touchedBy_40 : decode cX4_touchedBy 40 = .ok (.goto 4, 3) := by decide +kernel
theorem dX4_touchedBy_43 : decode cX4_touchedBy 43 = .ok (.iconst 0, 1) := by decide +kernel
theorem dX4_touchedBy_44 : decode cX4_touchedBy 44 = .ok (.iadd, 1) := by decide +kernel
theorem dX4_touchedBy_45 : decode cX4_touchedBy 45 = .ok (.istore_n 3, 1) := by decide +kernel
theorem dX4_touchedBy_46 : decode cX4_touchedBy 46 = .ok (.iinc 4 1, 3) := by decide +kernel
theorem dX4_touchedBy_49 : decode cX4_touchedBy 49 = .ok (.goto (-44), 3) := by decide +kernel
theorem dX4_touchedBy_52 : decode cX4_touchedBy 52 = .ok (.iload_n 3, 1) := by decide +kernel
theorem dX4_touchedBy_53 : decode cX4_touchedBy 53 = .ok (.ireturn, 1) := by decide +kernel
theorem dX4_leansOn_0 : decode cX4_leansOn 0 = .ok (.iconst 0, 1) := by decide +kernel
theorem dX4_leansOn_1 : decode cX4_leansOn 1 = .ok (.istore_n 2, 1) := by decide +kernel
theorem dX4_leansOn_2 : decode cX4_leansOn 2 = .ok (.iconst 0, 1) := by decide +kernel
theorem dX4_leansOn_3 : decode cX4_leansOn 3 = .ok (.istore_n 3, 1) := by decide +kernel
theorem dX4_leansOn_4 : decode cX4_leansOn 4 = .ok (.iload_n 3, 1) := by decide +kernel
theorem dX4_leansOn_5 : decode cX4_leansOn 5 = .ok (.aload_n 0, 1) := by decide +kernel
theorem dX4_leansOn_6 : decode cX4_leansOn 6 = .ok (.getfield 82, 3) := by decide +kernel
theorem dX4_leansOn_9 : decode cX4_leansOn 9 = .ok (.if_icmp .ge 71, 3) := by decide +kernel
theorem dX4_leansOn_12 : decode cX4_leansOn 12 = .ok (.aload_n 0, 1) := by decide +kernel
theorem dX4_leansOn_13 : decode cX4_leansOn 13 = .ok (.getfield 22, 3) := by decide +kernel
theorem dX4_leansOn_16 : decode cX4_leansOn 16 = .ok (.iload_n 3, 1) := by decide +kernel
theorem dX4_leansOn_17 : decode cX4_leansOn 17 = .ok (.iaload, 1) := by decide +kernel
theorem dX4_leansOn_18 : decode cX4_leansOn 18 = .ok (.iload_n 1, 1) := by decide +kernel
theorem dX4_leansOn_19 : decode cX4_leansOn 19 = .ok (.invokestatic 106, 3) := by decide +kernel
theorem dX4_leansOn_22 : decode cX4_leansOn 22 = .ok (.ifCond .ne 15, 3) := by decide +kernel
theorem dX4_leansOn_25 : decode cX4_leansOn 25 = .ok (.aload_n 0, 1) := by decide +kernel
theorem dX4_leansOn_26 : decode cX4_leansOn 26 = .ok (.iload_n 3, 1) := by decide +kernel
theorem dX4_leansOn_27 : decode cX4_leansOn 27 = .ok (.invokevirtual 162, 3) := by decide +kernel
theorem dX4_leansOn_30 : decode cX4_leansOn 30 = .ok (.iload_n 1, 1) := by decide +kernel
theorem dX4_leansOn_31 : decode cX4_leansOn 31 = .ok (.invokestatic 106, 3) := by decide +kernel
theorem dX4_leansOn_34 : decode cX4_leansOn 34 = .ok (.ifCond .eq 7, 3) := by decide +kernel
theorem dX4_leansOn_37 : decode cX4_leansOn 37 = .ok (.iconst 1, 1) := by decide +kernel
theorem dX4_leansOn_38 : decode cX4_leansOn 38 = .ok (.goto 4, 3) := by decide +kernel
theorem dX4_leansOn_41 : decode cX4_leansOn 41 = .ok (.iconst 0, 1) := by decide +kernel
theorem dX4_leansOn_42 : decode cX4_leansOn 42 = .ok (.istore 4, 2) := by decide +kernel
theorem dX4_leansOn_44 : decode cX4_leansOn 44 = .ok (.iload_n 2, 1) := by decide +kernel
theorem dX4_leansOn_45 : decode cX4_leansOn 45 = .ok (.iload 4, 2) := by decide +kernel
theorem dX4_leansOn_47 : decode cX4_leansOn 47 = .ok (.ifCond .eq 24, 3) := by decide +kernel
theorem dX4_leansOn_50 : decode cX4_leansOn 50 = .ok (.aload_n 0, 1) := by decide +kernel
theorem dX4_leansOn_51 : decode cX4_leansOn 51 = .ok (.getfield 16, 3) := by decide +kernel
theorem dX4_leansOn_54 : decode cX4_leansOn 54 = .ok (.iload_n 3, 1) := by decide +kernel
theorem dX4_leansOn_55 : decode cX4_leansOn 55 = .ok (.iaload, 1) := by decide +kernel
theorem dX4_leansOn_56 : decode cX4_leansOn 56 = .ok (.iconst (-1), 1) := by decide +kernel
theorem dX4_leansOn_57 : decode cX4_leansOn 57 = .ok (.if_icmp .eq 14, 3) := by decide +kernel
theorem dX4_leansOn_60 : decode cX4_leansOn 60 = .ok (.iconst 1, 1) := by decide +kernel
theorem dX4_leansOn_61 : decode cX4_leansOn 61 = .ok (.aload_n 0, 1) := by decide +kernel
theorem dX4_leansOn_62 : decode cX4_leansOn 62 = .ok (.getfield 16, 3) := by decide +kernel
theorem dX4_leansOn_65 : decode cX4_leansOn 65 = .ok (.iload_n 3, 1) := by decide +kernel
theorem dX4_leansOn_66 : decode cX4_leansOn 66 = .ok (.iaload, 1) := by decide +kernel
theorem dX4_leansOn_67 : decode cX4_leansOn 67 = .ok (.ishl, 1) := by decide +kernel
theorem dX4_leansOn_68 : decode cX4_leansOn 68 = .ok (.goto 4, 3) := by decide +kernel
theorem dX4_leansOn_71 : decode cX4_leansOn 71 = .ok (.iconst 0, 1) := by decide +kernel
theorem dX4_leansOn_72 : decode cX4_leansOn 72 = .ok (.ior, 1) := by decide +kernel
theorem dX4_leansOn_73 : decode cX4_leansOn 73 = .ok (.istore_n 2, 1) := by decide +kernel
theorem dX4_leansOn_74 : decode cX4_leansOn 74 = .ok (.iinc 3 1, 3) := by decide +kernel
theorem dX4_leansOn_77 : decode cX4_leansOn 77 = .ok (.goto (-73), 3) := by decide +kernel
theorem dX4_leansOn_80 : decode cX4_leansOn 80 = .ok (.iconst 0, 1) := by decide +kernel
theorem dX4_leansOn_81 : decode cX4_leansOn 81 = .ok (.istore_n 3, 1) := by decide +kernel
theorem dX4_leansOn_82 : decode cX4_leansOn 82 = .ok (.iload_n 3, 1) := by decide +kernel
theorem dX4_leansOn_83 : decode cX4_leansOn 83 = .ok (.aload_n 0, 1) := by decide +kernel
theorem dX4_leansOn_84 : decode cX4_leansOn 84 = .ok (.getfield 85, 3) := by decide +kernel
theorem dX4_leansOn_87 : decode cX4_leansOn 87 = .ok (.if_icmp .ge 60, 3) := by decide +kernel
theorem dX4_leansOn_90 : decode cX4_leansOn 90 = .ok (.aload_n 0, 1) := by decide +kernel
theorem dX4_leansOn_91 : decode cX4_leansOn 91 = .ok (.getfield 41, 3) := by decide +kernel
theorem dX4_leansOn_94 : decode cX4_leansOn 94 = .ok (.iload_n 3, 1) := by decide +kernel
theorem dX4_leansOn_95 : decode cX4_leansOn 95 = .ok (.iaload, 1) := by decide +kernel
theorem dX4_leansOn_96 : decode cX4_leansOn 96 = .ok (.iconst (-1), 1) := by decide +kernel
theorem dX4_leansOn_97 : decode cX4_leansOn 97 = .ok (.if_icmp .eq 44, 3) := by decide +kernel
theorem dX4_leansOn_100 : decode cX4_leansOn 100 = .ok (.aload_n 0, 1) := by decide +kernel
theorem dX4_leansOn_101 : decode cX4_leansOn 101 = .ok (.getfield 44, 3) := by decide +kernel
theorem dX4_leansOn_104 : decode cX4_leansOn 104 = .ok (.iload_n 3, 1) := by decide +kernel
theorem dX4_leansOn_105 : decode cX4_leansOn 105 = .ok (.iaload, 1) := by decide +kernel
theorem dX4_leansOn_106 : decode cX4_leansOn 106 = .ok (.iload_n 1, 1) := by decide +kernel
theorem dX4_leansOn_107 : decode cX4_leansOn 107 = .ok (.if_icmp .ne 34, 3) := by decide +kernel
theorem dX4_leansOn_110 : decode cX4_leansOn 110 = .ok (.aload_n 0, 1) := by decide +kernel
theorem dX4_leansOn_111 : decode cX4_leansOn 111 = .ok (.getfield 44, 3) := by decide +kernel
theorem dX4_leansOn_114 : decode cX4_leansOn 114 = .ok (.aload_n 0, 1) := by decide +kernel
theorem dX4_leansOn_115 : decode cX4_leansOn 115 = .ok (.getfield 41, 3) := by decide +kernel
theorem dX4_leansOn_118 : decode cX4_leansOn 118 = .ok (.iload_n 3, 1) := by decide +kernel
theorem dX4_leansOn_119 : decode cX4_leansOn 119 = .ok (.iaload, 1) := by decide +kernel
theorem dX4_leansOn_120 : decode cX4_leansOn 120 = .ok (.iaload, 1) := by decide +kernel
theorem dX4_leansOn_121 : decode cX4_leansOn 121 = .ok (.iconst (-1), 1) := by decide +kernel
theorem dX4_leansOn_122 : decode cX4_leansOn 122 = .ok (.if_icmp .eq 19, 3) := by decide +kernel
theorem dX4_leansOn_125 : decode cX4_leansOn 125 = .ok (.iload_n 2, 1) := by decide +kernel
theorem dX4_leansOn_126 : decode cX4_leansOn 126 = .ok (.iconst 1, 1) := by decide +kernel
theorem dX4_leansOn_127 : decode cX4_leansOn 127 = .ok (.aload_n 0, 1) := by decide +kernel
theorem dX4_leansOn_128 : decode cX4_leansOn 128 = .ok (.getfield 44, 3) := by decide +kernel
theorem dX4_leansOn_131 : decode cX4_leansOn 131 = .ok (.aload_n 0, 1) := by decide +kernel
theorem dX4_leansOn_132 : decode cX4_leansOn 132 = .ok (.getfield 41, 3) := by decide +kernel
theorem dX4_leansOn_135 : decode cX4_leansOn 135 = .ok (.iload_n 3, 1) := by decide +kernel
theorem dX4_leansOn_136 : decode cX4_leansOn 136 = .ok (.iaload, 1) := by decide +kernel
theorem dX4_leansOn_137 : decode cX4_leansOn 137 = .ok (.iaload, 1) := by decide +kernel
theorem dX4_leansOn_138 : decode cX4_leansOn 138 = .ok (.ishl, 1) := by decide +kernel
theorem dX4_leansOn_139 : decode cX4_leansOn 139 = .ok (.ior, 1) := by decide +kernel
theorem dX4_leansOn_140 : decode cX4_leansOn 140 = .ok (.istore_n 2, 1) := by decide +kernel
theorem dX4_leansOn_141 : decode cX4_leansOn 141 = .ok (.iinc 3 1, 3) := by decide +kernel
theorem dX4_leansOn_144 : decode cX4_leansOn 144 = .ok (.goto (-62), 3) := by decide +kernel
theorem dX4_leansOn_147 : decode cX4_leansOn 147 = .ok (.iload_n 2, 1) := by decide +kernel
theorem dX4_leansOn_148 : decode cX4_leansOn 148 = .ok (.iconst 1, 1) := by decide +kernel
theorem dX4_leansOn_149 : decode cX4_leansOn 149 = .ok (.iload_n 1, 1) := by decide +kernel
theorem dX4_leansOn_150 : decode cX4_leansOn 150 = .ok (.ishl, 1) := by decide +kernel
theorem dX4_leansOn_151 : decode cX4_leansOn 151 = .ok (.iconst (-1), 1) := by decide +kernel
theorem dX4_leansOn_152 : decode cX4_leansOn 152 = .ok (.ixor, 1) := by decide +kernel
theorem dX4_leansOn_153 : decode cX4_leansOn 153 = .ok (.iand, 1) := by decide +kernel
theorem dX4_leansOn_154 : decode cX4_leansOn 154 = .ok (.ireturn, 1) := by decide +kernel
theorem dX4_changeNow_0 : decode cX4_changeNow 0 = .ok (.iload_n 2, 1) := by decide +kernel
theorem dX4_changeNow_1 : decode cX4_changeNow 1 = .ok (.tableswitch 89 0 5 #[39, 46, 53, 60, 75, 82], 39) := by decide +kernel
theorem dX4_changeNow_40 : decode cX4_changeNow 40 = .ok (.aload_n 0, 1) := by decide +kernel
theorem dX4_changeNow_41 : decode cX4_changeNow 41 = .ok (.getfield 25, 3) := by decide +kernel
theorem dX4_changeNow_44 : decode cX4_changeNow 44 = .ok (.iload_n 1, 1) := by decide +kernel
theorem dX4_changeNow_45 : decode cX4_changeNow 45 = .ok (.iaload, 1) := by decide +kernel
theorem dX4_changeNow_46 : decode cX4_changeNow 46 = .ok (.ireturn, 1) := by decide +kernel
theorem dX4_changeNow_47 : decode cX4_changeNow 47 = .ok (.aload_n 0, 1) := by decide +kernel
theorem dX4_changeNow_48 : decode cX4_changeNow 48 = .ok (.getfield 28, 3) := by decide +kernel
theorem dX4_changeNow_51 : decode cX4_changeNow 51 = .ok (.iload_n 1, 1) := by decide +kernel
theorem dX4_changeNow_52 : decode cX4_changeNow 52 = .ok (.iaload, 1) := by decide +kernel
theorem dX4_changeNow_53 : decode cX4_changeNow 53 = .ok (.ireturn, 1) := by decide +kernel
theorem dX4_changeNow_54 : decode cX4_changeNow 54 = .ok (.aload_n 0, 1) := by decide +kernel
theorem dX4_changeNow_55 : decode cX4_changeNow 55 = .ok (.getfield 31, 3) := by decide +kernel
theorem dX4_changeNow_58 : decode cX4_changeNow 58 = .ok (.iload_n 1, 1) := by decide +kernel
theorem dX4_changeNow_59 : decode cX4_changeNow 59 = .ok (.iaload, 1) := by decide +kernel
theorem dX4_changeNow_60 : decode cX4_changeNow 60 = .ok (.ireturn, 1) := by decide +kernel
theorem dX4_changeNow_61 : decode cX4_changeNow 61 = .ok (.aload_n 0, 1) := by decide +kernel
theorem dX4_changeNow_62 : decode cX4_changeNow 62 = .ok (.getfield 34, 3) := by decide +kernel
theorem dX4_changeNow_65 : decode cX4_changeNow 65 = .ok (.iload_n 1, 1) := by decide +kernel
theorem dX4_changeNow_66 : decode cX4_changeNow 66 = .ok (.baload, 1) := by decide +kernel
theorem dX4_changeNow_67 : decode cX4_changeNow 67 = .ok (.ifCond .eq 7, 3) := by decide +kernel
theorem dX4_changeNow_70 : decode cX4_changeNow 70 = .ok (.iconst 1, 1) := by decide +kernel
theorem dX4_changeNow_71 : decode cX4_changeNow 71 = .ok (.goto 4, 3) := by decide +kernel
theorem dX4_changeNow_74 : decode cX4_changeNow 74 = .ok (.iconst 0, 1) := by decide +kernel
theorem dX4_changeNow_75 : decode cX4_changeNow 75 = .ok (.ireturn, 1) := by decide +kernel
theorem dX4_changeNow_76 : decode cX4_changeNow 76 = .ok (.aload_n 0, 1) := by decide +kernel
theorem dX4_changeNow_77 : decode cX4_changeNow 77 = .ok (.iload_n 1, 1) := by decide +kernel
theorem dX4_changeNow_78 : decode cX4_changeNow 78 = .ok (.iconst 0, 1) := by decide +kernel
theorem dX4_changeNow_79 : decode cX4_changeNow 79 = .ok (.invokevirtual 183, 3) := by decide +kernel
theorem dX4_changeNow_82 : decode cX4_changeNow 82 = .ok (.ireturn, 1) := by decide +kernel
theorem dX4_changeNow_83 : decode cX4_changeNow 83 = .ok (.aload_n 0, 1) := by decide +kernel
theorem dX4_changeNow_84 : decode cX4_changeNow 84 = .ok (.iload_n 1, 1) := by decide +kernel
theorem dX4_changeNow_85 : decode cX4_changeNow 85 = .ok (.iconst 1, 1) := by decide +kernel
theorem dX4_changeNow_86 : decode cX4_changeNow 86 = .ok (.invokevirtual 183, 3) := by decide +kernel
theorem dX4_changeNow_89 : decode cX4_changeNow 89 = .ok (.ireturn, 1) := by decide +kernel
theorem dX4_changeNow_90 : decode cX4_changeNow 90 = .ok (.aload_n 0, 1) := by decide +kernel
theorem dX4_changeNow_91 : decode cX4_changeNow 91 = .ok (.iload_n 1, 1) := by decide +kernel
theorem dX4_changeNow_92 : decode cX4_changeNow 92 = .ok (.invokevirtual 187, 3) := by decide +kernel
theorem dX4_changeNow_95 : decode cX4_changeNow 95 = .ok (.ireturn, 1) := by decide +kernel
theorem dX4_change_0 : decode cX4_change 0 = .ok (.aload_n 0, 1) := by decide +kernel
theorem dX4_change_1 : decode cX4_change 1 = .ok (.iload_n 1, 1) := by decide +kernel
theorem dX4_change_2 : decode cX4_change 2 = .ok (.invokevirtual 144, 3) := by decide +kernel
theorem dX4_change_5 : decode cX4_change 5 = .ok (.ifCond .ne 7, 3) := by decide +kernel
theorem dX4_change_8 : decode cX4_change 8 = .ok (.sipush (-1001), 3) := by decide +kernel
theorem dX4_change_11 : decode cX4_change 11 = .ok (.ireturn, 1) := by decide +kernel
theorem dX4_change_12 : decode cX4_change 12 = .ok (.iload_n 2, 1) := by decide +kernel
theorem dX4_change_13 : decode cX4_change 13 = .ok (.iconst 0, 1) := by decide +kernel
theorem dX4_change_14 : decode cX4_change 14 = .ok (.bipush 6, 2) := by decide +kernel
theorem dX4_change_16 : decode cX4_change 16 = .ok (.invokestatic 74, 3) := by decide +kernel
theorem dX4_change_19 : decode cX4_change 19 = .ok (.ifCond .eq 12, 3) := by decide +kernel
theorem dX4_change_22 : decode cX4_change 22 = .ok (.aload_n 0, 1) := by decide +kernel
theorem dX4_change_23 : decode cX4_change 23 = .ok (.iload_n 1, 1) := by decide +kernel
theorem dX4_change_24 : decode cX4_change 24 = .ok (.iload_n 2, 1) := by decide +kernel
theorem dX4_change_25 : decode cX4_change 25 = .ok (.invokevirtual 190, 3) := by decide +kernel
theorem dX4_change_28 : decode cX4_change 28 = .ok (.goto 6, 3) := by decide +kernel
theorem dX4_change_31 : decode cX4_change 31 = .ok (.sipush (-1002), 3) := by decide +kernel
theorem dX4_change_34 : decode cX4_change 34 = .ok (.ireturn, 1) := by decide +kernel
theorem dX4_laySpans_0 : decode cX4_laySpans 0 = .ok (.aload_n 0, 1) := by decide +kernel
theorem dX4_laySpans_1 : decode cX4_laySpans 1 = .ok (.iconst 0, 1) := by decide +kernel
theorem dX4_laySpans_2 : decode cX4_laySpans 2 = .ok (.putfield 193, 3) := by decide +kernel
theorem dX4_laySpans_5 : decode cX4_laySpans 5 = .ok (.iconst 0, 1) := by decide +kernel
theorem dX4_laySpans_6 : decode cX4_laySpans 6 = .ok (.istore_n 1, 1) := by decide +kernel
theorem dX4_laySpans_7 : decode cX4_laySpans 7 = .ok (.iload_n 1, 1) := by decide +kernel
theorem dX4_laySpans_8 : decode cX4_laySpans 8 = .ok (.aload_n 0, 1) := by decide +kernel
theorem dX4_laySpans_9 : decode cX4_laySpans 9 = .ok (.getfield 85, 3) := by decide +kernel
theorem dX4_laySpans_12 : decode cX4_laySpans 12 = .ok (.if_icmp .ge 117, 3) := by decide +kernel
theorem dX4_laySpans_15 : decode cX4_laySpans 15 = .ok (.aload_n 0, 1) := by decide +kernel
theorem dX4_laySpans_16 : decode cX4_laySpans 16 = .ok (.aload_n 0, 1) := by decide +kernel
theorem dX4_laySpans_17 : decode cX4_laySpans 17 = .ok (.getfield 47, 3) := by decide +kernel
theorem dX4_laySpans_20 : decode cX4_laySpans 20 = .ok (.iload_n 1, 1) := by decide +kernel
theorem dX4_laySpans_21 : decode cX4_laySpans 21 = .ok (.iaload, 1) := by decide +kernel
theorem dX4_laySpans_22 : decode cX4_laySpans 22 = .ok (.invokevirtual 171, 3) := by decide +kernel
theorem dX4_laySpans_25 : decode cX4_laySpans 25 = .ok (.istore_n 2, 1) := by decide +kernel
theorem dX4_laySpans_26 : decode cX4_laySpans 26 = .ok (.iload_n 2, 1) := by decide +kernel
theorem dX4_laySpans_27 : decode cX4_laySpans 27 = .ok (.iconst 3, 1) := by decide +kernel
theorem dX4_laySpans_28 : decode cX4_laySpans 28 = .ok (.if_icmp .ge 29, 3) := by decide +kernel
theorem dX4_laySpans_31 : decode cX4_laySpans 31 = .ok (.aload_n 0, 1) := by decide +kernel
theorem dX4_laySpans_32 : decode cX4_laySpans 32 = .ok (.getfield 193, 3) := by decide +kernel
theorem dX4_laySpans_35 : decode cX4_laySpans 35 = .ok (.ifCond .eq 18, 3) := by decide +kernel
theorem dX4_laySpans_38 : decode cX4_laySpans 38 = .ok (.aload_n 0, 1) := by decide +kernel
theorem dX4_laySpans_39 : decode cX4_laySpans 39 = .ok (.getfield 65, 3) := by decide +kernel
theorem dX4_laySpans_42 : decode cX4_laySpans 42 = .ok (.aload_n 0, 1) := by decide +kernel
theorem dX4_laySpans_43 : decode cX4_laySpans 43 = .ok (.getfield 193, 3) := by decide +kernel
theorem dX4_laySpans_46 : decode cX4_laySpans 46 = .ok (.iconst 1, 1) := by decide +kernel
theorem dX4_laySpans_47 : decode cX4_laySpans 47 = .ok (.isub, 1) := by decide +kernel
theorem dX4_laySpans_48 : decode cX4_laySpans 48 = .ok (.iaload, 1) := by decide +kernel
theorem dX4_laySpans_49 : decode cX4_laySpans 49 = .ok (.iload_n 2, 1) := by decide +kernel
theorem dX4_laySpans_50 : decode cX4_laySpans 50 = .ok (.if_icmp .eq 7, 3) := by decide +kernel
theorem dX4_laySpans_53 : decode cX4_laySpans 53 = .ok (.iconst 1, 1) := by decide +kernel
theorem dX4_laySpans_54 : decode cX4_laySpans 54 = .ok (.goto 4, 3) := by decide +kernel
theorem dX4_laySpans_57 : decode cX4_laySpans 57 = .ok (.iconst 0, 1) := by decide +kernel
theorem dX4_laySpans_58 : decode cX4_laySpans 58 = .ok (.istore_n 3, 1) := by decide +kernel
theorem dX4_laySpans_59 : decode cX4_laySpans 59 = .ok (.iload_n 3, 1) := by decide +kernel
theorem dX4_laySpans_60 : decode cX4_laySpans 60 = .ok (.ifCond .eq 43, 3) := by decide +kernel
theorem dX4_laySpans_63 : decode cX4_laySpans 63 = .ok (.aload_n 0, 1) := by decide +kernel
theorem dX4_laySpans_64 : decode cX4_laySpans 64 = .ok (.getfield 65, 3) := by decide +kernel
theorem dX4_laySpans_67 : decode cX4_laySpans 67 = .ok (.aload_n 0, 1) := by decide +kernel
theorem dX4_laySpans_68 : decode cX4_laySpans 68 = .ok (.getfield 193, 3) := by decide +kernel
theorem dX4_laySpans_71 : decode cX4_laySpans 71 = .ok (.iload_n 2, 1) := by decide +kernel
theorem dX4_laySpans_72 : decode cX4_laySpans 72 = .ok (.iastore, 1) := by decide +kernel
theorem dX4_laySpans_73 : decode cX4_laySpans 73 = .ok (.aload_n 0, 1) := by decide +kernel
theorem dX4_laySpans_74 : decode cX4_laySpans 74 = .ok (.getfield 68, 3) := by decide +kernel
theorem dX4_laySpans_77 : decode cX4_laySpans 77 = .ok (.aload_n 0, 1) := by decide +kernel
theorem dX4_laySpans_78 : decode cX4_laySpans 78 = .ok (.getfield 193, 3) := by decide +kernel
theorem dX4_laySpans_81 : decode cX4_laySpans 81 = .ok (.iconst 0, 1) := by decide +kernel
theorem dX4_laySpans_82 : decode cX4_laySpans 82 = .ok (.iastore, 1) := by decide +kernel
theorem dX4_laySpans_83 : decode cX4_laySpans 83 = .ok (.aload_n 0, 1) := by decide +kernel
theorem dX4_laySpans_84 : decode cX4_laySpans 84 = .ok (.getfield 71, 3) := by decide +kernel
theorem dX4_laySpans_87 : decode cX4_laySpans 87 = .ok (.aload_n 0, 1) := by decide +kernel
theorem dX4_laySpans_88 : decode cX4_laySpans 88 = .ok (.getfield 193, 3) := by decide +kernel
theorem dX4_laySpans_91 : decode cX4_laySpans 91 = .ok (.iload_n 1, 1) := by decide +kernel
theorem dX4_laySpans_92 : decode cX4_laySpans 92 = .ok (.iastore, 1) := by decide +kernel
theorem dX4_laySpans_93 : decode cX4_laySpans 93 = .ok (.aload_n 0, 1) := by decide +kernel
theorem dX4_laySpans_94 : decode cX4_laySpans 94 = .ok (.dup, 1) := by decide +kernel
theorem dX4_laySpans_95 : decode cX4_laySpans 95 = .ok (.getfield 193, 3) := by decide +kernel
theorem dX4_laySpans_98 : decode cX4_laySpans 98 = .ok (.iconst 1, 1) := by decide +kernel
theorem dX4_laySpans_99 : decode cX4_laySpans 99 = .ok (.iadd, 1) := by decide +kernel
theorem dX4_laySpans_100 : decode cX4_laySpans 100 = .ok (.putfield 193, 3) := by decide +kernel
theorem dX4_laySpans_103 : decode cX4_laySpans 103 = .ok (.iload_n 2, 1) := by decide +kernel
theorem dX4_laySpans_104 : decode cX4_laySpans 104 = .ok (.iconst 3, 1) := by decide +kernel
theorem dX4_laySpans_105 : decode cX4_laySpans 105 = .ok (.if_icmp .ge 18, 3) := by decide +kernel
theorem dX4_laySpans_108 : decode cX4_laySpans 108 = .ok (.aload_n 0, 1) := by decide +kernel
theorem dX4_laySpans_109 : decode cX4_laySpans 109 = .ok (.getfield 68, 3) := by decide +kernel
theorem dX4_laySpans_112 : decode cX4_laySpans 112 = .ok (.aload_n 0, 1) := by decide +kernel
theorem dX4_laySpans_113 : decode cX4_laySpans 113 = .ok (.getfield 193, 3) := by decide +kernel
theorem dX4_laySpans_116 : decode cX4_laySpans 116 = .ok (.iconst 1, 1) := by decide +kernel
theorem dX4_laySpans_117 : decode cX4_laySpans 117 = .ok (.isub, 1) := by decide +kernel
theorem dX4_laySpans_118 : decode cX4_laySpans 118 = .ok (.dup2, 1) := by decide +kernel
theorem dX4_laySpans_119 : decode cX4_laySpans 119 = .ok (.iaload, 1) := by decide +kernel
theorem dX4_laySpans_120 : decode cX4_laySpans 120 = .ok (.iconst 1, 1) := by decide +kernel
theorem dX4_laySpans_121 : decode cX4_laySpans 121 = .ok (.iadd, 1) := by decide +kernel
theorem dX4_laySpans_122 : decode cX4_laySpans 122 = .ok (.iastore, 1) := by decide +kernel
theorem dX4_laySpans_123 : decode cX4_laySpans 123 = .ok (.iinc 1 1, 3) := by decide +kernel
theorem dX4_laySpans_126 : decode cX4_laySpans 126 = .ok (.goto (-119), 3) := by decide +kernel
theorem dX4_laySpans_129 : decode cX4_laySpans 129 = .ok (.return_, 1) := by decide +kernel
theorem dX4_span_0 : decode cX4_span 0 = .ok (.iload_n 2, 1) := by decide +kernel
theorem dX4_span_1 : decode cX4_span 1 = .ok (.iconst 0, 1) := by decide +kernel
theorem dX4_span_2 : decode cX4_span 2 = .ok (.iconst 3, 1) := by decide +kernel
theorem dX4_span_3 : decode cX4_span 3 = .ok (.invokestatic 74, 3) := by decide +kernel
theorem dX4_span_6 : decode cX4_span 6 = .ok (.ifCond .ne 7, 3) := by decide +kernel
theorem dX4_span_9 : decode cX4_span 9 = .ok (.sipush (-1002), 3) := by decide +kernel
theorem dX4_span_12 : decode cX4_span 12 = .ok (.ireturn, 1) := by decide +kernel
theorem dX4_span_13 : decode cX4_span 13 = .ok (.aload_n 0, 1) := by decide +kernel
theorem dX4_span_14 : decode cX4_span 14 = .ok (.invokevirtual 196, 3) := by decide +kernel
theorem dX4_span_17 : decode cX4_span 17 = .ok (.iload_n 2, 1) := by decide +kernel
theorem dX4_span_18 : decode cX4_span 18 = .ok (.ifCond .ne 8, 3) := by decide +kernel
theorem dX4_span_21 : decode cX4_span 21 = .ok (.aload_n 0, 1) := by decide +kernel
theorem dX4_span_22 : decode cX4_span 22 = .ok (.getfield 193, 3) := by decide +kernel
theorem dX4_span_25 : decode cX4_span 25 = .ok (.ireturn, 1) := by decide +kernel
theorem dX4_span_26 : decode cX4_span 26 = .ok (.iload_n 1, 1) := by decide +kernel
theorem dX4_span_27 : decode cX4_span 27 = .ok (.iconst 0, 1) := by decide +kernel
theorem dX4_span_28 : decode cX4_span 28 = .ok (.aload_n 0, 1) := by decide +kernel
theorem dX4_span_29 : decode cX4_span 29 = .ok (.getfield 193, 3) := by decide +kernel
theorem dX4_span_32 : decode cX4_span 32 = .ok (.iconst 1, 1) := by decide +kernel
theorem dX4_span_33 : decode cX4_span 33 = .ok (.isub, 1) := by decide +kernel
theorem dX4_span_34 : decode cX4_span 34 = .ok (.invokestatic 74, 3) := by decide +kernel
theorem dX4_span_37 : decode cX4_span 37 = .ok (.ifCond .ne 7, 3) := by decide +kernel
theorem dX4_span_40 : decode cX4_span 40 = .ok (.sipush (-1001), 3) := by decide +kernel
theorem dX4_span_43 : decode cX4_span 43 = .ok (.ireturn, 1) := by decide +kernel
theorem dX4_span_44 : decode cX4_span 44 = .ok (.iload_n 2, 1) := by decide +kernel
theorem dX4_span_45 : decode cX4_span 45 = .ok (.iconst 1, 1) := by decide +kernel
theorem dX4_span_46 : decode cX4_span 46 = .ok (.if_icmp .ne 12, 3) := by decide +kernel
theorem dX4_span_49 : decode cX4_span 49 = .ok (.aload_n 0, 1) := by decide +kernel
theorem dX4_span_50 : decode cX4_span 50 = .ok (.getfield 65, 3) := by decide +kernel
theorem dX4_span_53 : decode cX4_span 53 = .ok (.iload_n 1, 1) := by decide +kernel
theorem dX4_span_54 : decode cX4_span 54 = .ok (.iaload, 1) := by decide +kernel
theorem dX4_span_55 : decode cX4_span 55 = .ok (.goto 23, 3) := by decide +kernel
theorem dX4_span_58 : decode cX4_span 58 = .ok (.iload_n 2, 1) := by decide +kernel
theorem dX4_span_59 : decode cX4_span 59 = .ok (.iconst 2, 1) := by decide +kernel
theorem dX4_span_60 : decode cX4_span 60 = .ok (.if_icmp .ne 12, 3) := by decide +kernel
theorem dX4_span_63 : decode cX4_span 63 = .ok (.aload_n 0, 1) := by decide +kernel
theorem dX4_span_64 : decode cX4_span 64 = .ok (.getfield 68, 3) := by decide +kernel
theorem dX4_span_67 : decode cX4_span 67 = .ok (.iload_n 1, 1) := by decide +kernel
theorem dX4_span_68 : decode cX4_span 68 = .ok (.iaload, 1) := by decide +kernel
theorem dX4_span_69 : decode cX4_span 69 = .ok (.goto 9, 3) := by decide +kernel
theorem dX4_span_72 : decode cX4_span 72 = .ok (.aload_n 0, 1) := by decide +kernel
theorem dX4_span_73 : decode cX4_span 73 = .ok (.getfield 71, 3) := by decide +kernel
theorem dX4_span_76 : decode cX4_span 76 = .ok (.iload_n 1, 1) := by decide +kernel
theorem dX4_span_77 : decode cX4_span 77 = .ok (.iaload, 1) := by decide +kernel
theorem dX4_span_78 : decode cX4_span 78 = .ok (.ireturn, 1) := by decide +kernel
theorem dX4_readsAsPage_0 : decode cX4_readsAsPage 0 = .ok (.aload_n 0, 1) := by decide +kernel
theorem dX4_readsAsPage_1 : decode cX4_readsAsPage 1 = .ok (.iload_n 1, 1) := by decide +kernel
theorem dX4_readsAsPage_2 : decode cX4_readsAsPage 2 = .ok (.invokevirtual 134, 3) := by decide +kernel
theorem dX4_readsAsPage_5 : decode cX4_readsAsPage 5 = .ok (.aload_n 0, 1) := by decide +kernel
theorem dX4_readsAsPage_6 : decode cX4_readsAsPage 6 = .ok (.getfield 120, 3) := by decide +kernel
theorem dX4_readsAsPage_9 : decode cX4_readsAsPage 9 = .ok (.aload_n 0, 1) := by decide +kernel
theorem dX4_readsAsPage_10 : decode cX4_readsAsPage 10 = .ok (.getfield 78, 3) := by decide +kernel
theorem dX4_readsAsPage_13 : decode cX4_readsAsPage 13 = .ok (.if_icmp .ne 7, 3) := by decide +kernel
theorem dX4_readsAsPage_16 : decode cX4_readsAsPage 16 = .ok (.iconst 1, 1) := by decide +kernel
theorem dX4_readsAsPage_17 : decode cX4_readsAsPage 17 = .ok (.goto 4, 3) := by decide +kernel
theorem dX4_readsAsPage_20 : decode cX4_readsAsPage 20 = .ok (.iconst 0, 1) := by decide +kernel
theorem dX4_readsAsPage_21 : decode cX4_readsAsPage 21 = .ok (.istore_n 2, 1) := by decide +kernel
theorem dX4_readsAsPage_22 : decode cX4_readsAsPage 22 = .ok (.iconst 0, 1) := by decide +kernel
theorem dX4_readsAsPage_23 : decode cX4_readsAsPage 23 = .ok (.istore_n 3, 1) := by decide +kernel
theorem dX4_readsAsPage_24 : decode cX4_readsAsPage 24 = .ok (.iload_n 3, 1) := by decide +kernel
theorem dX4_readsAsPage_25 : decode cX4_readsAsPage 25 = .ok (.aload_n 0, 1) := by decide +kernel
theorem dX4_readsAsPage_26 : decode cX4_readsAsPage 26 = .ok (.getfield 120, 3) := by decide +kernel
theorem dX4_readsAsPage_29 : decode cX4_readsAsPage 29 = .ok (.if_icmp .ge 44, 3) := by decide +kernel
theorem dX4_readsAsPage_32 : decode cX4_readsAsPage 32 = .ok (.iload_n 2, 1) := by decide +kernel
theorem dX4_readsAsPage_33 : decode cX4_readsAsPage 33 = .ok (.ifCond .eq 40, 3) := by decide +kernel
theorem dX4_readsAsPage_36 : decode cX4_readsAsPage 36 = .ok (.aload_n 0, 1) := by decide +kernel
theorem dX4_readsAsPage_37 : decode cX4_readsAsPage 37 = .ok (.getfield 13, 3) := by decide +kernel
theorem dX4_readsAsPage_40 : decode cX4_readsAsPage 40 = .ok (.aload_n 0, 1) := by decide +kernel
theorem dX4_readsAsPage_41 : decode cX4_readsAsPage 41 = .ok (.getfield 38, 3) := by decide +kernel
theorem dX4_readsAsPage_44 : decode cX4_readsAsPage 44 = .ok (.aload_n 0, 1) := by decide +kernel
theorem dX4_readsAsPage_45 : decode cX4_readsAsPage 45 = .ok (.getfield 56, 3) := by decide +kernel
theorem dX4_readsAsPage_48 : decode cX4_readsAsPage 48 = .ok (.iload_n 3, 1) := by decide +kernel
theorem dX4_readsAsPage_49 : decode cX4_readsAsPage 49 = .ok (.iaload, 1) := by decide +kernel
theorem dX4_readsAsPage_50 : decode cX4_readsAsPage 50 = .ok (.iaload, 1) := by decide +kernel
theorem dX4_readsAsPage_51 : decode cX4_readsAsPage 51 = .ok (.iaload, 1) := by decide +kernel
theorem dX4_readsAsPage_52 : decode cX4_readsAsPage 52 = .ok (.aload_n 0, 1) := by decide +kernel
theorem dX4_readsAsPage_53 : decode cX4_readsAsPage 53 = .ok (.getfield 7, 3) := by decide +kernel
theorem dX4_readsAsPage_56 : decode cX4_readsAsPage 56 = .ok (.iload_n 3, 1) := by decide +kernel
theorem dX4_readsAsPage_57 : decode cX4_readsAsPage 57 = .ok (.iaload, 1) := by decide +kernel
theorem dX4_readsAsPage_58 : decode cX4_readsAsPage 58 = .ok (.if_icmp .ne 7, 3) := by decide +kernel
theorem dX4_readsAsPage_61 : decode cX4_readsAsPage 61 = .ok (.iconst 1, 1) := by decide +kernel
theorem dX4_readsAsPage_62 : decode cX4_readsAsPage 62 = .ok (.goto 4, 3) := by decide +kernel
theorem dX4_readsAsPage_65 : decode cX4_readsAsPage 65 = .ok (.iconst 0, 1) := by decide +kernel
theorem dX4_readsAsPage_66 : decode cX4_readsAsPage 66 = .ok (.istore_n 2, 1) := by decide +kernel
theorem dX4_readsAsPage_67 : decode cX4_readsAsPage 67 = .ok (.iinc 3 1, 3) := by decide +kernel
theorem dX4_readsAsPage_70 : decode cX4_readsAsPage 70 = .ok (.goto (-46), 3) := by decide +kernel
theorem dX4_readsAsPage_73 : decode cX4_readsAsPage 73 = .ok (.iload_n 2, 1) := by decide +kernel
theorem dX4_readsAsPage_74 : decode cX4_readsAsPage 74 = .ok (.ireturn, 1) := by decide +kernel
theorem dX4_layFound_0 : decode cX4_layFound 0 = .ok (.aload_n 0, 1) := by decide +kernel
theorem dX4_layFound_1 : decode cX4_layFound 1 = .ok (.iconst 0, 1) := by decide +kernel
theorem dX4_layFound_2 : decode cX4_layFound 2 = .ok (.invokevirtual 147, 3) := by decide +kernel
theorem dX4_layFound_5 : decode cX4_layFound 5 = .ok (.istore_n 1, 1) := by decide +kernel
theorem dX4_layFound_6 : decode cX4_layFound 6 = .ok (.aload_n 0, 1) := by decide +kernel
theorem dX4_layFound_7 : decode cX4_layFound 7 = .ok (.iconst 1, 1) := by decide +kernel
theorem dX4_layFound_8 : decode cX4_layFound 8 = .ok (.invokevirtual 147, 3) := by decide +kernel
theorem dX4_layFound_11 : decode cX4_layFound 11 = .ok (.istore_n 2, 1) := by decide +kernel
theorem dX4_layFound_12 : decode cX4_layFound 12 = .ok (.aload_n 0, 1) := by decide +kernel
theorem dX4_layFound_13 : decode cX4_layFound 13 = .ok (.iconst 0, 1) := by decide +kernel
theorem dX4_layFound_14 : decode cX4_layFound 14 = .ok (.putfield 199, 3) := by decide +kernel
theorem dX4_layFound_17 : decode cX4_layFound 17 = .ok (.aload_n 0, 1) := by decide +kernel
theorem dX4_layFound_18 : decode cX4_layFound 18 = .ok (.iconst (-1), 1) := by decide +kernel
theorem dX4_layFound_19 : decode cX4_layFound 19 = .ok (.putfield 202, 3) := by decide +kernel
theorem dX4_layFound_22 : decode cX4_layFound 22 = .ok (.iconst 0, 1) := by decide +kernel
theorem dX4_layFound_23 : decode cX4_layFound 23 = .ok (.istore_n 3, 1) := by decide +kernel
theorem dX4_layFound_24 : decode cX4_layFound 24 = .ok (.iload_n 3, 1) := by decide +kernel
theorem dX4_layFound_25 : decode cX4_layFound 25 = .ok (.iconst 1, 1) := by decide +kernel
theorem dX4_layFound_26 : decode cX4_layFound 26 = .ok (.aload_n 0, 1) := by decide +kernel
theorem dX4_layFound_27 : decode cX4_layFound 27 = .ok (.getfield 96, 3) := by decide +kernel
theorem dX4_layFound_30 : decode cX4_layFound 30 = .ok (.ishl, 1) := by decide +kernel
theorem dX4_layFound_31 : decode cX4_layFound 31 = .ok (.if_icmp .ge 71, 3) := by decide +kernel
theorem dX4_layFound_34 : decode cX4_layFound 34 = .ok (.iload_n 3, 1) := by decide +kernel
theorem dX4_layFound_35 : decode cX4_layFound 35 = .ok (.iload_n 1, 1) := by decide +kernel
theorem dX4_layFound_36 : decode cX4_layFound 36 = .ok (.iconst (-1), 1) := by decide +kernel
theorem dX4_layFound_37 : decode cX4_layFound 37 = .ok (.ixor, 1) := by decide +kernel
theorem dX4_layFound_38 : decode cX4_layFound 38 = .ok (.iand, 1) := by decide +kernel
theorem dX4_layFound_39 : decode cX4_layFound 39 = .ok (.ifCond .ne 57, 3) := by decide +kernel
theorem dX4_layFound_42 : decode cX4_layFound 42 = .ok (.aload_n 0, 1) := by decide +kernel
theorem dX4_layFound_43 : decode cX4_layFound 43 = .ok (.iload_n 3, 1) := by decide +kernel
theorem dX4_layFound_44 : decode cX4_layFound 44 = .ok (.iload_n 2, 1) := by decide +kernel
theorem dX4_layFound_45 : decode cX4_layFound 45 = .ok (.ior, 1) := by decide +kernel
theorem dX4_layFound_46 : decode cX4_layFound 46 = .ok (.invokevirtual 205, 3) := by decide +kernel
theorem dX4_layFound_49 : decode cX4_layFound 49 = .ok (.ifCond .eq 47, 3) := by decide +kernel
theorem dX4_layFound_52 : decode cX4_layFound 52 = .ok (.aload_n 0, 1) := by decide +kernel
theorem dX4_layFound_53 : decode cX4_layFound 53 = .ok (.dup, 1) := by decide +kernel
theorem dX4_layFound_54 : decode cX4_layFound 54 = .ok (.getfield 199, 3) := by decide +kernel
theorem dX4_layFound_57 : decode cX4_layFound 57 = .ok (.iconst 1, 1) := by decide +kernel
theorem dX4_layFound_58 : decode cX4_layFound 58 = .ok (.iadd, 1) := by decide +kernel
theorem dX4_layFound_59 : decode cX4_layFound 59 = .ok (.putfield 199, 3) := by decide +kernel
theorem dX4_layFound_62 : decode cX4_layFound 62 = .ok (.aload_n 0, 1) := by decide +kernel
theorem dX4_layFound_63 : decode cX4_layFound 63 = .ok (.aload_n 0, 1) := by decide +kernel
theorem dX4_layFound_64 : decode cX4_layFound 64 = .ok (.getfield 202, 3) := by decide +kernel
theorem dX4_layFound_67 : decode cX4_layFound 67 = .ok (.iconst (-1), 1) := by decide +kernel
theorem dX4_layFound_68 : decode cX4_layFound 68 = .ok (.if_icmp .eq 17, 3) := by decide +kernel
theorem dX4_layFound_71 : decode cX4_layFound 71 = .ok (.iload_n 3, 1) := by decide +kernel
theorem dX4_layFound_72 : decode cX4_layFound 72 = .ok (.invokestatic 159, 3) := by decide +kernel
theorem dX4_layFound_75 : decode cX4_layFound 75 = .ok (.aload_n 0, 1) := by decide +kernel
theorem dX4_layFound_76 : decode cX4_layFound 76 = .ok (.getfield 202, 3) := by decide +kernel
theorem dX4_layFound_79 : decode cX4_layFound 79 = .ok (.invokestatic 159, 3) := by decide +kernel
theorem dX4_layFound_82 : decode cX4_layFound 82 = .ok (.if_icmp .ge 7, 3) := by decide +kernel
theorem dX4_layFound_85 : decode cX4_layFound 85 = .ok (.iload_n 3, 1) := by decide +kernel
theorem dX4_layFound_86 : decode cX4_layFound 86 = .ok (.goto 7, 3) := by decide +kernel
theorem dX4_layFound_89 : decode cX4_layFound 89 = .ok (.aload_n 0, 1) := by decide +kernel
theorem dX4_layFound_90 : decode cX4_layFound 90 = .ok (.getfield 202, 3) := by decide +kernel
theorem dX4_layFound_93 : decode cX4_layFound 93 = .ok (.putfield 202, 3) := by decide +kernel
theorem dX4_layFound_96 : decode cX4_layFound 96 = .ok (.iinc 3 1, 3) := by decide +kernel
theorem dX4_layFound_99 : decode cX4_layFound 99 = .ok (.goto (-75), 3) := by decide +kernel
theorem dX4_layFound_102 : decode cX4_layFound 102 = .ok (.return_, 1) := by decide +kernel
theorem dX4_found_0 : decode cX4_found 0 = .ok (.iload_n 1, 1) := by decide +kernel
theorem dX4_found_1 : decode cX4_found 1 = .ok (.iconst 0, 1) := by decide +kernel
theorem dX4_found_2 : decode cX4_found 2 = .ok (.iconst 1, 1) := by decide +kernel
theorem dX4_found_3 : decode cX4_found 3 = .ok (.invokestatic 74, 3) := by decide +kernel
theorem dX4_found_6 : decode cX4_found 6 = .ok (.ifCond .ne 7, 3) := by decide +kernel
theorem dX4_found_9 : decode cX4_found 9 = .ok (.sipush (-1002), 3) := by decide +kernel
theorem dX4_found_12 : decode cX4_found 12 = .ok (.ireturn, 1) := by decide +kernel
theorem dX4_found_13 : decode cX4_found 13 = .ok (.aload_n 0, 1) := by decide +kernel
theorem dX4_found_14 : decode cX4_found 14 = .ok (.invokevirtual 208, 3) := by decide +kernel
theorem dX4_found_17 : decode cX4_found 17 = .ok (.iload_n 1, 1) := by decide +kernel
theorem dX4_found_18 : decode cX4_found 18 = .ok (.ifCond .ne 10, 3) := by decide +kernel
theorem dX4_found_21 : decode cX4_found 21 = .ok (.aload_n 0, 1) := by decide +kernel
theorem dX4_found_22 : decode cX4_found 22 = .ok (.getfield 199, 3) := by decide +kernel
theorem dX4_found_25 : decode cX4_found 25 = .ok (.goto 7, 3) := by decide +kernel
theorem dX4_found_28 : decode cX4_found 28 = .ok (.aload_n 0, 1) := by decide +kernel
theorem dX4_found_29 : decode cX4_found 29 = .ok (.getfield 202, 3) := by decide +kernel
theorem dX4_found_32 : decode cX4_found 32 = .ok (.ireturn, 1) := by decide +kernel
theorem dX4_openFrom_0 : decode cX4_openFrom 0 = .ok (.iconst 0, 1) := by decide +kernel
theorem dX4_openFrom_1 : decode cX4_openFrom 1 = .ok (.istore_n 3, 1) := by decide +kernel
theorem dX4_openFrom_2 : decode cX4_openFrom 2 = .ok (.aload_n 0, 1) := by decide +kernel
theorem dX4_openFrom_3 : decode cX4_openFrom 3 = .ok (.getfield 50, 3) := by decide +kernel
theorem dX4_openFrom_6 : decode cX4_openFrom 6 = .ok (.iload_n 1, 1) := by decide +kernel
theorem dX4_openFrom_7 : decode cX4_openFrom 7 = .ok (.iaload, 1) := by decide +kernel
theorem dX4_openFrom_8 : decode cX4_openFrom 8 = .ok (.istore 4, 2) := by decide +kernel
theorem dX4_openFrom_10 : decode cX4_openFrom 10 = .ok (.iload 4, 2) := by decide +kernel
theorem dX4_openFrom_12 : decode cX4_openFrom 12 = .ok (.iconst (-1), 1) := by decide +kernel
theorem dX4_openFrom_13 : decode cX4_openFrom 13 = .ok (.if_icmp .eq 37, 3) := by decide +kernel
theorem dX4_openFrom_16 : decode cX4_openFrom 16 = .ok (.iload_n 3, 1) := by decide +kernel
theorem dX4_openFrom_17 : decode cX4_openFrom 17 = .ok (.iload_n 2, 1) := by decide +kernel
theorem dX4_openFrom_18 : decode cX4_openFrom 18 = .ok (.aload_n 0, 1) := by decide +kernel
theorem dX4_openFrom_19 : decode cX4_openFrom 19 = .ok (.getfield 44, 3) := by decide +kernel
theorem dX4_openFrom_22 : decode cX4_openFrom 22 = .ok (.iload 4, 2) := by decide +kernel
theorem dX4_openFrom_24 : decode cX4_openFrom 24 = .ok (.iaload, 1) := by decide +kernel
theorem dX4_openFrom_25 : decode cX4_openFrom 25 = .ok (.invokestatic 106, 3) := by decide +kernel
theorem dX4_openFrom_28 : decode cX4_openFrom 28 = .ok (.ifCond .eq 7, 3) := by decide +kernel
theorem dX4_openFrom_31 : decode cX4_openFrom 31 = .ok (.iconst 1, 1) := by decide +kernel
theorem dX4_openFrom_32 : decode cX4_openFrom 32 = .ok (.goto 4, 3) := by decide +kernel
theorem dX4_openFrom_35 : decode cX4_openFrom 35 = .ok (.iconst 0, 1) := by decide +kernel
theorem dX4_openFrom_36 : decode cX4_openFrom 36 = .ok (.iadd, 1) := by decide +kernel
theorem dX4_openFrom_37 : decode cX4_openFrom 37 = .ok (.istore_n 3, 1) := by decide +kernel
theorem dX4_openFrom_38 : decode cX4_openFrom 38 = .ok (.aload_n 0, 1) := by decide +kernel
theorem dX4_openFrom_39 : decode cX4_openFrom 39 = .ok (.getfield 53, 3) := by decide +kernel
theorem dX4_openFrom_42 : decode cX4_openFrom 42 = .ok (.iload 4, 2) := by decide +kernel
theorem dX4_openFrom_44 : decode cX4_openFrom 44 = .ok (.iaload, 1) := by decide +kernel
theorem dX4_openFrom_45 : decode cX4_openFrom 45 = .ok (.istore 4, 2) := by decide +kernel
theorem dX4_openFrom_47 : decode cX4_openFrom 47 = .ok (.goto (-37), 3) := by decide +kernel
theorem dX4_openFrom_50 : decode cX4_openFrom 50 = .ok (.iload_n 3, 1) := by decide +kernel
theorem dX4_openFrom_51 : decode cX4_openFrom 51 = .ok (.ireturn, 1) := by decide +kernel
theorem dX4_isTorn_0 : decode cX4_isTorn 0 = .ok (.aload_n 0, 1) := by decide +kernel
theorem dX4_isTorn_1 : decode cX4_isTorn 1 = .ok (.iconst 0, 1) := by decide +kernel
theorem dX4_isTorn_2 : decode cX4_isTorn 2 = .ok (.invokevirtual 147, 3) := by decide +kernel
theorem dX4_isTorn_5 : decode cX4_isTorn 5 = .ok (.istore_n 2, 1) := by decide +kernel
theorem dX4_isTorn_6 : decode cX4_isTorn 6 = .ok (.aload_n 0, 1) := by decide +kernel
theorem dX4_isTorn_7 : decode cX4_isTorn 7 = .ok (.getfield 22, 3) := by decide +kernel
theorem dX4_isTorn_10 : decode cX4_isTorn 10 = .ok (.iload_n 1, 1) := by decide +kernel
theorem dX4_isTorn_11 : decode cX4_isTorn 11 = .ok (.iaload, 1) := by decide +kernel
theorem dX4_isTorn_12 : decode cX4_isTorn 12 = .ok (.iload_n 2, 1) := by decide +kernel
theorem dX4_isTorn_13 : decode cX4_isTorn 13 = .ok (.iand, 1) := by decide +kernel
theorem dX4_isTorn_14 : decode cX4_isTorn 14 = .ok (.invokestatic 159, 3) := by decide +kernel
theorem dX4_isTorn_17 : decode cX4_isTorn 17 = .ok (.iconst 1, 1) := by decide +kernel
theorem dX4_isTorn_18 : decode cX4_isTorn 18 = .ok (.if_icmp .le 7, 3) := by decide +kernel
theorem dX4_isTorn_21 : decode cX4_isTorn 21 = .ok (.iconst 1, 1) := by decide +kernel
theorem dX4_isTorn_22 : decode cX4_isTorn 22 = .ok (.goto 4, 3) := by decide +kernel
theorem dX4_isTorn_25 : decode cX4_isTorn 25 = .ok (.iconst 0, 1) := by decide +kernel
theorem dX4_isTorn_26 : decode cX4_isTorn 26 = .ok (.istore_n 3, 1) := by decide +kernel
theorem dX4_isTorn_27 : decode cX4_isTorn 27 = .ok (.iconst 0, 1) := by decide +kernel
theorem dX4_isTorn_28 : decode cX4_isTorn 28 = .ok (.istore 4, 2) := by decide +kernel
theorem dX4_isTorn_30 : decode cX4_isTorn 30 = .ok (.iload 4, 2) := by decide +kernel
theorem dX4_isTorn_32 : decode cX4_isTorn 32 = .ok (.aload_n 0, 1) := by decide +kernel
theorem dX4_isTorn_33 : decode cX4_isTorn 33 = .ok (.getfield 85, 3) := by decide +kernel
theorem dX4_isTorn_36 : decode cX4_isTorn 36 = .ok (.if_icmp .ge 41, 3) := by decide +kernel
theorem dX4_isTorn_39 : decode cX4_isTorn 39 = .ok (.iload_n 3, 1) := by decide +kernel
theorem dX4_isTorn_40 : decode cX4_isTorn 40 = .ok (.ifCond .ne 25, 3) := by decide +kernel
theorem dX4_isTorn_43 : decode cX4_isTorn 43 = .ok (.aload_n 0, 1) := by decide +kernel
theorem dX4_isTorn_44 : decode cX4_isTorn 44 = .ok (.getfield 38, 3) := by decide +kernel
theorem dX4_isTorn_47 : decode cX4_isTorn 47 = .ok (.iload 4, 2) := by decide +kernel
theorem dX4_isTorn_49 : decode cX4_isTorn 49 = .ok (.iaload, 1) := by decide +kernel
theorem dX4_isTorn_50 : decode cX4_isTorn 50 = .ok (.iload_n 1, 1) := by decide +kernel
theorem dX4_isTorn_51 : decode cX4_isTorn 51 = .ok (.if_icmp .ne 18, 3) := by decide +kernel
theorem dX4_isTorn_54 : decode cX4_isTorn 54 = .ok (.aload_n 0, 1) := by decide +kernel
theorem dX4_isTorn_55 : decode cX4_isTorn 55 = .ok (.iload 4, 2) := by decide +kernel
theorem dX4_isTorn_57 : decode cX4_isTorn 57 = .ok (.iload_n 2, 1) := by decide +kernel
theorem dX4_isTorn_58 : decode cX4_isTorn 58 = .ok (.invokevirtual 211, 3) := by decide +kernel
theorem dX4_isTorn_61 : decode cX4_isTorn 61 = .ok (.iconst 1, 1) := by decide +kernel
theorem dX4_isTorn_62 : decode cX4_isTorn 62 = .ok (.if_icmp .le 7, 3) := by decide +kernel
theorem dX4_isTorn_65 : decode cX4_isTorn 65 = .ok (.iconst 1, 1) := by decide +kernel
theorem dX4_isTorn_66 : decode cX4_isTorn 66 = .ok (.goto 4, 3) := by decide +kernel
theorem dX4_isTorn_69 : decode cX4_isTorn 69 = .ok (.iconst 0, 1) := by decide +kernel
theorem dX4_isTorn_70 : decode cX4_isTorn 70 = .ok (.istore_n 3, 1) := by decide +kernel
theorem dX4_isTorn_71 : decode cX4_isTorn 71 = .ok (.iinc 4 1, 3) := by decide +kernel
theorem dX4_isTorn_74 : decode cX4_isTorn 74 = .ok (.goto (-44), 3) := by decide +kernel
theorem dX4_isTorn_77 : decode cX4_isTorn 77 = .ok (.iload_n 3, 1) := by decide +kernel
theorem dX4_isTorn_78 : decode cX4_isTorn 78 = .ok (.ireturn, 1) := by decide +kernel
theorem dX4_tornMany_0 : decode cX4_tornMany 0 = .ok (.iconst 0, 1) := by decide +kernel
theorem dX4_tornMany_1 : decode cX4_tornMany 1 = .ok (.istore_n 1, 1) := by decide +kernel
theorem dX4_tornMany_2 : decode cX4_tornMany 2 = .ok (.iconst 0, 1) := by decide +kernel
theorem dX4_tornMany_3 : decode cX4_tornMany 3 = .ok (.istore_n 2, 1) := by decide +kernel
theorem dX4_tornMany_4 : decode cX4_tornMany 4 = .ok (.iload_n 2, 1) := by decide +kernel
theorem dX4_tornMany_5 : decode cX4_tornMany 5 = .ok (.aload_n 0, 1) := by decide +kernel
theorem dX4_tornMany_6 : decode cX4_tornMany 6 = .ok (.getfield 82, 3) := by decide +kernel
theorem dX4_tornMany_9 : decode cX4_tornMany 9 = .ok (.if_icmp .ge 25, 3) := by decide +kernel
theorem dX4_tornMany_12 : decode cX4_tornMany 12 = .ok (.iload_n 1, 1) := by decide +kernel
theorem dX4_tornMany_13 : decode cX4_tornMany 13 = .ok (.aload_n 0, 1) := by decide +kernel
theorem dX4_tornMany_14 : decode cX4_tornMany 14 = .ok (.iload_n 2, 1) := by decide +kernel
theorem dX4_tornMany_15 : decode cX4_tornMany 15 = .ok (.invokevirtual 214, 3) := by decide +kernel
theorem dX4_tornMany_18 : decode cX4_tornMany 18 = .ok (.ifCond .eq 7, 3) := by decide +kernel
theorem dX4_tornMany_21 : decode cX4_tornMany 21 = .ok (.iconst 1, 1) := by decide +kernel
theorem dX4_tornMany_22 : decode cX4_tornMany 22 = .ok (.goto 4, 3) := by decide +kernel
theorem dX4_tornMany_25 : decode cX4_tornMany 25 = .ok (.iconst 0, 1) := by decide +kernel
theorem dX4_tornMany_26 : decode cX4_tornMany 26 = .ok (.iadd, 1) := by decide +kernel
theorem dX4_tornMany_27 : decode cX4_tornMany 27 = .ok (.istore_n 1, 1) := by decide +kernel
theorem dX4_tornMany_28 : decode cX4_tornMany 28 = .ok (.iinc 2 1, 3) := by decide +kernel
theorem dX4_tornMany_31 : decode cX4_tornMany 31 = .ok (.goto (-27), 3) := by decide +kernel
theorem dX4_tornMany_34 : decode cX4_tornMany 34 = .ok (.iload_n 1, 1) := by decide +kernel
theorem dX4_tornMany_35 : decode cX4_tornMany 35 = .ok (.ireturn, 1) := by decide +kernel
theorem dX4_howMany_0 : decode cX4_howMany 0 = .ok (.iload_n 1, 1) := by decide +kernel
theorem dX4_howMany_1 : decode cX4_howMany 1 = .ok (.tableswitch 104 0 8 #[51, 56, 61, 66, 71, 80, 89, 94, 99], 51) := by decide +kernel
theorem dX4_howMany_52 : decode cX4_howMany 52 = .ok (.aload_n 0, 1) := by decide +kernel
theorem dX4_howMany_53 : decode cX4_howMany 53 = .ok (.getfield 78, 3) := by decide +kernel
theorem dX4_howMany_56 : decode cX4_howMany 56 = .ok (.ireturn, 1) := by decide +kernel
theorem dX4_howMany_57 : decode cX4_howMany 57 = .ok (.aload_n 0, 1) := by decide +kernel
theorem dX4_howMany_58 : decode cX4_howMany 58 = .ok (.getfield 82, 3) := by decide +kernel
theorem dX4_howMany_61 : decode cX4_howMany 61 = .ok (.ireturn, 1) := by decide +kernel
theorem dX4_howMany_62 : decode cX4_howMany 62 = .ok (.aload_n 0, 1) := by decide +kernel
theorem dX4_howMany_63 : decode cX4_howMany 63 = .ok (.getfield 85, 3) := by decide +kernel
theorem dX4_howMany_66 : decode cX4_howMany 66 = .ok (.ireturn, 1) := by decide +kernel
theorem dX4_howMany_67 : decode cX4_howMany 67 = .ok (.aload_n 0, 1) := by decide +kernel
theorem dX4_howMany_68 : decode cX4_howMany 68 = .ok (.getfield 96, 3) := by decide +kernel
theorem dX4_howMany_71 : decode cX4_howMany 71 = .ok (.ireturn, 1) := by decide +kernel
theorem dX4_howMany_72 : decode cX4_howMany 72 = .ok (.aload_n 0, 1) := by decide +kernel
theorem dX4_howMany_73 : decode cX4_howMany 73 = .ok (.iconst 0, 1) := by decide +kernel
theorem dX4_howMany_74 : decode cX4_howMany 74 = .ok (.invokevirtual 147, 3) := by decide +kernel
theorem dX4_howMany_77 : decode cX4_howMany 77 = .ok (.invokestatic 159, 3) := by decide +kernel
theorem dX4_howMany_80 : decode cX4_howMany 80 = .ok (.ireturn, 1) := by decide +kernel
theorem dX4_howMany_81 : decode cX4_howMany 81 = .ok (.aload_n 0, 1) := by decide +kernel
theorem dX4_howMany_82 : decode cX4_howMany 82 = .ok (.iconst 1, 1) := by decide +kernel
theorem dX4_howMany_83 : decode cX4_howMany 83 = .ok (.invokevirtual 147, 3) := by decide +kernel
theorem dX4_howMany_86 : decode cX4_howMany 86 = .ok (.invokestatic 159, 3) := by decide +kernel
theorem dX4_howMany_89 : decode cX4_howMany 89 = .ok (.ireturn, 1) := by decide +kernel
theorem dX4_howMany_90 : decode cX4_howMany 90 = .ok (.aload_n 0, 1) := by decide +kernel
theorem dX4_howMany_91 : decode cX4_howMany 91 = .ok (.invokevirtual 217, 3) := by decide +kernel
theorem dX4_howMany_94 : decode cX4_howMany 94 = .ok (.ireturn, 1) := by decide +kernel
theorem dX4_howMany_95 : decode cX4_howMany 95 = .ok (.aload_n 0, 1) := by decide +kernel
theorem dX4_howMany_96 : decode cX4_howMany 96 = .ok (.getfield 103, 3) := by decide +kernel
theorem dX4_howMany_99 : decode cX4_howMany 99 = .ok (.ireturn, 1) := by decide +kernel
theorem dX4_howMany_100 : decode cX4_howMany 100 = .ok (.aload_n 0, 1) := by decide +kernel
theorem dX4_howMany_101 : decode cX4_howMany 101 = .ok (.getfield 150, 3) := by decide +kernel
theorem dX4_howMany_104 : decode cX4_howMany 104 = .ok (.ireturn, 1) := by decide +kernel
theorem dX4_howMany_105 : decode cX4_howMany 105 = .ok (.sipush (-1002), 3) := by decide +kernel
theorem dX4_howMany_108 : decode cX4_howMany 108 = .ok (.ireturn, 1) := by decide +kernel
theorem dX4_count_0 : decode cX4_count 0 = .ok (.aload_n 0, 1) := by decide +kernel
theorem dX4_count_1 : decode cX4_count 1 = .ok (.iload_n 1, 1) := by decide +kernel
theorem dX4_count_2 : decode cX4_count 2 = .ok (.invokevirtual 221, 3) := by decide +kernel
theorem dX4_count_5 : decode cX4_count 5 = .ok (.ireturn, 1) := by decide +kernel
theorem dX4_mix_0 : decode cX4_mix 0 = .ok (.aload_n 0, 1) := by decide +kernel
theorem dX4_mix_1 : decode cX4_mix 1 = .ok (.ldc2_w 224, 3) := by decide +kernel
theorem dX4_mix_4 : decode cX4_mix 4 = .ok (.aload_n 0, 1) := by decide +kernel
theorem dX4_mix_5 : decode cX4_mix 5 = .ok (.getfield 226, 3) := by decide +kernel
theorem dX4_mix_8 : decode cX4_mix 8 = .ok (.lmul, 1) := by decide +kernel
theorem dX4_mix_9 : decode cX4_mix 9 = .ok (.lload_n 1, 1) := by decide +kernel
theorem dX4_mix_10 : decode cX4_mix 10 = .ok (.ladd, 1) := by decide +kernel
theorem dX4_mix_11 : decode cX4_mix 11 = .ok (.putfield 226, 3) := by decide +kernel
theorem dX4_mix_14 : decode cX4_mix 14 = .ok (.return_, 1) := by decide +kernel
theorem dX4_mixView_0 : decode cX4_mixView 0 = .ok (.aload_n 0, 1) := by decide +kernel
theorem dX4_mixView_1 : decode cX4_mixView 1 = .ok (.aload_n 0, 1) := by decide +kernel
theorem dX4_mixView_2 : decode cX4_mixView 2 = .ok (.iload_n 1, 1) := by decide +kernel
theorem dX4_mixView_3 : decode cX4_mixView 3 = .ok (.invokevirtual 156, 3) := by decide +kernel
theorem dX4_mixView_6 : decode cX4_mixView 6 = .ok (.i2l, 1) := by decide +kernel
theorem dX4_mixView_7 : decode cX4_mixView 7 = .ok (.invokevirtual 230, 3) := by decide +kernel
theorem dX4_mixView_10 : decode cX4_mixView 10 = .ok (.iconst 0, 1) := by decide +kernel
theorem dX4_mixView_11 : decode cX4_mixView 11 = .ok (.istore_n 2, 1) := by decide +kernel
theorem dX4_mixView_12 : decode cX4_mixView 12 = .ok (.iload_n 2, 1) := by decide +kernel
theorem dX4_mixView_13 : decode cX4_mixView 13 = .ok (.aload_n 0, 1) := by decide +kernel
theorem dX4_mixView_14 : decode cX4_mixView 14 = .ok (.getfield 120, 3) := by decide +kernel
theorem dX4_mixView_17 : decode cX4_mixView 17 = .ok (.if_icmp .ge 39, 3) := by decide +kernel
theorem dX4_mixView_20 : decode cX4_mixView 20 = .ok (.iconst 0, 1) := by decide +kernel
theorem dX4_mixView_21 : decode cX4_mixView 21 = .ok (.istore_n 3, 1) := by decide +kernel
theorem dX4_mixView_22 : decode cX4_mixView 22 = .ok (.iload_n 3, 1) := by decide +kernel
theorem dX4_mixView_23 : decode cX4_mixView 23 = .ok (.bipush 6, 2) := by decide +kernel
theorem dX4_mixView_25 : decode cX4_mixView 25 = .ok (.if_icmp .ge 25, 3) := by decide +kernel
theorem dX4_mixView_28 : decode cX4_mixView 28 = .ok (.aload_n 0, 1) := by decide +kernel
theorem dX4_mixView_29 : decode cX4_mixView 29 = .ok (.aload_n 0, 1) := by decide +kernel
theorem dX4_mixView_30 : decode cX4_mixView 30 = .ok (.aload_n 0, 1) := by decide +kernel
theorem dX4_mixView_31 : decode cX4_mixView 31 = .ok (.getfield 56, 3) := by decide +kernel
theorem dX4_mixView_34 : decode cX4_mixView 34 = .ok (.iload_n 2, 1) := by decide +kernel
theorem dX4_mixView_35 : decode cX4_mixView 35 = .ok (.iaload, 1) := by decide +kernel
theorem dX4_mixView_36 : decode cX4_mixView 36 = .ok (.iload_n 3, 1) := by decide +kernel
theorem dX4_mixView_37 : decode cX4_mixView 37 = .ok (.invokevirtual 165, 3) := by decide +kernel
theorem dX4_mixView_40 : decode cX4_mixView 40 = .ok (.i2l, 1) := by decide +kernel
theorem dX4_mixView_41 : decode cX4_mixView 41 = .ok (.invokevirtual 230, 3) := by decide +kernel
theorem dX4_mixView_44 : decode cX4_mixView 44 = .ok (.iinc 3 1, 3) := by decide +kernel
theorem dX4_mixView_47 : decode cX4_mixView 47 = .ok (.goto (-25), 3) := by decide +kernel
theorem dX4_mixView_50 : decode cX4_mixView 50 = .ok (.iinc 2 1, 3) := by decide +kernel
theorem dX4_mixView_53 : decode cX4_mixView 53 = .ok (.goto (-41), 3) := by decide +kernel
theorem dX4_mixView_56 : decode cX4_mixView 56 = .ok (.return_, 1) := by decide +kernel
theorem dX4_mixSpans_0 : decode cX4_mixSpans 0 = .ok (.aload_n 0, 1) := by decide +kernel
theorem dX4_mixSpans_1 : decode cX4_mixSpans 1 = .ok (.invokevirtual 196, 3) := by decide +kernel
theorem dX4_mixSpans_4 : decode cX4_mixSpans 4 = .ok (.aload_n 0, 1) := by decide +kernel
theorem dX4_mixSpans_5 : decode cX4_mixSpans 5 = .ok (.aload_n 0, 1) := by decide +kernel
theorem dX4_mixSpans_6 : decode cX4_mixSpans 6 = .ok (.getfield 193, 3) := by decide +kernel
theorem dX4_mixSpans_9 : decode cX4_mixSpans 9 = .ok (.i2l, 1) := by decide +kernel
theorem dX4_mixSpans_10 : decode cX4_mixSpans 10 = .ok (.invokevirtual 230, 3) := by decide +kernel
theorem dX4_mixSpans_13 : decode cX4_mixSpans 13 = .ok (.iconst 0, 1) := by decide +kernel
theorem dX4_mixSpans_14 : decode cX4_mixSpans 14 = .ok (.istore_n 1, 1) := by decide +kernel
theorem dX4_mixSpans_15 : decode cX4_mixSpans 15 = .ok (.iload_n 1, 1) := by decide +kernel
theorem dX4_mixSpans_16 : decode cX4_mixSpans 16 = .ok (.aload_n 0, 1) := by decide +kernel
theorem dX4_mixSpans_17 : decode cX4_mixSpans 17 = .ok (.getfield 193, 3) := by decide +kernel
theorem dX4_mixSpans_20 : decode cX4_mixSpans 20 = .ok (.if_icmp .ge 42, 3) := by decide +kernel
theorem dX4_mixSpans_23 : decode cX4_mixSpans 23 = .ok (.aload_n 0, 1) := by decide +kernel
theorem dX4_mixSpans_24 : decode cX4_mixSpans 24 = .ok (.aload_n 0, 1) := by decide +kernel
theorem dX4_mixSpans_25 : decode cX4_mixSpans 25 = .ok (.getfield 65, 3) := by decide +kernel
theorem dX4_mixSpans_28 : decode cX4_mixSpans 28 = .ok (.iload_n 1, 1) := by decide +kernel
theorem dX4_mixSpans_29 : decode cX4_mixSpans 29 = .ok (.iaload, 1) := by decide +kernel
theorem dX4_mixSpans_30 : decode cX4_mixSpans 30 = .ok (.i2l, 1) := by decide +kernel
theorem dX4_mixSpans_31 : decode cX4_mixSpans 31 = .ok (.invokevirtual 230, 3) := by decide +kernel
theorem dX4_mixSpans_34 : decode cX4_mixSpans 34 = .ok (.aload_n 0, 1) := by decide +kernel
theorem dX4_mixSpans_35 : decode cX4_mixSpans 35 = .ok (.aload_n 0, 1) := by decide +kernel
theorem dX4_mixSpans_36 : decode cX4_mixSpans 36 = .ok (.getfield 68, 3) := by decide +kernel
theorem dX4_mixSpans_39 : decode cX4_mixSpans 39 = .ok (.iload_n 1, 1) := by decide +kernel
theorem dX4_mixSpans_40 : decode cX4_mixSpans 40 = .ok (.iaload, 1) := by decide +kernel
theorem dX4_mixSpans_41 : decode cX4_mixSpans 41 = .ok (.i2l, 1) := by decide +kernel
theorem dX4_mixSpans_42 : decode cX4_mixSpans 42 = .ok (.invokevirtual 230, 3) := by decide +kernel
theorem dX4_mixSpans_45 : decode cX4_mixSpans 45 = .ok (.aload_n 0, 1) := by decide +kernel
theorem dX4_mixSpans_46 : decode cX4_mixSpans 46 = .ok (.aload_n 0, 1) := by decide +kernel
theorem dX4_mixSpans_47 : decode cX4_mixSpans 47 = .ok (.getfield 71, 3) := by decide +kernel
theorem dX4_mixSpans_50 : decode cX4_mixSpans 50 = .ok (.iload_n 1, 1) := by decide +kernel
theorem dX4_mixSpans_51 : decode cX4_mixSpans 51 = .ok (.iaload, 1) := by decide +kernel
theorem dX4_mixSpans_52 : decode cX4_mixSpans 52 = .ok (.i2l, 1) := by decide +kernel
theorem dX4_mixSpans_53 : decode cX4_mixSpans 53 = .ok (.invokevirtual 230, 3) := by decide +kernel
theorem dX4_mixSpans_56 : decode cX4_mixSpans 56 = .ok (.iinc 1 1, 3) := by decide +kernel
theorem dX4_mixSpans_59 : decode cX4_mixSpans 59 = .ok (.goto (-44), 3) := by decide +kernel
theorem dX4_mixSpans_62 : decode cX4_mixSpans 62 = .ok (.return_, 1) := by decide +kernel
theorem dX4_digest_0 : decode cX4_digest 0 = .ok (.aload_n 0, 1) := by decide +kernel
theorem dX4_digest_1 : decode cX4_digest 1 = .ok (.ldc2_w 234, 3) := by decide +kernel
theorem dX4_digest_4 : decode cX4_digest 4 = .ok (.putfield 226, 3) := by decide +kernel
theorem dX4_digest_7 : decode cX4_digest 7 = .ok (.iconst 0, 1) := by decide +kernel
theorem dX4_digest_8 : decode cX4_digest 8 = .ok (.istore_n 1, 1) := by decide +kernel
theorem dX4_digest_9 : decode cX4_digest 9 = .ok (.iload_n 1, 1) := by decide +kernel
theorem dX4_digest_10 : decode cX4_digest 10 = .ok (.bipush 6, 2) := by decide +kernel
theorem dX4_digest_12 : decode cX4_digest 12 = .ok (.if_icmp .ge 14, 3) := by decide +kernel
theorem dX4_digest_15 : decode cX4_digest 15 = .ok (.aload_n 0, 1) := by decide +kernel
theorem dX4_digest_16 : decode cX4_digest 16 = .ok (.iload_n 1, 1) := by decide +kernel
theorem dX4_digest_17 : decode cX4_digest 17 = .ok (.invokevirtual 236, 3) := by decide +kernel
theorem dX4_digest_20 : decode cX4_digest 20 = .ok (.iinc 1 1, 3) := by decide +kernel
theorem dX4_digest_23 : decode cX4_digest 23 = .ok (.goto (-14), 3) := by decide +kernel
theorem dX4_digest_26 : decode cX4_digest 26 = .ok (.iconst 0, 1) := by decide +kernel
theorem dX4_digest_27 : decode cX4_digest 27 = .ok (.istore_n 1, 1) := by decide +kernel
theorem dX4_digest_28 : decode cX4_digest 28 = .ok (.iload_n 1, 1) := by decide +kernel
theorem dX4_digest_29 : decode cX4_digest 29 = .ok (.iconst 4, 1) := by decide +kernel
theorem dX4_digest_30 : decode cX4_digest 30 = .ok (.aload_n 0, 1) := by decide +kernel
theorem dX4_digest_31 : decode cX4_digest 31 = .ok (.getfield 85, 3) := by decide +kernel
theorem dX4_digest_34 : decode cX4_digest 34 = .ok (.imul, 1) := by decide +kernel
theorem dX4_digest_35 : decode cX4_digest 35 = .ok (.if_icmp .ge 29, 3) := by decide +kernel
theorem dX4_digest_38 : decode cX4_digest 38 = .ok (.aload_n 0, 1) := by decide +kernel
theorem dX4_digest_39 : decode cX4_digest 39 = .ok (.aload_n 0, 1) := by decide +kernel
theorem dX4_digest_40 : decode cX4_digest 40 = .ok (.aload_n 0, 1) := by decide +kernel
theorem dX4_digest_41 : decode cX4_digest 41 = .ok (.getfield 47, 3) := by decide +kernel
theorem dX4_digest_44 : decode cX4_digest 44 = .ok (.iload_n 1, 1) := by decide +kernel
theorem dX4_digest_45 : decode cX4_digest 45 = .ok (.iconst 4, 1) := by decide +kernel
theorem dX4_digest_46 : decode cX4_digest 46 = .ok (.idiv, 1) := by decide +kernel
theorem dX4_digest_47 : decode cX4_digest 47 = .ok (.iaload, 1) := by decide +kernel
theorem dX4_digest_48 : decode cX4_digest 48 = .ok (.iload_n 1, 1) := by decide +kernel
theorem dX4_digest_49 : decode cX4_digest 49 = .ok (.iconst 4, 1) := by decide +kernel
theorem dX4_digest_50 : decode cX4_digest 50 = .ok (.irem, 1) := by decide +kernel
theorem dX4_digest_51 : decode cX4_digest 51 = .ok (.invokevirtual 174, 3) := by decide +kernel
theorem dX4_digest_54 : decode cX4_digest 54 = .ok (.i2l, 1) := by decide +kernel
theorem dX4_digest_55 : decode cX4_digest 55 = .ok (.invokevirtual 230, 3) := by decide +kernel
theorem dX4_digest_58 : decode cX4_digest 58 = .ok (.iinc 1 1, 3) := by decide +kernel
theorem dX4_digest_61 : decode cX4_digest 61 = .ok (.goto (-33), 3) := by decide +kernel
theorem dX4_digest_64 : decode cX4_digest 64 = .ok (.iconst 0, 1) := by decide +kernel
theorem dX4_digest_65 : decode cX4_digest 65 = .ok (.istore_n 1, 1) := by decide +kernel
theorem dX4_digest_66 : decode cX4_digest 66 = .ok (.iload_n 1, 1) := by decide +kernel
theorem dX4_digest_67 : decode cX4_digest 67 = .ok (.bipush 7, 2) := by decide +kernel
theorem dX4_digest_69 : decode cX4_digest 69 = .ok (.aload_n 0, 1) := by decide +kernel
theorem dX4_digest_70 : decode cX4_digest 70 = .ok (.getfield 96, 3) := by decide +kernel
theorem dX4_digest_73 : decode cX4_digest 73 = .ok (.imul, 1) := by decide +kernel
theorem dX4_digest_74 : decode cX4_digest 74 = .ok (.if_icmp .ge 26, 3) := by decide +kernel
theorem dX4_digest_77 : decode cX4_digest 77 = .ok (.aload_n 0, 1) := by decide +kernel
theorem dX4_digest_78 : decode cX4_digest 78 = .ok (.aload_n 0, 1) := by decide +kernel
theorem dX4_digest_79 : decode cX4_digest 79 = .ok (.iload_n 1, 1) := by decide +kernel
theorem dX4_digest_80 : decode cX4_digest 80 = .ok (.bipush 7, 2) := by decide +kernel
theorem dX4_digest_82 : decode cX4_digest 82 = .ok (.idiv, 1) := by decide +kernel
theorem dX4_digest_83 : decode cX4_digest 83 = .ok (.iload_n 1, 1) := by decide +kernel
theorem dX4_digest_84 : decode cX4_digest 84 = .ok (.bipush 7, 2) := by decide +kernel
theorem dX4_digest_86 : decode cX4_digest 86 = .ok (.irem, 1) := by decide +kernel
theorem dX4_digest_87 : decode cX4_digest 87 = .ok (.invokevirtual 190, 3) := by decide +kernel
theorem dX4_digest_90 : decode cX4_digest 90 = .ok (.i2l, 1) := by decide +kernel
theorem dX4_digest_91 : decode cX4_digest 91 = .ok (.invokevirtual 230, 3) := by decide +kernel
theorem dX4_digest_94 : decode cX4_digest 94 = .ok (.iinc 1 1, 3) := by decide +kernel
theorem dX4_digest_97 : decode cX4_digest 97 = .ok (.goto (-31), 3) := by decide +kernel
theorem dX4_digest_100 : decode cX4_digest 100 = .ok (.aload_n 0, 1) := by decide +kernel
theorem dX4_digest_101 : decode cX4_digest 101 = .ok (.invokevirtual 239, 3) := by decide +kernel
theorem dX4_digest_104 : decode cX4_digest 104 = .ok (.aload_n 0, 1) := by decide +kernel
theorem dX4_digest_105 : decode cX4_digest 105 = .ok (.invokevirtual 208, 3) := by decide +kernel
theorem dX4_digest_108 : decode cX4_digest 108 = .ok (.aload_n 0, 1) := by decide +kernel
theorem dX4_digest_109 : decode cX4_digest 109 = .ok (.aload_n 0, 1) := by decide +kernel
theorem dX4_digest_110 : decode cX4_digest 110 = .ok (.getfield 199, 3) := by decide +kernel
theorem dX4_digest_113 : decode cX4_digest 113 = .ok (.i2l, 1) := by decide +kernel
theorem dX4_digest_114 : decode cX4_digest 114 = .ok (.invokevirtual 230, 3) := by decide +kernel
theorem dX4_digest_117 : decode cX4_digest 117 = .ok (.aload_n 0, 1) := by decide +kernel
theorem dX4_digest_118 : decode cX4_digest 118 = .ok (.aload_n 0, 1) := by decide +kernel
theorem dX4_digest_119 : decode cX4_digest 119 = .ok (.getfield 202, 3) := by decide +kernel
theorem dX4_digest_122 : decode cX4_digest 122 = .ok (.i2l, 1) := by decide +kernel
theorem dX4_digest_123 : decode cX4_digest 123 = .ok (.invokevirtual 230, 3) := by decide +kernel
theorem dX4_digest_126 : decode cX4_digest 126 = .ok (.iconst 0, 1) := by decide +kernel
theorem dX4_digest_127 : decode cX4_digest 127 = .ok (.istore_n 1, 1) := by decide +kernel
theorem dX4_digest_128 : decode cX4_digest 128 = .ok (.iload_n 1, 1) := by decide +kernel
theorem dX4_digest_129 : decode cX4_digest 129 = .ok (.aload_n 0, 1) := by decide +kernel
theorem dX4_digest_130 : decode cX4_digest 130 = .ok (.getfield 78, 3) := by decide +kernel
theorem dX4_digest_133 : decode cX4_digest 133 = .ok (.if_icmp .ge 20, 3) := by decide +kernel
theorem dX4_digest_136 : decode cX4_digest 136 = .ok (.aload_n 0, 1) := by decide +kernel
theorem dX4_digest_137 : decode cX4_digest 137 = .ok (.aload_n 0, 1) := by decide +kernel
theorem dX4_digest_138 : decode cX4_digest 138 = .ok (.getfield 7, 3) := by decide +kernel
theorem dX4_digest_141 : decode cX4_digest 141 = .ok (.iload_n 1, 1) := by decide +kernel
theorem dX4_digest_142 : decode cX4_digest 142 = .ok (.iaload, 1) := by decide +kernel
theorem dX4_digest_143 : decode cX4_digest 143 = .ok (.i2l, 1) := by decide +kernel
theorem dX4_digest_144 : decode cX4_digest 144 = .ok (.invokevirtual 230, 3) := by decide +kernel
theorem dX4_digest_147 : decode cX4_digest 147 = .ok (.iinc 1 1, 3) := by decide +kernel
theorem dX4_digest_150 : decode cX4_digest 150 = .ok (.goto (-22), 3) := by decide +kernel
theorem dX4_digest_153 : decode cX4_digest 153 = .ok (.iconst 0, 1) := by decide +kernel
theorem dX4_digest_154 : decode cX4_digest 154 = .ok (.istore_n 1, 1) := by decide +kernel
theorem dX4_digest_155 : decode cX4_digest 155 = .ok (.iload_n 1, 1) := by decide +kernel
theorem dX4_digest_156 : decode cX4_digest 156 = .ok (.bipush 9, 2) := by decide +kernel
theorem dX4_digest_158 : decode cX4_digest 158 = .ok (.if_icmp .ge 19, 3) := by decide +kernel
theorem dX4_digest_161 : decode cX4_digest 161 = .ok (.aload_n 0, 1) := by decide +kernel
theorem dX4_digest_162 : decode cX4_digest 162 = .ok (.aload_n 0, 1) := by decide +kernel
theorem dX4_digest_163 : decode cX4_digest 163 = .ok (.iload_n 1, 1) := by decide +kernel
theorem dX4_digest_164 : decode cX4_digest 164 = .ok (.invokevirtual 221, 3) := by decide +kernel
theorem dX4_digest_167 : decode cX4_digest 167 = .ok (.i2l, 1) := by decide +kernel
theorem dX4_digest_168 : decode cX4_digest 168 = .ok (.invokevirtual 230, 3) := by decide +kernel
theorem dX4_digest_171 : decode cX4_digest 171 = .ok (.iinc 1 1, 3) := by decide +kernel
theorem dX4_digest_174 : decode cX4_digest 174 = .ok (.goto (-19), 3) := by decide +kernel
theorem dX4_digest_177 : decode cX4_digest 177 = .ok (.aload_n 0, 1) := by decide +kernel
theorem dX4_digest_178 : decode cX4_digest 178 = .ok (.getfield 226, 3) := by decide +kernel
theorem dX4_digest_181 : decode cX4_digest 181 = .ok (.lreturn, 1) := by decide +kernel
theorem dJ6_bitCount_0f7a4_0 : decode cJ6_bitCount_0f7a4 0 = .ok (.iload_n 0, 1) := by decide +kernel
theorem dJ6_bitCount_0f7a4_1 : decode cJ6_bitCount_0f7a4 1 = .ok (.iload_n 0, 1) := by decide +kernel
theorem dJ6_bitCount_0f7a4_2 : decode cJ6_bitCount_0f7a4 2 = .ok (.iconst 1, 1) := by decide +kernel
theorem dJ6_bitCount_0f7a4_3 : decode cJ6_bitCount_0f7a4 3 = .ok (.iushr, 1) := by decide +kernel
theorem dJ6_bitCount_0f7a4_4 : decode cJ6_bitCount_0f7a4 4 = .ok (.ldc_w 265, 3) := by decide +kernel
theorem dJ6_bitCount_0f7a4_7 : decode cJ6_bitCount_0f7a4 7 = .ok (.iand, 1) := by decide +kernel
theorem dJ6_bitCount_0f7a4_8 : decode cJ6_bitCount_0f7a4 8 = .ok (.isub, 1) := by decide +kernel
theorem dJ6_bitCount_0f7a4_9 : decode cJ6_bitCount_0f7a4 9 = .ok (.istore_n 0, 1) := by decide +kernel
theorem dJ6_bitCount_0f7a4_10 : decode cJ6_bitCount_0f7a4 10 = .ok (.iload_n 0, 1) := by decide +kernel
theorem dJ6_bitCount_0f7a4_11 : decode cJ6_bitCount_0f7a4 11 = .ok (.ldc_w 266, 3) := by decide +kernel
theorem dJ6_bitCount_0f7a4_14 : decode cJ6_bitCount_0f7a4 14 = .ok (.iand, 1) := by decide +kernel
theorem dJ6_bitCount_0f7a4_15 : decode cJ6_bitCount_0f7a4 15 = .ok (.iload_n 0, 1) := by decide +kernel
theorem dJ6_bitCount_0f7a4_16 : decode cJ6_bitCount_0f7a4 16 = .ok (.iconst 2, 1) := by decide +kernel
theorem dJ6_bitCount_0f7a4_17 : decode cJ6_bitCount_0f7a4 17 = .ok (.iushr, 1) := by decide +kernel
theorem dJ6_bitCount_0f7a4_18 : decode cJ6_bitCount_0f7a4 18 = .ok (.ldc_w 266, 3) := by decide +kernel
theorem dJ6_bitCount_0f7a4_21 : decode cJ6_bitCount_0f7a4 21 = .ok (.iand, 1) := by decide +kernel
theorem dJ6_bitCount_0f7a4_22 : decode cJ6_bitCount_0f7a4 22 = .ok (.iadd, 1) := by decide +kernel
theorem dJ6_bitCount_0f7a4_23 : decode cJ6_bitCount_0f7a4 23 = .ok (.istore_n 0, 1) := by decide +kernel
theorem dJ6_bitCount_0f7a4_24 : decode cJ6_bitCount_0f7a4 24 = .ok (.iload_n 0, 1) := by decide +kernel
theorem dJ6_bitCount_0f7a4_25 : decode cJ6_bitCount_0f7a4 25 = .ok (.iload_n 0, 1) := by decide +kernel
theorem dJ6_bitCount_0f7a4_26 : decode cJ6_bitCount_0f7a4 26 = .ok (.iconst 4, 1) := by decide +kernel
theorem dJ6_bitCount_0f7a4_27 : decode cJ6_bitCount_0f7a4 27 = .ok (.iushr, 1) := by decide +kernel
theorem dJ6_bitCount_0f7a4_28 : decode cJ6_bitCount_0f7a4 28 = .ok (.iadd, 1) := by decide +kernel
theorem dJ6_bitCount_0f7a4_29 : decode cJ6_bitCount_0f7a4 29 = .ok (.ldc_w 267, 3) := by decide +kernel
theorem dJ6_bitCount_0f7a4_32 : decode cJ6_bitCount_0f7a4 32 = .ok (.iand, 1) := by decide +kernel
theorem dJ6_bitCount_0f7a4_33 : decode cJ6_bitCount_0f7a4 33 = .ok (.istore_n 0, 1) := by decide +kernel
theorem dJ6_bitCount_0f7a4_34 : decode cJ6_bitCount_0f7a4 34 = .ok (.iload_n 0, 1) := by decide +kernel
theorem dJ6_bitCount_0f7a4_35 : decode cJ6_bitCount_0f7a4 35 = .ok (.iload_n 0, 1) := by decide +kernel
theorem dJ6_bitCount_0f7a4_36 : decode cJ6_bitCount_0f7a4 36 = .ok (.bipush 8, 2) := by decide +kernel
theorem dJ6_bitCount_0f7a4_38 : decode cJ6_bitCount_0f7a4 38 = .ok (.iushr, 1) := by decide +kernel
theorem dJ6_bitCount_0f7a4_39 : decode cJ6_bitCount_0f7a4 39 = .ok (.iadd, 1) := by decide +kernel
theorem dJ6_bitCount_0f7a4_40 : decode cJ6_bitCount_0f7a4 40 = .ok (.istore_n 0, 1) := by decide +kernel
theorem dJ6_bitCount_0f7a4_41 : decode cJ6_bitCount_0f7a4 41 = .ok (.iload_n 0, 1) := by decide +kernel
theorem dJ6_bitCount_0f7a4_42 : decode cJ6_bitCount_0f7a4 42 = .ok (.iload_n 0, 1) := by decide +kernel
theorem dJ6_bitCount_0f7a4_43 : decode cJ6_bitCount_0f7a4 43 = .ok (.bipush 16, 2) := by decide +kernel
theorem dJ6_bitCount_0f7a4_45 : decode cJ6_bitCount_0f7a4 45 = .ok (.iushr, 1) := by decide +kernel
theorem dJ6_bitCount_0f7a4_46 : decode cJ6_bitCount_0f7a4 46 = .ok (.iadd, 1) := by decide +kernel
theorem dJ6_bitCount_0f7a4_47 : decode cJ6_bitCount_0f7a4 47 = .ok (.istore_n 0, 1) := by decide +kernel
theorem dJ6_bitCount_0f7a4_48 : decode cJ6_bitCount_0f7a4 48 = .ok (.iload_n 0, 1) := by decide +kernel
theorem dJ6_bitCount_0f7a4_49 : decode cJ6_bitCount_0f7a4 49 = .ok (.bipush 63, 2) := by decide +kernel
theorem dJ6_bitCount_0f7a4_51 : decode cJ6_bitCount_0f7a4 51 = .ok (.iand, 1) := by decide +kernel
theorem dJ6_bitCount_0f7a4_52 : decode cJ6_bitCount_0f7a4 52 = .ok (.ireturn, 1) := by decide +kernel
theorem dJ13_bitCount_95d88_0 : decode cJ13_bitCount_95d88 0 = .ok (.lload_n 0, 1) := by decide +kernel
theorem dJ13_bitCount_95d88_1 : decode cJ13_bitCount_95d88 1 = .ok (.lload_n 0, 1) := by decide +kernel
theorem dJ13_bitCount_95d88_2 : decode cJ13_bitCount_95d88 2 = .ok (.iconst 1, 1) := by decide +kernel
theorem dJ13_bitCount_95d88_3 : decode cJ13_bitCount_95d88 3 = .ok (.lushr, 1) := by decide +kernel
theorem dJ13_bitCount_95d88_4 : decode cJ13_bitCount_95d88 4 = .ok (.ldc2_w 314, 3) := by decide +kernel
theorem dJ13_bitCount_95d88_7 : decode cJ13_bitCount_95d88 7 = .ok (.land, 1) := by decide +kernel
theorem dJ13_bitCount_95d88_8 : decode cJ13_bitCount_95d88 8 = .ok (.lsub, 1) := by decide +kernel
theorem dJ13_bitCount_95d88_9 : decode cJ13_bitCount_95d88 9 = .ok (.lstore_n 0, 1) := by decide +kernel
theorem dJ13_bitCount_95d88_10 : decode cJ13_bitCount_95d88 10 = .ok (.lload_n 0, 1) := by decide +kernel
theorem dJ13_bitCount_95d88_11 : decode cJ13_bitCount_95d88 11 = .ok (.ldc2_w 316, 3) := by decide +kernel
theorem dJ13_bitCount_95d88_14 : decode cJ13_bitCount_95d88 14 = .ok (.land, 1) := by decide +kernel
theorem dJ13_bitCount_95d88_15 : decode cJ13_bitCount_95d88 15 = .ok (.lload_n 0, 1) := by decide +kernel
theorem dJ13_bitCount_95d88_16 : decode cJ13_bitCount_95d88 16 = .ok (.iconst 2, 1) := by decide +kernel
theorem dJ13_bitCount_95d88_17 : decode cJ13_bitCount_95d88 17 = .ok (.lushr, 1) := by decide +kernel
theorem dJ13_bitCount_95d88_18 : decode cJ13_bitCount_95d88 18 = .ok (.ldc2_w 316, 3) := by decide +kernel
theorem dJ13_bitCount_95d88_21 : decode cJ13_bitCount_95d88 21 = .ok (.land, 1) := by decide +kernel
theorem dJ13_bitCount_95d88_22 : decode cJ13_bitCount_95d88 22 = .ok (.ladd, 1) := by decide +kernel
theorem dJ13_bitCount_95d88_23 : decode cJ13_bitCount_95d88 23 = .ok (.lstore_n 0, 1) := by decide +kernel
theorem dJ13_bitCount_95d88_24 : decode cJ13_bitCount_95d88 24 = .ok (.lload_n 0, 1) := by decide +kernel
theorem dJ13_bitCount_95d88_25 : decode cJ13_bitCount_95d88 25 = .ok (.lload_n 0, 1) := by decide +kernel
theorem dJ13_bitCount_95d88_26 : decode cJ13_bitCount_95d88 26 = .ok (.iconst 4, 1) := by decide +kernel
theorem dJ13_bitCount_95d88_27 : decode cJ13_bitCount_95d88 27 = .ok (.lushr, 1) := by decide +kernel
theorem dJ13_bitCount_95d88_28 : decode cJ13_bitCount_95d88 28 = .ok (.ladd, 1) := by decide +kernel
theorem dJ13_bitCount_95d88_29 : decode cJ13_bitCount_95d88 29 = .ok (.ldc2_w 318, 3) := by decide +kernel
theorem dJ13_bitCount_95d88_32 : decode cJ13_bitCount_95d88 32 = .ok (.land, 1) := by decide +kernel
theorem dJ13_bitCount_95d88_33 : decode cJ13_bitCount_95d88 33 = .ok (.lstore_n 0, 1) := by decide +kernel
theorem dJ13_bitCount_95d88_34 : decode cJ13_bitCount_95d88 34 = .ok (.lload_n 0, 1) := by decide +kernel
theorem dJ13_bitCount_95d88_35 : decode cJ13_bitCount_95d88 35 = .ok (.lload_n 0, 1) := by decide +kernel
theorem dJ13_bitCount_95d88_36 : decode cJ13_bitCount_95d88 36 = .ok (.bipush 8, 2) := by decide +kernel
theorem dJ13_bitCount_95d88_38 : decode cJ13_bitCount_95d88 38 = .ok (.lushr, 1) := by decide +kernel
theorem dJ13_bitCount_95d88_39 : decode cJ13_bitCount_95d88 39 = .ok (.ladd, 1) := by decide +kernel
theorem dJ13_bitCount_95d88_40 : decode cJ13_bitCount_95d88 40 = .ok (.lstore_n 0, 1) := by decide +kernel
theorem dJ13_bitCount_95d88_41 : decode cJ13_bitCount_95d88 41 = .ok (.lload_n 0, 1) := by decide +kernel
theorem dJ13_bitCount_95d88_42 : decode cJ13_bitCount_95d88 42 = .ok (.lload_n 0, 1) := by decide +kernel
theorem dJ13_bitCount_95d88_43 : decode cJ13_bitCount_95d88 43 = .ok (.bipush 16, 2) := by decide +kernel
theorem dJ13_bitCount_95d88_45 : decode cJ13_bitCount_95d88 45 = .ok (.lushr, 1) := by decide +kernel
theorem dJ13_bitCount_95d88_46 : decode cJ13_bitCount_95d88 46 = .ok (.ladd, 1) := by decide +kernel
theorem dJ13_bitCount_95d88_47 : decode cJ13_bitCount_95d88 47 = .ok (.lstore_n 0, 1) := by decide +kernel
theorem dJ13_bitCount_95d88_48 : decode cJ13_bitCount_95d88 48 = .ok (.lload_n 0, 1) := by decide +kernel
theorem dJ13_bitCount_95d88_49 : decode cJ13_bitCount_95d88 49 = .ok (.lload_n 0, 1) := by decide +kernel
theorem dJ13_bitCount_95d88_50 : decode cJ13_bitCount_95d88 50 = .ok (.bipush 32, 2) := by decide +kernel
theorem dJ13_bitCount_95d88_52 : decode cJ13_bitCount_95d88 52 = .ok (.lushr, 1) := by decide +kernel
theorem dJ13_bitCount_95d88_53 : decode cJ13_bitCount_95d88 53 = .ok (.ladd, 1) := by decide +kernel
theorem dJ13_bitCount_95d88_54 : decode cJ13_bitCount_95d88 54 = .ok (.lstore_n 0, 1) := by decide +kernel
theorem dJ13_bitCount_95d88_55 : decode cJ13_bitCount_95d88 55 = .ok (.lload_n 0, 1) := by decide +kernel
theorem dJ13_bitCount_95d88_56 : decode cJ13_bitCount_95d88 56 = .ok (.l2i, 1) := by decide +kernel
theorem dJ13_bitCount_95d88_57 : decode cJ13_bitCount_95d88 57 = .ok (.bipush 127, 2) := by decide +kernel
theorem dJ13_bitCount_95d88_59 : decode cJ13_bitCount_95d88 59 = .ok (.iand, 1) := by decide +kernel
theorem dJ13_bitCount_95d88_60 : decode cJ13_bitCount_95d88 60 = .ok (.ireturn, 1) := by decide +kernel
theorem dL_law_0 : decode cL_law 0 = .ok (.new 7, 3) := by decide +kernel
theorem dL_law_3 : decode cL_law 3 = .ok (.dup, 1) := by decide +kernel
theorem dL_law_4 : decode cL_law 4 = .ok (.invokespecial 9, 3) := by decide +kernel
theorem dL_law_7 : decode cL_law 7 = .ok (.astore_n 1, 1) := by decide +kernel
theorem dL_law_8 : decode cL_law 8 = .ok (.new 10, 3) := by decide +kernel
theorem dL_law_11 : decode cL_law 11 = .ok (.dup, 1) := by decide +kernel
theorem dL_law_12 : decode cL_law 12 = .ok (.invokespecial 12, 3) := by decide +kernel
theorem dL_law_15 : decode cL_law 15 = .ok (.astore_n 2, 1) := by decide +kernel
theorem dL_law_16 : decode cL_law 16 = .ok (.iconst 0, 1) := by decide +kernel
theorem dL_law_17 : decode cL_law 17 = .ok (.istore_n 3, 1) := by decide +kernel
theorem dL_law_18 : decode cL_law 18 = .ok (.iload_n 3, 1) := by decide +kernel
theorem dL_law_19 : decode cL_law 19 = .ok (.aload_n 0, 1) := by decide +kernel
theorem dL_law_20 : decode cL_law 20 = .ok (.arraylength, 1) := by decide +kernel
theorem dL_law_21 : decode cL_law 21 = .ok (.iconst 5, 1) := by decide +kernel
theorem dL_law_22 : decode cL_law 22 = .ok (.isub, 1) := by decide +kernel
theorem dL_law_23 : decode cL_law 23 = .ok (.if_icmp .gt 597, 3) := by decide +kernel
theorem dL_law_26 : decode cL_law 26 = .ok (.aload_n 0, 1) := by decide +kernel
theorem dL_law_27 : decode cL_law 27 = .ok (.iload_n 3, 1) := by decide +kernel
theorem dL_law_28 : decode cL_law 28 = .ok (.iaload, 1) := by decide +kernel
theorem dL_law_29 : decode cL_law 29 = .ok (.bipush 31, 2) := by decide +kernel
theorem dL_law_31 : decode cL_law 31 = .ok (.iand, 1) := by decide +kernel
theorem dL_law_32 : decode cL_law 32 = .ok (.tableswitch 582 0 16 #[84, 107, 120, 133, 166, 209, 262, 311, 344, 357, 380, 423, 456, 489, 522, 545, 568], 84) := by decide +kernel
theorem dL_law_116 : decode cL_law 116 = .ok (.aload_n 1, 1) := by decide +kernel
theorem dL_law_117 : decode cL_law 117 = .ok (.aload_n 0, 1) := by decide +kernel
theorem dL_law_118 : decode cL_law 118 = .ok (.iload_n 3, 1) := by decide +kernel
theorem dL_law_119 : decode cL_law 119 = .ok (.iconst 1, 1) := by decide +kernel
theorem dL_law_120 : decode cL_law 120 = .ok (.iadd, 1) := by decide +kernel
theorem dL_law_121 : decode cL_law 121 = .ok (.iaload, 1) := by decide +kernel
theorem dL_law_122 : decode cL_law 122 = .ok (.invokevirtual 13, 3) := by decide +kernel
theorem dL_law_125 : decode cL_law 125 = .ok (.aload_n 2, 1) := by decide +kernel
theorem dL_law_126 : decode cL_law 126 = .ok (.aload_n 0, 1) := by decide +kernel
theorem dL_law_127 : decode cL_law 127 = .ok (.iload_n 3, 1) := by decide +kernel
theorem dL_law_128 : decode cL_law 128 = .ok (.iconst 1, 1) := by decide +kernel
theorem dL_law_129 : decode cL_law 129 = .ok (.iadd, 1) := by decide +kernel
theorem dL_law_130 : decode cL_law 130 = .ok (.iaload, 1) := by decide +kernel
theorem dL_law_131 : decode cL_law 131 = .ok (.invokevirtual 17, 3) := by decide +kernel
theorem dL_law_134 : decode cL_law 134 = .ok (.if_icmp .eq 480, 3) := by decide +kernel
theorem dL_law_137 : decode cL_law 137 = .ok (.iconst 0, 1) := by decide +kernel
theorem dL_law_138 : decode cL_law 138 = .ok (.ireturn, 1) := by decide +kernel
theorem dL_law_139 : decode cL_law 139 = .ok (.aload_n 1, 1) := by decide +kernel
theorem dL_law_140 : decode cL_law 140 = .ok (.invokevirtual 18, 3) := by decide +kernel
theorem dL_law_143 : decode cL_law 143 = .ok (.aload_n 2, 1) := by decide +kernel
theorem dL_law_144 : decode cL_law 144 = .ok (.invokevirtual 22, 3) := by decide +kernel
theorem dL_law_147 : decode cL_law 147 = .ok (.if_icmp .eq 467, 3) := by decide +kernel
theorem dL_law_150 : decode cL_law 150 = .ok (.iconst 0, 1) := by decide +kernel
theorem dL_law_151 : decode cL_law 151 = .ok (.ireturn, 1) := by decide +kernel
theorem dL_law_152 : decode cL_law 152 = .ok (.aload_n 1, 1) := by decide +kernel
theorem dL_law_153 : decode cL_law 153 = .ok (.invokevirtual 23, 3) := by decide +kernel
theorem dL_law_156 : decode cL_law 156 = .ok (.aload_n 2, 1) := by decide +kernel
theorem dL_law_157 : decode cL_law 157 = .ok (.invokevirtual 26, 3) := by decide +kernel
theorem dL_law_160 : decode cL_law 160 = .ok (.if_icmp .eq 454, 3) := by decide +kernel
theorem dL_law_163 : decode cL_law 163 = .ok (.iconst 0, 1) := by decide +kernel
theorem dL_law_164 : decode cL_law 164 = .ok (.ireturn, 1) := by decide +kernel
theorem dL_law_165 : decode cL_law 165 = .ok (.aload_n 1, 1) := by decide +kernel
theorem dL_law_166 : decode cL_law 166 = .ok (.aload_n 0, 1) := by decide +kernel
theorem dL_law_167 : decode cL_law 167 = .ok (.iload_n 3, 1) := by decide +kernel
theorem dL_law_168 : decode cL_law 168 = .ok (.iconst 1, 1) := by decide +kernel
theorem dL_law_169 : decode cL_law 169 = .ok (.iadd, 1) := by decide +kernel
theorem dL_law_170 : decode cL_law 170 = .ok (.iaload, 1) := by decide +kernel
theorem dL_law_171 : decode cL_law 171 = .ok (.aload_n 0, 1) := by decide +kernel
theorem dL_law_172 : decode cL_law 172 = .ok (.iload_n 3, 1) := by decide +kernel
theorem dL_law_173 : decode cL_law 173 = .ok (.iconst 2, 1) := by decide +kernel
theorem dL_law_174 : decode cL_law 174 = .ok (.iadd, 1) := by decide +kernel
theorem dL_law_175 : decode cL_law 175 = .ok (.iaload, 1) := by decide +kernel
theorem dL_law_176 : decode cL_law 176 = .ok (.invokevirtual 27, 3) := by decide +kernel
theorem dL_law_179 : decode cL_law 179 = .ok (.aload_n 2, 1) := by decide +kernel
theorem dL_law_180 : decode cL_law 180 = .ok (.aload_n 0, 1) := by decide +kernel
theorem dL_law_181 : decode cL_law 181 = .ok (.iload_n 3, 1) := by decide +kernel
theorem dL_law_182 : decode cL_law 182 = .ok (.iconst 1, 1) := by decide +kernel
theorem dL_law_183 : decode cL_law 183 = .ok (.iadd, 1) := by decide +kernel
theorem dL_law_184 : decode cL_law 184 = .ok (.iaload, 1) := by decide +kernel
theorem dL_law_185 : decode cL_law 185 = .ok (.aload_n 0, 1) := by decide +kernel
theorem dL_law_186 : decode cL_law 186 = .ok (.iload_n 3, 1) := by decide +kernel
theorem dL_law_187 : decode cL_law 187 = .ok (.iconst 2, 1) := by decide +kernel
theorem dL_law_188 : decode cL_law 188 = .ok (.iadd, 1) := by decide +kernel
theorem dL_law_189 : decode cL_law 189 = .ok (.iaload, 1) := by decide +kernel
theorem dL_law_190 : decode cL_law 190 = .ok (.invokevirtual 31, 3) := by decide +kernel
theorem dL_law_193 : decode cL_law 193 = .ok (.if_icmp .eq 421, 3) := by decide +kernel
theorem dL_law_196 : decode cL_law 196 = .ok (.iconst 0, 1) := by decide +kernel
theorem dL_law_197 : decode cL_law 197 = .ok (.ireturn, 1) := by decide +kernel
theorem dL_law_198 : decode cL_law 198 = .ok (.aload_n 1, 1) := by decide +kernel
theorem dL_law_199 : decode cL_law 199 = .ok (.aload_n 0, 1) := by decide +kernel
theorem dL_law_200 : decode cL_law 200 = .ok (.iload_n 3, 1) := by decide +kernel
theorem dL_law_201 : decode cL_law 201 = .ok (.iconst 1, 1) := by decide +kernel
theorem dL_law_202 : decode cL_law 202 = .ok (.iadd, 1) := by decide +kernel
theorem dL_law_203 : decode cL_law 203 = .ok (.iaload, 1) := by decide +kernel
theorem dL_law_204 : decode cL_law 204 = .ok (.aload_n 0, 1) := by decide +kernel
theorem dL_law_205 : decode cL_law 205 = .ok (.iload_n 3, 1) := by decide +kernel
theorem dL_law_206 : decode cL_law 206 = .ok (.iconst 2, 1) := by decide +kernel
theorem dL_law_207 : decode cL_law 207 = .ok (.iadd, 1) := by decide +kernel
theorem dL_law_208 : decode cL_law 208 = .ok (.iaload, 1) := by decide +kernel
theorem dL_law_209 : decode cL_law 209 = .ok (.aload_n 0, 1) := by decide +kernel
theorem dL_law_210 : decode cL_law 210 = .ok (.iload_n 3, 1) := by decide +kernel
theorem dL_law_211 : decode cL_law 211 = .ok (.iconst 3, 1) := by decide +kernel
theorem dL_law_212 : decode cL_law 212 = .ok (.iadd, 1) := by decide +kernel
theorem dL_law_213 : decode cL_law 213 = .ok (.iaload, 1) := by decide +kernel
theorem dL_law_214 : decode cL_law 214 = .ok (.invokevirtual 32, 3) := by decide +kernel
theorem dL_law_217 : decode cL_law 217 = .ok (.aload_n 2, 1) := by decide +kernel
theorem dL_law_218 : decode cL_law 218 = .ok (.aload_n 0, 1) := by decide +kernel
theorem dL_law_219 : decode cL_law 219 = .ok (.iload_n 3, 1) := by decide +kernel
theorem dL_law_220 : decode cL_law 220 = .ok (.iconst 1, 1) := by decide +kernel
theorem dL_law_221 : decode cL_law 221 = .ok (.iadd, 1) := by decide +kernel
theorem dL_law_222 : decode cL_law 222 = .ok (.iaload, 1) := by decide +kernel
theorem dL_law_223 : decode cL_law 223 = .ok (.aload_n 0, 1) := by decide +kernel
theorem dL_law_224 : decode cL_law 224 = .ok (.iload_n 3, 1) := by decide +kernel
theorem dL_law_225 : decode cL_law 225 = .ok (.iconst 2, 1) := by decide +kernel
theorem dL_law_226 : decode cL_law 226 = .ok (.iadd, 1) := by decide +kernel
theorem dL_law_227 : decode cL_law 227 = .ok (.iaload, 1) := by decide +kernel
theorem dL_law_228 : decode cL_law 228 = .ok (.aload_n 0, 1) := by decide +kernel
theorem dL_law_229 : decode cL_law 229 = .ok (.iload_n 3, 1) := by decide +kernel
theorem dL_law_230 : decode cL_law 230 = .ok (.iconst 3, 1) := by decide +kernel
theorem dL_law_231 : decode cL_law 231 = .ok (.iadd, 1) := by decide +kernel
theorem dL_law_232 : decode cL_law 232 = .ok (.iaload, 1) := by decide +kernel
theorem dL_law_233 : decode cL_law 233 = .ok (.invokevirtual 36, 3) := by decide +kernel
theorem dL_law_236 : decode cL_law 236 = .ok (.if_icmp .eq 378, 3) := by decide +kernel
theorem dL_law_239 : decode cL_law 239 = .ok (.iconst 0, 1) := by decide +kernel
theorem dL_law_240 : decode cL_law 240 = .ok (.ireturn, 1) := by decide +kernel
theorem dL_law_241 : decode cL_law 241 = .ok (.aload_n 1, 1) := by decide +kernel
theorem dL_law_242 : decode cL_law 242 = .ok (.aload_n 0, 1) := by decide +kernel
theorem dL_law_243 : decode cL_law 243 = .ok (.iload_n 3, 1) := by decide +kernel
theorem dL_law_244 : decode cL_law 244 = .ok (.iconst 1, 1) := by decide +kernel
theorem dL_law_245 : decode cL_law 245 = .ok (.iadd, 1) := by decide +kernel
theorem dL_law_246 : decode cL_law 246 = .ok (.iaload, 1) := by decide +kernel
theorem dL_law_247 : decode cL_law 247 = .ok (.aload_n 0, 1) := by decide +kernel
theorem dL_law_248 : decode cL_law 248 = .ok (.iload_n 3, 1) := by decide +kernel
theorem dL_law_249 : decode cL_law 249 = .ok (.iconst 2, 1) := by decide +kernel
theorem dL_law_250 : decode cL_law 250 = .ok (.iadd, 1) := by decide +kernel
theorem dL_law_251 : decode cL_law 251 = .ok (.iaload, 1) := by decide +kernel
theorem dL_law_252 : decode cL_law 252 = .ok (.aload_n 0, 1) := by decide +kernel
theorem dL_law_253 : decode cL_law 253 = .ok (.iload_n 3, 1) := by decide +kernel
theorem dL_law_254 : decode cL_law 254 = .ok (.iconst 3, 1) := by decide +kernel
theorem dL_law_255 : decode cL_law 255 = .ok (.iadd, 1) := by decide +kernel
theorem dL_law_256 : decode cL_law 256 = .ok (.iaload, 1) := by decide +kernel
theorem dL_law_257 : decode cL_law 257 = .ok (.aload_n 0, 1) := by decide +kernel
theorem dL_law_258 : decode cL_law 258 = .ok (.iload_n 3, 1) := by decide +kernel
theorem dL_law_259 : decode cL_law 259 = .ok (.iconst 4, 1) := by decide +kernel
theorem dL_law_260 : decode cL_law 260 = .ok (.iadd, 1) := by decide +kernel
theorem dL_law_261 : decode cL_law 261 = .ok (.iaload, 1) := by decide +kernel
theorem dL_law_262 : decode cL_law 262 = .ok (.invokevirtual 37, 3) := by decide +kernel
theorem dL_law_265 : decode cL_law 265 = .ok (.aload_n 2, 1) := by decide +kernel
theorem dL_law_266 : decode cL_law 266 = .ok (.aload_n 0, 1) := by decide +kernel
theorem dL_law_267 : decode cL_law 267 = .ok (.iload_n 3, 1) := by decide +kernel
theorem dL_law_268 : decode cL_law 268 = .ok (.iconst 1, 1) := by decide +kernel
theorem dL_law_269 : decode cL_law 269 = .ok (.iadd, 1) := by decide +kernel
theorem dL_law_270 : decode cL_law 270 = .ok (.iaload, 1) := by decide +kernel
theorem dL_law_271 : decode cL_law 271 = .ok (.aload_n 0, 1) := by decide +kernel
theorem dL_law_272 : decode cL_law 272 = .ok (.iload_n 3, 1) := by decide +kernel
theorem dL_law_273 : decode cL_law 273 = .ok (.iconst 2, 1) := by decide +kernel
theorem dL_law_274 : decode cL_law 274 = .ok (.iadd, 1) := by decide +kernel
theorem dL_law_275 : decode cL_law 275 = .ok (.iaload, 1) := by decide +kernel
theorem dL_law_276 : decode cL_law 276 = .ok (.aload_n 0, 1) := by decide +kernel
theorem dL_law_277 : decode cL_law 277 = .ok (.iload_n 3, 1) := by decide +kernel
theorem dL_law_278 : decode cL_law 278 = .ok (.iconst 3, 1) := by decide +kernel
theorem dL_law_279 : decode cL_law 279 = .ok (.iadd, 1) := by decide +kernel
theorem dL_law_280 : decode cL_law 280 = .ok (.iaload, 1) := by decide +kernel
theorem dL_law_281 : decode cL_law 281 = .ok (.aload_n 0, 1) := by decide +kernel
theorem dL_law_282 : decode cL_law 282 = .ok (.iload_n 3, 1) := by decide +kernel
theorem dL_law_283 : decode cL_law 283 = .ok (.iconst 4, 1) := by decide +kernel
theorem dL_law_284 : decode cL_law 284 = .ok (.iadd, 1) := by decide +kernel
theorem dL_law_285 : decode cL_law 285 = .ok (.iaload, 1) := by decide +kernel
theorem dL_law_286 : decode cL_law 286 = .ok (.invokevirtual 41, 3) := by decide +kernel
theorem dL_law_289 : decode cL_law 289 = .ok (.if_icmp .eq 325, 3) := by decide +kernel
theorem dL_law_292 : decode cL_law 292 = .ok (.iconst 0, 1) := by decide +kernel
theorem dL_law_293 : decode cL_law 293 = .ok (.ireturn, 1) := by decide +kernel
theorem dL_law_294 : decode cL_law 294 = .ok (.aload_n 1, 1) := by decide +kernel
theorem dL_law_295 : decode cL_law 295 = .ok (.aload_n 0, 1) := by decide +kernel
theorem dL_law_296 : decode cL_law 296 = .ok (.iload_n 3, 1) := by decide +kernel
theorem dL_law_297 : decode cL_law 297 = .ok (.iconst 1, 1) := by decide +kernel
theorem dL_law_298 : decode cL_law 298 = .ok (.iadd, 1) := by decide +kernel
theorem dL_law_299 : decode cL_law 299 = .ok (.iaload, 1) := by decide +kernel
theorem dL_law_300 : decode cL_law 300 = .ok (.aload_n 0, 1) := by decide +kernel
theorem dL_law_301 : decode cL_law 301 = .ok (.iload_n 3, 1) := by decide +kernel
theorem dL_law_302 : decode cL_law 302 = .ok (.iconst 2, 1) := by decide +kernel
theorem dL_law_303 : decode cL_law 303 = .ok (.iadd, 1) := by decide +kernel
theorem dL_law_304 : decode cL_law 304 = .ok (.iaload, 1) := by decide +kernel
theorem dL_law_305 : decode cL_law 305 = .ok (.ifCond .eq 7, 3) := by decide +kernel
theorem dL_law_308 : decode cL_law 308 = .ok (.iconst 1, 1) := by decide +kernel
theorem dL_law_309 : decode cL_law 309 = .ok (.goto 4, 3) := by decide +kernel
theorem dL_law_312 : decode cL_law 312 = .ok (.iconst 0, 1) := by decide +kernel
theorem dL_law_313 : decode cL_law 313 = .ok (.invokevirtual 42, 3) := by decide +kernel
theorem dL_law_316 : decode cL_law 316 = .ok (.aload_n 2, 1) := by decide +kernel
theorem dL_law_317 : decode cL_law 317 = .ok (.aload_n 0, 1) := by decide +kernel
theorem dL_law_318 : decode cL_law 318 = .ok (.iload_n 3, 1) := by decide +kernel
theorem dL_law_319 : decode cL_law 319 = .ok (.iconst 1, 1) := by decide +kernel
theorem dL_law_320 : decode cL_law 320 = .ok (.iadd, 1) := by decide +kernel
theorem dL_law_321 : decode cL_law 321 = .ok (.iaload, 1) := by decide +kernel
theorem dL_law_322 : decode cL_law 322 = .ok (.aload_n 0, 1) := by decide +kernel
theorem dL_law_323 : decode cL_law 323 = .ok (.iload_n 3, 1) := by decide +kernel
theorem dL_law_324 : decode cL_law 324 = .ok (.iconst 2, 1) := by decide +kernel
theorem dL_law_325 : decode cL_law 325 = .ok (.iadd, 1) := by decide +kernel
theorem dL_law_326 : decode cL_law 326 = .ok (.iaload, 1) := by decide +kernel
theorem dL_law_327 : decode cL_law 327 = .ok (.ifCond .eq 7, 3) := by decide +kernel
theorem dL_law_330 : decode cL_law 330 = .ok (.iconst 1, 1) := by decide +kernel
theorem dL_law_331 : decode cL_law 331 = .ok (.goto 4, 3) := by decide +kernel
theorem dL_law_334 : decode cL_law 334 = .ok (.iconst 0, 1) := by decide +kernel
theorem dL_law_335 : decode cL_law 335 = .ok (.invokevirtual 46, 3) := by decide +kernel
theorem dL_law_338 : decode cL_law 338 = .ok (.if_icmp .eq 276, 3) := by decide +kernel
theorem dL_law_341 : decode cL_law 341 = .ok (.iconst 0, 1) := by decide +kernel
theorem dL_law_342 : decode cL_law 342 = .ok (.ireturn, 1) := by decide +kernel
theorem dL_law_343 : decode cL_law 343 = .ok (.aload_n 1, 1) := by decide +kernel
theorem dL_law_344 : decode cL_law 344 = .ok (.aload_n 0, 1) := by decide +kernel
theorem dL_law_345 : decode cL_law 345 = .ok (.iload_n 3, 1) := by decide +kernel
theorem dL_law_346 : decode cL_law 346 = .ok (.iconst 1, 1) := by decide +kernel
theorem dL_law_347 : decode cL_law 347 = .ok (.iadd, 1) := by decide +kernel
theorem dL_law_348 : decode cL_law 348 = .ok (.iaload, 1) := by decide +kernel
theorem dL_law_349 : decode cL_law 349 = .ok (.aload_n 0, 1) := by decide +kernel
theorem dL_law_350 : decode cL_law 350 = .ok (.iload_n 3, 1) := by decide +kernel
theorem dL_law_351 : decode cL_law 351 = .ok (.iconst 2, 1) := by decide +kernel
theorem dL_law_352 : decode cL_law 352 = .ok (.iadd, 1) := by decide +kernel
theorem dL_law_353 : decode cL_law 353 = .ok (.iaload, 1) := by decide +kernel
theorem dL_law_354 : decode cL_law 354 = .ok (.invokevirtual 47, 3) := by decide +kernel
theorem dL_law_357 : decode cL_law 357 = .ok (.aload_n 2, 1) := by decide +kernel
theorem dL_law_358 : decode cL_law 358 = .ok (.aload_n 0, 1) := by decide +kernel
theorem dL_law_359 : decode cL_law 359 = .ok (.iload_n 3, 1) := by decide +kernel
theorem dL_law_360 : decode cL_law 360 = .ok (.iconst 1, 1) := by decide +kernel
theorem dL_law_361 : decode cL_law 361 = .ok (.iadd, 1) := by decide +kernel
theorem dL_law_362 : decode cL_law 362 = .ok (.iaload, 1) := by decide +kernel
theorem dL_law_363 : decode cL_law 363 = .ok (.aload_n 0, 1) := by decide +kernel
theorem dL_law_364 : decode cL_law 364 = .ok (.iload_n 3, 1) := by decide +kernel
theorem dL_law_365 : decode cL_law 365 = .ok (.iconst 2, 1) := by decide +kernel
theorem dL_law_366 : decode cL_law 366 = .ok (.iadd, 1) := by decide +kernel
theorem dL_law_367 : decode cL_law 367 = .ok (.iaload, 1) := by decide +kernel
theorem dL_law_368 : decode cL_law 368 = .ok (.invokevirtual 50, 3) := by decide +kernel
theorem dL_law_371 : decode cL_law 371 = .ok (.if_icmp .eq 243, 3) := by decide +kernel
theorem dL_law_374 : decode cL_law 374 = .ok (.iconst 0, 1) := by decide +kernel
theorem dL_law_375 : decode cL_law 375 = .ok (.ireturn, 1) := by decide +kernel
theorem dL_law_376 : decode cL_law 376 = .ok (.aload_n 1, 1) := by decide +kernel
theorem dL_law_377 : decode cL_law 377 = .ok (.invokevirtual 51, 3) := by decide +kernel
theorem dL_law_380 : decode cL_law 380 = .ok (.aload_n 2, 1) := by decide +kernel
theorem dL_law_381 : decode cL_law 381 = .ok (.invokevirtual 54, 3) := by decide +kernel
theorem dL_law_384 : decode cL_law 384 = .ok (.if_icmp .eq 230, 3) := by decide +kernel
theorem dL_law_387 : decode cL_law 387 = .ok (.iconst 0, 1) := by decide +kernel
theorem dL_law_388 : decode cL_law 388 = .ok (.ireturn, 1) := by decide +kernel
theorem dL_law_389 : decode cL_law 389 = .ok (.aload_n 1, 1) := by decide +kernel
theorem dL_law_390 : decode cL_law 390 = .ok (.aload_n 0, 1) := by decide +kernel
theorem dL_law_391 : decode cL_law 391 = .ok (.iload_n 3, 1) := by decide +kernel
theorem dL_law_392 : decode cL_law 392 = .ok (.iconst 1, 1) := by decide +kernel
theorem dL_law_393 : decode cL_law 393 = .ok (.iadd, 1) := by decide +kernel
theorem dL_law_394 : decode cL_law 394 = .ok (.iaload, 1) := by decide +kernel
theorem dL_law_395 : decode cL_law 395 = .ok (.invokevirtual 55, 3) := by decide +kernel
theorem dL_law_398 : decode cL_law 398 = .ok (.aload_n 2, 1) := by decide +kernel
theorem dL_law_399 : decode cL_law 399 = .ok (.aload_n 0, 1) := by decide +kernel
theorem dL_law_400 : decode cL_law 400 = .ok (.iload_n 3, 1) := by decide +kernel
theorem dL_law_401 : decode cL_law 401 = .ok (.iconst 1, 1) := by decide +kernel
theorem dL_law_402 : decode cL_law 402 = .ok (.iadd, 1) := by decide +kernel
theorem dL_law_403 : decode cL_law 403 = .ok (.iaload, 1) := by decide +kernel
theorem dL_law_404 : decode cL_law 404 = .ok (.invokevirtual 58, 3) := by decide +kernel
theorem dL_law_407 : decode cL_law 407 = .ok (.if_icmp .eq 207, 3) := by decide +kernel
theorem dL_law_410 : decode cL_law 410 = .ok (.iconst 0, 1) := by decide +kernel
theorem dL_law_411 : decode cL_law 411 = .ok (.ireturn, 1) := by decide +kernel
theorem dL_law_412 : decode cL_law 412 = .ok (.aload_n 1, 1) := by decide +kernel
theorem dL_law_413 : decode cL_law 413 = .ok (.aload_n 0, 1) := by decide +kernel
theorem dL_law_414 : decode cL_law 414 = .ok (.iload_n 3, 1) := by decide +kernel
theorem dL_law_415 : decode cL_law 415 = .ok (.iconst 1, 1) := by decide +kernel
theorem dL_law_416 : decode cL_law 416 = .ok (.iadd, 1) := by decide +kernel
theorem dL_law_417 : decode cL_law 417 = .ok (.iaload, 1) := by decide +kernel
theorem dL_law_418 : decode cL_law 418 = .ok (.aload_n 0, 1) := by decide +kernel
theorem dL_law_419 : decode cL_law 419 = .ok (.iload_n 3, 1) := by decide +kernel
theorem dL_law_420 : decode cL_law 420 = .ok (.iconst 2, 1) := by decide +kernel
theorem dL_law_421 : decode cL_law 421 = .ok (.iadd, 1) := by decide +kernel
theorem dL_law_422 : decode cL_law 422 = .ok (.iaload, 1) := by decide +kernel
theorem dL_law_423 : decode cL_law 423 = .ok (.aload_n 0, 1) := by decide +kernel
theorem dL_law_424 : decode cL_law 424 = .ok (.iload_n 3, 1) := by decide +kernel
theorem dL_law_425 : decode cL_law 425 = .ok (.iconst 3, 1) := by decide +kernel
theorem dL_law_426 : decode cL_law 426 = .ok (.iadd, 1) := by decide +kernel
theorem dL_law_427 : decode cL_law 427 = .ok (.iaload, 1) := by decide +kernel
theorem dL_law_428 : decode cL_law 428 = .ok (.invokevirtual 59, 3) := by decide +kernel
theorem dL_law_431 : decode cL_law 431 = .ok (.aload_n 2, 1) := by decide +kernel
theorem dL_law_432 : decode cL_law 432 = .ok (.aload_n 0, 1) := by decide +kernel
theorem dL_law_433 : decode cL_law 433 = .ok (.iload_n 3, 1) := by decide +kernel
theorem dL_law_434 : decode cL_law 434 = .ok (.iconst 1, 1) := by decide +kernel
theorem dL_law_435 : decode cL_law 435 = .ok (.iadd, 1) := by decide +kernel
theorem dL_law_436 : decode cL_law 436 = .ok (.iaload, 1) := by decide +kernel
theorem dL_law_437 : decode cL_law 437 = .ok (.aload_n 0, 1) := by decide +kernel
theorem dL_law_438 : decode cL_law 438 = .ok (.iload_n 3, 1) := by decide +kernel
theorem dL_law_439 : decode cL_law 439 = .ok (.iconst 2, 1) := by decide +kernel
theorem dL_law_440 : decode cL_law 440 = .ok (.iadd, 1) := by decide +kernel
theorem dL_law_441 : decode cL_law 441 = .ok (.iaload, 1) := by decide +kernel
theorem dL_law_442 : decode cL_law 442 = .ok (.aload_n 0, 1) := by decide +kernel
theorem dL_law_443 : decode cL_law 443 = .ok (.iload_n 3, 1) := by decide +kernel
theorem dL_law_444 : decode cL_law 444 = .ok (.iconst 3, 1) := by decide +kernel
theorem dL_law_445 : decode cL_law 445 = .ok (.iadd, 1) := by decide +kernel
theorem dL_law_446 : decode cL_law 446 = .ok (.iaload, 1) := by decide +kernel
theorem dL_law_447 : decode cL_law 447 = .ok (.invokevirtual 62, 3) := by decide +kernel
theorem dL_law_450 : decode cL_law 450 = .ok (.if_icmp .eq 164, 3) := by decide +kernel
theorem dL_law_453 : decode cL_law 453 = .ok (.iconst 0, 1) := by decide +kernel
theorem dL_law_454 : decode cL_law 454 = .ok (.ireturn, 1) := by decide +kernel
theorem dL_law_455 : decode cL_law 455 = .ok (.aload_n 1, 1) := by decide +kernel
theorem dL_law_456 : decode cL_law 456 = .ok (.aload_n 0, 1) := by decide +kernel
theorem dL_law_457 : decode cL_law 457 = .ok (.iload_n 3, 1) := by decide +kernel
theorem dL_law_458 : decode cL_law 458 = .ok (.iconst 1, 1) := by decide +kernel
theorem dL_law_459 : decode cL_law 459 = .ok (.iadd, 1) := by decide +kernel
theorem dL_law_460 : decode cL_law 460 = .ok (.iaload, 1) := by decide +kernel
theorem dL_law_461 : decode cL_law 461 = .ok (.aload_n 0, 1) := by decide +kernel
theorem dL_law_462 : decode cL_law 462 = .ok (.iload_n 3, 1) := by decide +kernel
theorem dL_law_463 : decode cL_law 463 = .ok (.iconst 2, 1) := by decide +kernel
theorem dL_law_464 : decode cL_law 464 = .ok (.iadd, 1) := by decide +kernel
theorem dL_law_465 : decode cL_law 465 = .ok (.iaload, 1) := by decide +kernel
theorem dL_law_466 : decode cL_law 466 = .ok (.invokevirtual 63, 3) := by decide +kernel
theorem dL_law_469 : decode cL_law 469 = .ok (.aload_n 2, 1) := by decide +kernel
theorem dL_law_470 : decode cL_law 470 = .ok (.aload_n 0, 1) := by decide +kernel
theorem dL_law_471 : decode cL_law 471 = .ok (.iload_n 3, 1) := by decide +kernel
theorem dL_law_472 : decode cL_law 472 = .ok (.iconst 1, 1) := by decide +kernel
theorem dL_law_473 : decode cL_law 473 = .ok (.iadd, 1) := by decide +kernel
theorem dL_law_474 : decode cL_law 474 = .ok (.iaload, 1) := by decide +kernel
theorem dL_law_475 : decode cL_law 475 = .ok (.aload_n 0, 1) := by decide +kernel
theorem dL_law_476 : decode cL_law 476 = .ok (.iload_n 3, 1) := by decide +kernel
theorem dL_law_477 : decode cL_law 477 = .ok (.iconst 2, 1) := by decide +kernel
theorem dL_law_478 : decode cL_law 478 = .ok (.iadd, 1) := by decide +kernel
theorem dL_law_479 : decode cL_law 479 = .ok (.iaload, 1) := by decide +kernel
theorem dL_law_480 : decode cL_law 480 = .ok (.invokevirtual 66, 3) := by decide +kernel
theorem dL_law_483 : decode cL_law 483 = .ok (.if_icmp .eq 131, 3) := by decide +kernel
theorem dL_law_486 : decode cL_law 486 = .ok (.iconst 0, 1) := by decide +kernel
theorem dL_law_487 : decode cL_law 487 = .ok (.ireturn, 1) := by decide +kernel
theorem dL_law_488 : decode cL_law 488 = .ok (.aload_n 1, 1) := by decide +kernel
theorem dL_law_489 : decode cL_law 489 = .ok (.aload_n 0, 1) := by decide +kernel
theorem dL_law_490 : decode cL_law 490 = .ok (.iload_n 3, 1) := by decide +kernel
theorem dL_law_491 : decode cL_law 491 = .ok (.iconst 1, 1) := by decide +kernel
theorem dL_law_492 : decode cL_law 492 = .ok (.iadd, 1) := by decide +kernel
theorem dL_law_493 : decode cL_law 493 = .ok (.iaload, 1) := by decide +kernel
theorem dL_law_494 : decode cL_law 494 = .ok (.aload_n 0, 1) := by decide +kernel
theorem dL_law_495 : decode cL_law 495 = .ok (.iload_n 3, 1) := by decide +kernel
theorem dL_law_496 : decode cL_law 496 = .ok (.iconst 2, 1) := by decide +kernel
theorem dL_law_497 : decode cL_law 497 = .ok (.iadd, 1) := by decide +kernel
theorem dL_law_498 : decode cL_law 498 = .ok (.iaload, 1) := by decide +kernel
theorem dL_law_499 : decode cL_law 499 = .ok (.invokevirtual 67, 3) := by decide +kernel
theorem dL_law_502 : decode cL_law 502 = .ok (.aload_n 2, 1) := by decide +kernel
theorem dL_law_503 : decode cL_law 503 = .ok (.aload_n 0, 1) := by decide +kernel
theorem dL_law_504 : decode cL_law 504 = .ok (.iload_n 3, 1) := by decide +kernel
theorem dL_law_505 : decode cL_law 505 = .ok (.iconst 1, 1) := by decide +kernel
theorem dL_law_506 : decode cL_law 506 = .ok (.iadd, 1) := by decide +kernel
theorem dL_law_507 : decode cL_law 507 = .ok (.iaload, 1) := by decide +kernel
theorem dL_law_508 : decode cL_law 508 = .ok (.aload_n 0, 1) := by decide +kernel
theorem dL_law_509 : decode cL_law 509 = .ok (.iload_n 3, 1) := by decide +kernel
theorem dL_law_510 : decode cL_law 510 = .ok (.iconst 2, 1) := by decide +kernel
theorem dL_law_511 : decode cL_law 511 = .ok (.iadd, 1) := by decide +kernel
theorem dL_law_512 : decode cL_law 512 = .ok (.iaload, 1) := by decide +kernel
theorem dL_law_513 : decode cL_law 513 = .ok (.invokevirtual 70, 3) := by decide +kernel
theorem dL_law_516 : decode cL_law 516 = .ok (.if_icmp .eq 98, 3) := by decide +kernel
theorem dL_law_519 : decode cL_law 519 = .ok (.iconst 0, 1) := by decide +kernel
theorem dL_law_520 : decode cL_law 520 = .ok (.ireturn, 1) := by decide +kernel
theorem dL_law_521 : decode cL_law 521 = .ok (.aload_n 1, 1) := by decide +kernel
theorem dL_law_522 : decode cL_law 522 = .ok (.aload_n 0, 1) := by decide +kernel
theorem dL_law_523 : decode cL_law 523 = .ok (.iload_n 3, 1) := by decide +kernel
theorem dL_law_524 : decode cL_law 524 = .ok (.iconst 1, 1) := by decide +kernel
theorem dL_law_525 : decode cL_law 525 = .ok (.iadd, 1) := by decide +kernel
theorem dL_law_526 : decode cL_law 526 = .ok (.iaload, 1) := by decide +kernel
theorem dL_law_527 : decode cL_law 527 = .ok (.aload_n 0, 1) := by decide +kernel
theorem dL_law_528 : decode cL_law 528 = .ok (.iload_n 3, 1) := by decide +kernel
theorem dL_law_529 : decode cL_law 529 = .ok (.iconst 2, 1) := by decide +kernel
theorem dL_law_530 : decode cL_law 530 = .ok (.iadd, 1) := by decide +kernel
theorem dL_law_531 : decode cL_law 531 = .ok (.iaload, 1) := by decide +kernel
theorem dL_law_532 : decode cL_law 532 = .ok (.invokevirtual 71, 3) := by decide +kernel
theorem dL_law_535 : decode cL_law 535 = .ok (.aload_n 2, 1) := by decide +kernel
theorem dL_law_536 : decode cL_law 536 = .ok (.aload_n 0, 1) := by decide +kernel
theorem dL_law_537 : decode cL_law 537 = .ok (.iload_n 3, 1) := by decide +kernel
theorem dL_law_538 : decode cL_law 538 = .ok (.iconst 1, 1) := by decide +kernel
theorem dL_law_539 : decode cL_law 539 = .ok (.iadd, 1) := by decide +kernel
theorem dL_law_540 : decode cL_law 540 = .ok (.iaload, 1) := by decide +kernel
theorem dL_law_541 : decode cL_law 541 = .ok (.aload_n 0, 1) := by decide +kernel
theorem dL_law_542 : decode cL_law 542 = .ok (.iload_n 3, 1) := by decide +kernel
theorem dL_law_543 : decode cL_law 543 = .ok (.iconst 2, 1) := by decide +kernel
theorem dL_law_544 : decode cL_law 544 = .ok (.iadd, 1) := by decide +kernel
theorem dL_law_545 : decode cL_law 545 = .ok (.iaload, 1) := by decide +kernel
theorem dL_law_546 : decode cL_law 546 = .ok (.invokevirtual 74, 3) := by decide +kernel
theorem dL_law_549 : decode cL_law 549 = .ok (.if_icmp .eq 65, 3) := by decide +kernel
theorem dL_law_552 : decode cL_law 552 = .ok (.iconst 0, 1) := by decide +kernel
theorem dL_law_553 : decode cL_law 553 = .ok (.ireturn, 1) := by decide +kernel
theorem dL_law_554 : decode cL_law 554 = .ok (.aload_n 1, 1) := by decide +kernel
theorem dL_law_555 : decode cL_law 555 = .ok (.aload_n 0, 1) := by decide +kernel
theorem dL_law_556 : decode cL_law 556 = .ok (.iload_n 3, 1) := by decide +kernel
theorem dL_law_557 : decode cL_law 557 = .ok (.iconst 1, 1) := by decide +kernel
theorem dL_law_558 : decode cL_law 558 = .ok (.iadd, 1) := by decide +kernel
theorem dL_law_559 : decode cL_law 559 = .ok (.iaload, 1) := by decide +kernel
theorem dL_law_560 : decode cL_law 560 = .ok (.invokevirtual 75, 3) := by decide +kernel
theorem dL_law_563 : decode cL_law 563 = .ok (.aload_n 2, 1) := by decide +kernel
theorem dL_law_564 : decode cL_law 564 = .ok (.aload_n 0, 1) := by decide +kernel
theorem dL_law_565 : decode cL_law 565 = .ok (.iload_n 3, 1) := by decide +kernel
theorem dL_law_566 : decode cL_law 566 = .ok (.iconst 1, 1) := by decide +kernel
theorem dL_law_567 : decode cL_law 567 = .ok (.iadd, 1) := by decide +kernel
theorem dL_law_568 : decode cL_law 568 = .ok (.iaload, 1) := by decide +kernel
theorem dL_law_569 : decode cL_law 569 = .ok (.invokevirtual 78, 3) := by decide +kernel
theorem dL_law_572 : decode cL_law 572 = .ok (.if_icmp .eq 42, 3) := by decide +kernel
theorem dL_law_575 : decode cL_law 575 = .ok (.iconst 0, 1) := by decide +kernel
theorem dL_law_576 : decode cL_law 576 = .ok (.ireturn, 1) := by decide +kernel
theorem dL_law_577 : decode cL_law 577 = .ok (.aload_n 1, 1) := by decide +kernel
theorem dL_law_578 : decode cL_law 578 = .ok (.aload_n 0, 1) := by decide +kernel
theorem dL_law_579 : decode cL_law 579 = .ok (.iload_n 3, 1) := by decide +kernel
theorem dL_law_580 : decode cL_law 580 = .ok (.iconst 1, 1) := by decide +kernel
theorem dL_law_581 : decode cL_law 581 = .ok (.iadd, 1) := by decide +kernel
theorem dL_law_582 : decode cL_law 582 = .ok (.iaload, 1) := by decide +kernel
theorem dL_law_583 : decode cL_law 583 = .ok (.invokevirtual 79, 3) := by decide +kernel
theorem dL_law_586 : decode cL_law 586 = .ok (.aload_n 2, 1) := by decide +kernel
theorem dL_law_587 : decode cL_law 587 = .ok (.aload_n 0, 1) := by decide +kernel
theorem dL_law_588 : decode cL_law 588 = .ok (.iload_n 3, 1) := by decide +kernel
theorem dL_law_589 : decode cL_law 589 = .ok (.iconst 1, 1) := by decide +kernel
theorem dL_law_590 : decode cL_law 590 = .ok (.iadd, 1) := by decide +kernel
theorem dL_law_591 : decode cL_law 591 = .ok (.iaload, 1) := by decide +kernel
theorem dL_law_592 : decode cL_law 592 = .ok (.invokevirtual 82, 3) := by decide +kernel
theorem dL_law_595 : decode cL_law 595 = .ok (.if_icmp .eq 19, 3) := by decide +kernel
theorem dL_law_598 : decode cL_law 598 = .ok (.iconst 0, 1) := by decide +kernel
theorem dL_law_599 : decode cL_law 599 = .ok (.ireturn, 1) := by decide +kernel
theorem dL_law_600 : decode cL_law 600 = .ok (.aload_n 1, 1) := by decide +kernel
theorem dL_law_601 : decode cL_law 601 = .ok (.invokevirtual 83, 3) := by decide +kernel
theorem dL_law_604 : decode cL_law 604 = .ok (.aload_n 2, 1) := by decide +kernel
theorem dL_law_605 : decode cL_law 605 = .ok (.invokevirtual 87, 3) := by decide +kernel
theorem dL_law_608 : decode cL_law 608 = .ok (.lcmp, 1) := by decide +kernel
theorem dL_law_609 : decode cL_law 609 = .ok (.ifCond .eq 5, 3) := by decide +kernel
theorem dL_law_612 : decode cL_law 612 = .ok (.iconst 0, 1) := by decide +kernel
theorem dL_law_613 : decode cL_law 613 = .ok (.ireturn, 1) := by decide +kernel
theorem dL_law_614 : decode cL_law 614 = .ok (.iinc 3 5, 3) := by decide +kernel
theorem dL_law_617 : decode cL_law 617 = .ok (.goto (-599), 3) := by decide +kernel
theorem dL_law_620 : decode cL_law 620 = .ok (.iconst 1, 1) := by decide +kernel
theorem dL_law_621 : decode cL_law 621 = .ok (.ireturn, 1) := by decide +kernel
