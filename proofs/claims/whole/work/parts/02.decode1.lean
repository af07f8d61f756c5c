theorem dX0_init_0 : decode cX0_init 0 = .ok (.aload_n 0, 1) := by decide +kernel
theorem dX0_init_1 : decode cX0_init 1 = .ok (.invokespecial 3, 3) := by decide +kernel
theorem dX0_init_4 : decode cX0_init 4 = .ok (.aload_n 0, 1) := by decide +kernel
theorem dX0_init_5 : decode cX0_init 5 = .ok (.bipush 12, 2) := by decide +kernel
theorem dX0_init_7 : decode cX0_init 7 = .ok (.newarray .int, 2) := by decide +kernel
theorem dX0_init_9 : decode cX0_init 9 = .ok (.putfield 9, 3) := by decide +kernel
theorem dX0_init_12 : decode cX0_init 12 = .ok (.aload_n 0, 1) := by decide +kernel
theorem dX0_init_13 : decode cX0_init 13 = .ok (.bipush 12, 2) := by decide +kernel
theorem dX0_init_15 : decode cX0_init 15 = .ok (.newarray .int, 2) := by decide +kernel
theorem dX0_init_17 : decode cX0_init 17 = .ok (.putfield 15, 3) := by decide +kernel
theorem dX0_init_20 : decode cX0_init 20 = .ok (.aload_n 0, 1) := by decide +kernel
theorem dX0_init_21 : decode cX0_init 21 = .ok (.bipush 12, 2) := by decide +kernel
theorem dX0_init_23 : decode cX0_init 23 = .ok (.newarray .int, 2) := by decide +kernel
theorem dX0_init_25 : decode cX0_init 25 = .ok (.putfield 18, 3) := by decide +kernel
theorem dX0_init_28 : decode cX0_init 28 = .ok (.aload_n 0, 1) := by decide +kernel
theorem dX0_init_29 : decode cX0_init 29 = .ok (.bipush 12, 2) := by decide +kernel
theorem dX0_init_31 : decode cX0_init 31 = .ok (.newarray .int, 2) := by decide +kernel
theorem dX0_init_33 : decode cX0_init 33 = .ok (.putfield 21, 3) := by decide +kernel
theorem dX0_init_36 : decode cX0_init 36 = .ok (.aload_n 0, 1) := by decide +kernel
theorem dX0_init_37 : decode cX0_init 37 = .ok (.bipush 12, 2) := by decide +kernel
theorem dX0_init_39 : decode cX0_init 39 = .ok (.newarray .long, 2) := by decide +kernel
theorem dX0_init_41 : decode cX0_init 41 = .ok (.putfield 24, 3) := by decide +kernel
theorem dX0_init_44 : decode cX0_init 44 = .ok (.aload_n 0, 1) := by decide +kernel
theorem dX0_init_45 : decode cX0_init 45 = .ok (.iconst 0, 1) := by decide +kernel
theorem dX0_init_46 : decode cX0_init 46 = .ok (.putfield 28, 3) := by decide +kernel
theorem dX0_init_49 : decode cX0_init 49 = .ok (.return_, 1) := by decide +kernel
theorem dX0_names_0 : decode cX0_names 0 = .ok (.iload_n 1, 1) := by decide +kernel
theorem dX0_names_1 : decode cX0_names 1 = .ok (.ifCond .lt 15, 3) := by decide +kernel
theorem dX0_names_4 : decode cX0_names 4 = .ok (.iload_n 1, 1) := by decide +kernel
theorem dX0_names_5 : decode cX0_names 5 = .ok (.aload_n 0, 1) := by decide +kernel
theorem dX0_names_6 : decode cX0_names 6 = .ok (.getfield 28, 3) := by decide +kernel
theorem dX0_names_9 : decode cX0_names 9 = .ok (.if_icmp .ge 7, 3) := by decide +kernel
theorem dX0_names_12 : decode cX0_names 12 = .ok (.iconst 1, 1) := by decide +kernel
theorem dX0_names_13 : decode cX0_names 13 = .ok (.goto 4, 3) := by decide +kernel
theorem dX0_names_16 : decode cX0_names 16 = .ok (.iconst 0, 1) := by decide +kernel
theorem dX0_names_17 : decode cX0_names 17 = .ok (.ireturn, 1) := by decide +kernel
theorem dX0_isFull_0 : decode cX0_isFull 0 = .ok (.aload_n 0, 1) := by decide +kernel
theorem dX0_isFull_1 : decode cX0_isFull 1 = .ok (.getfield 28, 3) := by decide +kernel
theorem dX0_isFull_4 : decode cX0_isFull 4 = .ok (.bipush 12, 2) := by decide +kernel
theorem dX0_isFull_6 : decode cX0_isFull 6 = .ok (.if_icmp .lt 7, 3) := by decide +kernel
theorem dX0_isFull_9 : decode cX0_isFull 9 = .ok (.iconst 1, 1) := by decide +kernel
theorem dX0_isFull_10 : decode cX0_isFull 10 = .ok (.goto 4, 3) := by decide +kernel
theorem dX0_isFull_13 : decode cX0_isFull 13 = .ok (.iconst 0, 1) := by decide +kernel
theorem dX0_isFull_14 : decode cX0_isFull 14 = .ok (.ireturn, 1) := by decide +kernel
theorem dX0_add_0 : decode cX0_add 0 = .ok (.aload_n 0, 1) := by decide +kernel
theorem dX0_add_1 : decode cX0_add 1 = .ok (.getfield 28, 3) := by decide +kernel
theorem dX0_add_4 : decode cX0_add 4 = .ok (.istore_n 3, 1) := by decide +kernel
theorem dX0_add_5 : decode cX0_add 5 = .ok (.aload_n 0, 1) := by decide +kernel
theorem dX0_add_6 : decode cX0_add 6 = .ok (.getfield 9, 3) := by decide +kernel
theorem dX0_add_9 : decode cX0_add 9 = .ok (.iload_n 3, 1) := by decide +kernel
theorem dX0_add_10 : decode cX0_add 10 = .ok (.iload_n 1, 1) := by decide +kernel
theorem dX0_add_11 : decode cX0_add 11 = .ok (.iastore, 1) := by decide +kernel
theorem dX0_add_12 : decode cX0_add 12 = .ok (.aload_n 0, 1) := by decide +kernel
theorem dX0_add_13 : decode cX0_add 13 = .ok (.getfield 15, 3) := by decide +kernel
theorem dX0_add_16 : decode cX0_add 16 = .ok (.iload_n 3, 1) := by decide +kernel
theorem dX0_add_17 : decode cX0_add 17 = .ok (.iload_n 2, 1) := by decide +kernel
theorem dX0_add_18 : decode cX0_add 18 = .ok (.iastore, 1) := by decide +kernel
theorem dX0_add_19 : decode cX0_add 19 = .ok (.aload_n 0, 1) := by decide +kernel
theorem dX0_add_20 : decode cX0_add 20 = .ok (.getfield 18, 3) := by decide +kernel
theorem dX0_add_23 : decode cX0_add 23 = .ok (.iload_n 3, 1) := by decide +kernel
theorem dX0_add_24 : decode cX0_add 24 = .ok (.iconst 0, 1) := by decide +kernel
theorem dX0_add_25 : decode cX0_add 25 = .ok (.iastore, 1) := by decide +kernel
theorem dX0_add_26 : decode cX0_add 26 = .ok (.aload_n 0, 1) := by decide +kernel
theorem dX0_add_27 : decode cX0_add 27 = .ok (.getfield 21, 3) := by decide +kernel
theorem dX0_add_30 : decode cX0_add 30 = .ok (.iload_n 3, 1) := by decide +kernel
theorem dX0_add_31 : decode cX0_add 31 = .ok (.iconst 0, 1) := by decide +kernel
theorem dX0_add_32 : decode cX0_add 32 = .ok (.iastore, 1) := by decide +kernel
theorem dX0_add_33 : decode cX0_add 33 = .ok (.aload_n 0, 1) := by decide +kernel
theorem dX0_add_34 : decode cX0_add 34 = .ok (.getfield 24, 3) := by decide +kernel
theorem dX0_add_37 : decode cX0_add 37 = .ok (.iload_n 3, 1) := by decide +kernel
theorem dX0_add_38 : decode cX0_add 38 = .ok (.lconst 0, 1) := by decide +kernel
theorem dX0_add_39 : decode cX0_add 39 = .ok (.lastore, 1) := by decide +kernel
theorem dX0_add_40 : decode cX0_add 40 = .ok (.aload_n 0, 1) := by decide +kernel
theorem dX0_add_41 : decode cX0_add 41 = .ok (.dup, 1) := by decide +kernel
theorem dX0_add_42 : decode cX0_add 42 = .ok (.getfield 28, 3) := by decide +kernel
theorem dX0_add_45 : decode cX0_add 45 = .ok (.iconst 1, 1) := by decide +kernel
theorem dX0_add_46 : decode cX0_add 46 = .ok (.iadd, 1) := by decide +kernel
theorem dX0_add_47 : decode cX0_add 47 = .ok (.putfield 28, 3) := by decide +kernel
theorem dX0_add_50 : decode cX0_add 50 = .ok (.iload_n 3, 1) := by decide +kernel
theorem dX0_add_51 : decode cX0_add 51 = .ok (.ireturn, 1) := by decide +kernel
theorem dX0_touch_0 : decode cX0_touch 0 = .ok (.aload_n 0, 1) := by decide +kernel
theorem dX0_touch_1 : decode cX0_touch 1 = .ok (.getfield 24, 3) := by decide +kernel
theorem dX0_touch_4 : decode cX0_touch 4 = .ok (.iload_n 1, 1) := by decide +kernel
theorem dX0_touch_5 : decode cX0_touch 5 = .ok (.dup2, 1) := by decide +kernel
theorem dX0_touch_6 : decode cX0_touch 6 = .ok (.laload, 1) := by decide +kernel
theorem dX0_touch_7 : decode cX0_touch 7 = .ok (.lconst 1, 1) := by decide +kernel
theorem dX0_touch_8 : decode cX0_touch 8 = .ok (.iload_n 2, 1) := by decide +kernel
theorem dX0_touch_9 : decode cX0_touch 9 = .ok (.lshl, 1) := by decide +kernel
theorem dX0_touch_10 : decode cX0_touch 10 = .ok (.lor, 1) := by decide +kernel
theorem dX0_touch_11 : decode cX0_touch 11 = .ok (.lastore, 1) := by decide +kernel
theorem dX0_touch_12 : decode cX0_touch 12 = .ok (.return_, 1) := by decide +kernel
theorem dX0_inStatus_0 : decode cX0_inStatus 0 = .ok (.iconst 0, 1) := by decide +kernel
theorem dX0_inStatus_1 : decode cX0_inStatus 1 = .ok (.istore_n 2, 1) := by decide +kernel
theorem dX0_inStatus_2 : decode cX0_inStatus 2 = .ok (.iconst 0, 1) := by decide +kernel
theorem dX0_inStatus_3 : decode cX0_inStatus 3 = .ok (.istore_n 3, 1) := by decide +kernel
theorem dX0_inStatus_4 : decode cX0_inStatus 4 = .ok (.iload_n 3, 1) := by decide +kernel
theorem dX0_inStatus_5 : decode cX0_inStatus 5 = .ok (.aload_n 0, 1) := by decide +kernel
theorem dX0_inStatus_6 : decode cX0_inStatus 6 = .ok (.getfield 28, 3) := by decide +kernel
theorem dX0_inStatus_9 : decode cX0_inStatus 9 = .ok (.if_icmp .ge 25, 3) := by decide +kernel
theorem dX0_inStatus_12 : decode cX0_inStatus 12 = .ok (.aload_n 0, 1) := by decide +kernel
theorem dX0_inStatus_13 : decode cX0_inStatus 13 = .ok (.getfield 18, 3) := by decide +kernel
theorem dX0_inStatus_16 : decode cX0_inStatus 16 = .ok (.iload_n 3, 1) := by decide +kernel
theorem dX0_inStatus_17 : decode cX0_inStatus 17 = .ok (.iaload, 1) := by decide +kernel
theorem dX0_inStatus_18 : decode cX0_inStatus 18 = .ok (.iload_n 1, 1) := by decide +kernel
theorem dX0_inStatus_19 : decode cX0_inStatus 19 = .ok (.if_icmp .ne 9, 3) := by decide +kernel
theorem dX0_inStatus_22 : decode cX0_inStatus 22 = .ok (.iload_n 2, 1) := by decide +kernel
theorem dX0_inStatus_23 : decode cX0_inStatus 23 = .ok (.iconst 1, 1) := by decide +kernel
theorem dX0_inStatus_24 : decode cX0_inStatus 24 = .ok (.iload_n 3, 1) := by decide +kernel
theorem dX0_inStatus_25 : decode cX0_inStatus 25 = .ok (.ishl, 1) := by decide +kernel
theorem dX0_inStatus_26 : decode cX0_inStatus 26 = .ok (.ior, 1) := by decide +kernel
theorem dX0_inStatus_27 : decode cX0_inStatus 27 = .ok (.istore_n 2, 1) := by decide +kernel
theorem dX0_inStatus_28 : decode cX0_inStatus 28 = .ok (.iinc 3 1, 3) := by decide +kernel
theorem dX0_inStatus_31 : decode cX0_inStatus 31 = .ok (.goto (-27), 3) := by decide +kernel
theorem dX0_inStatus_34 : decode cX0_inStatus 34 = .ok (.iload_n 2, 1) := by decide +kernel
theorem dX0_inStatus_35 : decode cX0_inStatus 35 = .ok (.ireturn, 1) := by decide +kernel
theorem dX0_seenBy_0 : decode cX0_seenBy 0 = .ok (.iconst 0, 1) := by decide +kernel
theorem dX0_seenBy_1 : decode cX0_seenBy 1 = .ok (.istore_n 2, 1) := by decide +kernel
theorem dX0_seenBy_2 : decode cX0_seenBy 2 = .ok (.iconst 0, 1) := by decide +kernel
theorem dX0_seenBy_3 : decode cX0_seenBy 3 = .ok (.istore_n 3, 1) := by decide +kernel
theorem dX0_seenBy_4 : decode cX0_seenBy 4 = .ok (.iload_n 3, 1) := by decide +kernel
theorem dX0_seenBy_5 : decode cX0_seenBy 5 = .ok (.aload_n 0, 1) := by decide +kernel
theorem dX0_seenBy_6 : decode cX0_seenBy 6 = .ok (.getfield 28, 3) := by decide +kernel
theorem dX0_seenBy_9 : decode cX0_seenBy 9 = .ok (.if_icmp .ge 35, 3) := by decide +kernel
theorem dX0_seenBy_12 : decode cX0_seenBy 12 = .ok (.aload_n 0, 1) := by decide +kernel
theorem dX0_seenBy_13 : decode cX0_seenBy 13 = .ok (.getfield 15, 3) := by decide +kernel
theorem dX0_seenBy_16 : decode cX0_seenBy 16 = .ok (.iload_n 3, 1) := by decide +kernel
theorem dX0_seenBy_17 : decode cX0_seenBy 17 = .ok (.iaload, 1) := by decide +kernel
theorem dX0_seenBy_18 : decode cX0_seenBy 18 = .ok (.iload_n 1, 1) := by decide +kernel
theorem dX0_seenBy_19 : decode cX0_seenBy 19 = .ok (.if_icmp .eq 13, 3) := by decide +kernel
theorem dX0_seenBy_22 : decode cX0_seenBy 22 = .ok (.aload_n 0, 1) := by decide +kernel
theorem dX0_seenBy_23 : decode cX0_seenBy 23 = .ok (.getfield 21, 3) := by decide +kernel
theorem dX0_seenBy_26 : decode cX0_seenBy 26 = .ok (.iload_n 3, 1) := by decide +kernel
theorem dX0_seenBy_27 : decode cX0_seenBy 27 = .ok (.iaload, 1) := by decide +kernel
theorem dX0_seenBy_28 : decode cX0_seenBy 28 = .ok (.iconst 1, 1) := by decide +kernel
theorem dX0_seenBy_29 : decode cX0_seenBy 29 = .ok (.if_icmp .ne 9, 3) := by decide +kernel
theorem dX0_seenBy_32 : decode cX0_seenBy 32 = .ok (.iload_n 2, 1) := by decide +kernel
theorem dX0_seenBy_33 : decode cX0_seenBy 33 = .ok (.iconst 1, 1) := by decide +kernel
theorem dX0_seenBy_34 : decode cX0_seenBy 34 = .ok (.iload_n 3, 1) := by decide +kernel
theorem dX0_seenBy_35 : decode cX0_seenBy 35 = .ok (.ishl, 1) := by decide +kernel
theorem dX0_seenBy_36 : decode cX0_seenBy 36 = .ok (.ior, 1) := by decide +kernel
theorem dX0_seenBy_37 : decode cX0_seenBy 37 = .ok (.istore_n 2, 1) := by decide +kernel
theorem dX0_seenBy_38 : decode cX0_seenBy 38 = .ok (.iinc 3 1, 3) := by decide +kernel
theorem dX0_seenBy_41 : decode cX0_seenBy 41 = .ok (.goto (-37), 3) := by decide +kernel
theorem dX0_seenBy_44 : decode cX0_seenBy 44 = .ok (.iload_n 2, 1) := by decide +kernel
theorem dX0_seenBy_45 : decode cX0_seenBy 45 = .ok (.ireturn, 1) := by decide +kernel
theorem dX0_openOnes_0 : decode cX0_openOnes 0 = .ok (.iconst 0, 1) := by decide +kernel
theorem dX0_openOnes_1 : decode cX0_openOnes 1 = .ok (.istore_n 3, 1) := by decide +kernel
theorem dX0_openOnes_2 : decode cX0_openOnes 2 = .ok (.iconst 0, 1) := by decide +kernel
theorem dX0_openOnes_3 : decode cX0_openOnes 3 = .ok (.istore 4, 2) := by decide +kernel
theorem dX0_openOnes_5 : decode cX0_openOnes 5 = .ok (.iload 4, 2) := by decide +kernel
theorem dX0_openOnes_7 : decode cX0_openOnes 7 = .ok (.aload_n 0, 1) := by decide +kernel
theorem dX0_openOnes_8 : decode cX0_openOnes 8 = .ok (.getfield 28, 3) := by decide +kernel
theorem dX0_openOnes_11 : decode cX0_openOnes 11 = .ok (.if_icmp .ge 49, 3) := by decide +kernel
theorem dX0_openOnes_14 : decode cX0_openOnes 14 = .ok (.aload_n 0, 1) := by decide +kernel
theorem dX0_openOnes_15 : decode cX0_openOnes 15 = .ok (.getfield 18, 3) := by decide +kernel
theorem dX0_openOnes_18 : decode cX0_openOnes 18 = .ok (.iload 4, 2) := by decide +kernel
theorem dX0_openOnes_20 : decode cX0_openOnes 20 = .ok (.iaload, 1) := by decide +kernel
theorem dX0_openOnes_21 : decode cX0_openOnes 21 = .ok (.ifCond .ne 33, 3) := by decide +kernel
theorem dX0_openOnes_24 : decode cX0_openOnes 24 = .ok (.aload_n 0, 1) := by decide +kernel
theorem dX0_openOnes_25 : decode cX0_openOnes 25 = .ok (.getfield 9, 3) := by decide +kernel
theorem dX0_openOnes_28 : decode cX0_openOnes 28 = .ok (.iload 4, 2) := by decide +kernel
theorem dX0_openOnes_30 : decode cX0_openOnes 30 = .ok (.iaload, 1) := by decide +kernel
theorem dX0_openOnes_31 : decode cX0_openOnes 31 = .ok (.iload_n 1, 1) := by decide +kernel
theorem dX0_openOnes_32 : decode cX0_openOnes 32 = .ok (.if_icmp .ne 22, 3) := by decide +kernel
theorem dX0_openOnes_35 : decode cX0_openOnes 35 = .ok (.aload_n 0, 1) := by decide +kernel
theorem dX0_openOnes_36 : decode cX0_openOnes 36 = .ok (.getfield 24, 3) := by decide +kernel
theorem dX0_openOnes_39 : decode cX0_openOnes 39 = .ok (.iload 4, 2) := by decide +kernel
theorem dX0_openOnes_41 : decode cX0_openOnes 41 = .ok (.laload, 1) := by decide +kernel
theorem dX0_openOnes_42 : decode cX0_openOnes 42 = .ok (.iload_n 2, 1) := by decide +kernel
theorem dX0_openOnes_43 : decode cX0_openOnes 43 = .ok (.lushr, 1) := by decide +kernel
theorem dX0_openOnes_44 : decode cX0_openOnes 44 = .ok (.lconst 1, 1) := by decide +kernel
theorem dX0_openOnes_45 : decode cX0_openOnes 45 = .ok (.land, 1) := by decide +kernel
theorem dX0_openOnes_46 : decode cX0_openOnes 46 = .ok (.lconst 0, 1) := by decide +kernel
theorem dX0_openOnes_47 : decode cX0_openOnes 47 = .ok (.lcmp, 1) := by decide +kernel
theorem dX0_openOnes_48 : decode cX0_openOnes 48 = .ok (.ifCond .eq 6, 3) := by decide +kernel
theorem dX0_openOnes_51 : decode cX0_openOnes 51 = .ok (.iinc 3 1, 3) := by decide +kernel
theorem dX0_openOnes_54 : decode cX0_openOnes 54 = .ok (.iinc 4 1, 3) := by decide +kernel
theorem dX0_openOnes_57 : decode cX0_openOnes 57 = .ok (.goto (-52), 3) := by decide +kernel
theorem dX0_openOnes_60 : decode cX0_openOnes 60 = .ok (.iload_n 3, 1) := by decide +kernel
theorem dX0_openOnes_61 : decode cX0_openOnes 61 = .ok (.ireturn, 1) := by decide +kernel
theorem dX0_insertsUnder_0 : decode cX0_insertsUnder 0 = .ok (.iconst 0, 1) := by decide +kernel
theorem dX0_insertsUnder_1 : decode cX0_insertsUnder 1 = .ok (.istore_n 2, 1) := by decide +kernel
theorem dX0_insertsUnder_2 : decode cX0_insertsUnder 2 = .ok (.iconst 0, 1) := by decide +kernel
theorem dX0_insertsUnder_3 : decode cX0_insertsUnder 3 = .ok (.istore_n 3, 1) := by decide +kernel
theorem dX0_insertsUnder_4 : decode cX0_insertsUnder 4 = .ok (.iload_n 3, 1) := by decide +kernel
theorem dX0_insertsUnder_5 : decode cX0_insertsUnder 5 = .ok (.aload_n 0, 1) := by decide +kernel
theorem dX0_insertsUnder_6 : decode cX0_insertsUnder 6 = .ok (.getfield 28, 3) := by decide +kernel
theorem dX0_insertsUnder_9 : decode cX0_insertsUnder 9 = .ok (.if_icmp .ge 47, 3) := by decide +kernel
theorem dX0_insertsUnder_12 : decode cX0_insertsUnder 12 = .ok (.iload_n 3, 1) := by decide +kernel
theorem dX0_insertsUnder_13 : decode cX0_insertsUnder 13 = .ok (.iload_n 1, 1) := by decide +kernel
theorem dX0_insertsUnder_14 : decode cX0_insertsUnder 14 = .ok (.if_icmp .eq 36, 3) := by decide +kernel
theorem dX0_insertsUnder_17 : decode cX0_insertsUnder 17 = .ok (.aload_n 0, 1) := by decide +kernel
theorem dX0_insertsUnder_18 : decode cX0_insertsUnder 18 = .ok (.getfield 9, 3) := by decide +kernel
theorem dX0_insertsUnder_21 : decode cX0_insertsUnder 21 = .ok (.iload_n 3, 1) := by decide +kernel
theorem dX0_insertsUnder_22 : decode cX0_insertsUnder 22 = .ok (.iaload, 1) := by decide +kernel
theorem dX0_insertsUnder_23 : decode cX0_insertsUnder 23 = .ok (.ifCond .ne 27, 3) := by decide +kernel
theorem dX0_insertsUnder_26 : decode cX0_insertsUnder 26 = .ok (.aload_n 0, 1) := by decide +kernel
theorem dX0_insertsUnder_27 : decode cX0_insertsUnder 27 = .ok (.getfield 24, 3) := by decide +kernel
theorem dX0_insertsUnder_30 : decode cX0_insertsUnder 30 = .ok (.iload_n 3, 1) := by decide +kernel
theorem dX0_insertsUnder_31 : decode cX0_insertsUnder 31 = .ok (.laload, 1) := by decide +kernel
theorem dX0_insertsUnder_32 : decode cX0_insertsUnder 32 = .ok (.aload_n 0, 1) := by decide +kernel
theorem dX0_insertsUnder_33 : decode cX0_insertsUnder 33 = .ok (.getfield 24, 3) := by decide +kernel
theorem dX0_insertsUnder_36 : decode cX0_insertsUnder 36 = .ok (.iload_n 1, 1) := by decide +kernel
theorem dX0_insertsUnder_37 : decode cX0_insertsUnder 37 = .ok (.laload, 1) := by decide +kernel
theorem dX0_insertsUnder_38 : decode cX0_insertsUnder 38 = .ok (.land, 1) := by decide +kernel
theorem dX0_insertsUnder_39 : decode cX0_insertsUnder 39 = .ok (.lconst 0, 1) := by decide +kernel
theorem dX0_insertsUnder_40 : decode cX0_insertsUnder 40 = .ok (.lcmp, 1) := by decide +kernel
theorem dX0_insertsUnder_41 : decode cX0_insertsUnder 41 = .ok (.ifCond .eq 9, 3) := by decide +kernel
theorem dX0_insertsUnder_44 : decode cX0_insertsUnder 44 = .ok (.iload_n 2, 1) := by decide +kernel
theorem dX0_insertsUnder_45 : decode cX0_insertsUnder 45 = .ok (.iconst 1, 1) := by decide +kernel
theorem dX0_insertsUnder_46 : decode cX0_insertsUnder 46 = .ok (.iload_n 3, 1) := by decide +kernel
theorem dX0_insertsUnder_47 : decode cX0_insertsUnder 47 = .ok (.ishl, 1) := by decide +kernel
theorem dX0_insertsUnder_48 : decode cX0_insertsUnder 48 = .ok (.ior, 1) := by decide +kernel
theorem dX0_insertsUnder_49 : decode cX0_insertsUnder 49 = .ok (.istore_n 2, 1) := by decide +kernel
theorem dX0_insertsUnder_50 : decode cX0_insertsUnder 50 = .ok (.iinc 3 1, 3) := by decide +kernel
theorem dX0_insertsUnder_53 : decode cX0_insertsUnder 53 = .ok (.goto (-49), 3) := by decide +kernel
theorem dX0_insertsUnder_56 : decode cX0_insertsUnder 56 = .ok (.iload_n 2, 1) := by decide +kernel
theorem dX0_insertsUnder_57 : decode cX0_insertsUnder 57 = .ok (.ireturn, 1) := by decide +kernel
theorem dX0_deletedTwice_0 : decode cX0_deletedTwice 0 = .ok (.lconst 0, 1) := by decide +kernel
theorem dX0_deletedTwice_1 : decode cX0_deletedTwice 1 = .ok (.lstore_n 1, 1) := by decide +kernel
theorem dX0_deletedTwice_2 : decode cX0_deletedTwice 2 = .ok (.lconst 0, 1) := by decide +kernel
theorem dX0_deletedTwice_3 : decode cX0_deletedTwice 3 = .ok (.lstore_n 3, 1) := by decide +kernel
theorem dX0_deletedTwice_4 : decode cX0_deletedTwice 4 = .ok (.iconst 0, 1) := by decide +kernel
theorem dX0_deletedTwice_5 : decode cX0_deletedTwice 5 = .ok (.istore 5, 2) := by decide +kernel
theorem dX0_deletedTwice_7 : decode cX0_deletedTwice 7 = .ok (.iload 5, 2) := by decide +kernel
theorem dX0_deletedTwice_9 : decode cX0_deletedTwice 9 = .ok (.aload_n 0, 1) := by decide +kernel
theorem dX0_deletedTwice_10 : decode cX0_deletedTwice 10 = .ok (.getfield 28, 3) := by decide +kernel
theorem dX0_deletedTwice_13 : decode cX0_deletedTwice 13 = .ok (.if_icmp .ge 52, 3) := by decide +kernel
theorem dX0_deletedTwice_16 : decode cX0_deletedTwice 16 = .ok (.aload_n 0, 1) := by decide +kernel
theorem dX0_deletedTwice_17 : decode cX0_deletedTwice 17 = .ok (.getfield 18, 3) := by decide +kernel
theorem dX0_deletedTwice_20 : decode cX0_deletedTwice 20 = .ok (.iload 5, 2) := by decide +kernel
theorem dX0_deletedTwice_22 : decode cX0_deletedTwice 22 = .ok (.iaload, 1) := by decide +kernel
theorem dX0_deletedTwice_23 : decode cX0_deletedTwice 23 = .ok (.ifCond .ne 36, 3) := by decide +kernel
theorem dX0_deletedTwice_26 : decode cX0_deletedTwice 26 = .ok (.aload_n 0, 1) := by decide +kernel
theorem dX0_deletedTwice_27 : decode cX0_deletedTwice 27 = .ok (.getfield 9, 3) := by decide +kernel
theorem dX0_deletedTwice_30 : decode cX0_deletedTwice 30 = .ok (.iload 5, 2) := by decide +kernel
theorem dX0_deletedTwice_32 : decode cX0_deletedTwice 32 = .ok (.iaload, 1) := by decide +kernel
theorem dX0_deletedTwice_33 : decode cX0_deletedTwice 33 = .ok (.iconst 1, 1) := by decide +kernel
theorem dX0_deletedTwice_34 : decode cX0_deletedTwice 34 = .ok (.if_icmp .ne 25, 3) := by decide +kernel
theorem dX0_deletedTwice_37 : decode cX0_deletedTwice 37 = .ok (.lload_n 3, 1) := by decide +kernel
theorem dX0_deletedTwice_38 : decode cX0_deletedTwice 38 = .ok (.lload_n 1, 1) := by decide +kernel
theorem dX0_deletedTwice_39 : decode cX0_deletedTwice 39 = .ok (.aload_n 0, 1) := by decide +kernel
theorem dX0_deletedTwice_40 : decode cX0_deletedTwice 40 = .ok (.getfield 24, 3) := by decide +kernel
theorem dX0_deletedTwice_43 : decode cX0_deletedTwice 43 = .ok (.iload 5, 2) := by decide +kernel
theorem dX0_deletedTwice_45 : decode cX0_deletedTwice 45 = .ok (.laload, 1) := by decide +kernel
theorem dX0_deletedTwice_46 : decode cX0_deletedTwice 46 = .ok (.land, 1) := by decide +kernel
theorem dX0_deletedTwice_47 : decode cX0_deletedTwice 47 = .ok (.lor, 1) := by decide +kernel
theorem dX0_deletedTwice_48 : decode cX0_deletedTwice 48 = .ok (.lstore_n 3, 1) := by decide +kernel
theorem dX0_deletedTwice_49 : decode cX0_deletedTwice 49 = .ok (.lload_n 1, 1) := by decide +kernel
theorem dX0_deletedTwice_50 : decode cX0_deletedTwice 50 = .ok (.aload_n 0, 1) := by decide +kernel
theorem dX0_deletedTwice_51 : decode cX0_deletedTwice 51 = .ok (.getfield 24, 3) := by decide +kernel
theorem dX0_deletedTwice_54 : decode cX0_deletedTwice 54 = .ok (.iload 5, 2) := by decide +kernel
theorem dX0_deletedTwice_56 : decode cX0_deletedTwice 56 = .ok (.laload, 1) := by decide +kernel
theorem dX0_deletedTwice_57 : decode cX0_deletedTwice 57 = .ok (.lor, 1) := by decide +kernel
theorem dX0_deletedTwice_58 : decode cX0_deletedTwice 58 = .ok (.lstore_n 1, 1) := by decide +kernel
theorem dX0_deletedTwice_59 : decode cX0_deletedTwice 59 = .ok (.iinc 5 1, 3) := by decide +kernel
theorem dX0_deletedTwice_62 : decode cX0_deletedTwice 62 = .ok (.goto (-55), 3) := by decide +kernel
theorem dX0_deletedTwice_65 : decode cX0_deletedTwice 65 = .ok (.lload_n 3, 1) := by decide +kernel
theorem dX0_deletedTwice_66 : decode cX0_deletedTwice 66 = .ok (.lreturn, 1) := by decide +kernel
theorem dX1_init_0 : decode cX1_init 0 = .ok (.aload_n 0, 1) := by decide +kernel
theorem dX1_init_1 : decode cX1_init 1 = .ok (.invokespecial 3, 3) := by decide +kernel
theorem dX1_init_4 : decode cX1_init 4 = .ok (.aload_n 0, 1) := by decide +kernel
theorem dX1_init_5 : decode cX1_init 5 = .ok (.bipush 90, 2) := by decide +kernel
theorem dX1_init_7 : decode cX1_init 7 = .ok (.newarray .int, 2) := by decide +kernel
theorem dX1_init_9 : decode cX1_init 9 = .ok (.putfield 9, 3) := by decide +kernel
theorem dX1_init_12 : decode cX1_init 12 = .ok (.aload_n 0, 1) := by decide +kernel
theorem dX1_init_13 : decode cX1_init 13 = .ok (.bipush 90, 2) := by decide +kernel
theorem dX1_init_15 : decode cX1_init 15 = .ok (.newarray .int, 2) := by decide +kernel
theorem dX1_init_17 : decode cX1_init 17 = .ok (.putfield 15, 3) := by decide +kernel
theorem dX1_init_20 : decode cX1_init 20 = .ok (.aload_n 0, 1) := by decide +kernel
theorem dX1_init_21 : decode cX1_init 21 = .ok (.bipush 90, 2) := by decide +kernel
theorem dX1_init_23 : decode cX1_init 23 = .ok (.newarray .int, 2) := by decide +kernel
theorem dX1_init_25 : decode cX1_init 25 = .ok (.putfield 18, 3) := by decide +kernel
theorem dX1_init_28 : decode cX1_init 28 = .ok (.aload_n 0, 1) := by decide +kernel
theorem dX1_init_29 : decode cX1_init 29 = .ok (.bipush 90, 2) := by decide +kernel
theorem dX1_init_31 : decode cX1_init 31 = .ok (.newarray .int, 2) := by decide +kernel
theorem dX1_init_33 : decode cX1_init 33 = .ok (.putfield 21, 3) := by decide +kernel
theorem dX1_init_36 : decode cX1_init 36 = .ok (.aload_n 0, 1) := by decide +kernel
theorem dX1_init_37 : decode cX1_init 37 = .ok (.iconst 0, 1) := by decide +kernel
theorem dX1_init_38 : decode cX1_init 38 = .ok (.putfield 24, 3) := by decide +kernel
theorem dX1_init_41 : decode cX1_init 41 = .ok (.return_, 1) := by decide +kernel
theorem dX1_openGap_0 : decode cX1_openGap 0 = .ok (.aload_n 0, 1) := by decide +kernel
theorem dX1_openGap_1 : decode cX1_openGap 1 = .ok (.getfield 24, 3) := by decide +kernel
theorem dX1_openGap_4 : decode cX1_openGap 4 = .ok (.iconst 1, 1) := by decide +kernel
theorem dX1_openGap_5 : decode cX1_openGap 5 = .ok (.isub, 1) := by decide +kernel
theorem dX1_openGap_6 : decode cX1_openGap 6 = .ok (.istore_n 3, 1) := by decide +kernel
theorem dX1_openGap_7 : decode cX1_openGap 7 = .ok (.iload_n 3, 1) := by decide +kernel
theorem dX1_openGap_8 : decode cX1_openGap 8 = .ok (.iload_n 1, 1) := by decide +kernel
theorem dX1_openGap_9 : decode cX1_openGap 9 = .ok (.if_icmp .lt 65, 3) := by decide +kernel
theorem dX1_openGap_12 : decode cX1_openGap 12 = .ok (.aload_n 0, 1) := by decide +kernel
theorem dX1_openGap_13 : decode cX1_openGap 13 = .ok (.getfield 9, 3) := by decide +kernel
theorem dX1_openGap_16 : decode cX1_openGap 16 = .ok (.iload_n 3, 1) := by decide +kernel
theorem dX1_openGap_17 : decode cX1_openGap 17 = .ok (.iload_n 2, 1) := by decide +kernel
theorem dX1_openGap_18 : decode cX1_openGap 18 = .ok (.iadd, 1) := by decide +kernel
theorem dX1_openGap_19 : decode cX1_openGap 19 = .ok (.aload_n 0, 1) := by decide +kernel
theorem dX1_openGap_20 : decode cX1_openGap 20 = .ok (.getfield 9, 3) := by decide +kernel
theorem dX1_openGap_23 : decode cX1_openGap 23 = .ok (.iload_n 3, 1) := by decide +kernel
theorem dX1_openGap_24 : decode cX1_openGap 24 = .ok (.iaload, 1) := by decide +kernel
theorem dX1_openGap_25 : decode cX1_openGap 25 = .ok (.iastore, 1) := by decide +kernel
theorem dX1_openGap_26 : decode cX1_openGap 26 = .ok (.aload_n 0, 1) := by decide +kernel
theorem dX1_openGap_27 : decode cX1_openGap 27 = .ok (.getfield 15, 3) := by decide +kernel
theorem dX1_openGap_30 : decode cX1_openGap 30 = .ok (.iload_n 3, 1) := by decide +kernel
theorem dX1_openGap_31 : decode cX1_openGap 31 = .ok (.iload_n 2, 1) := by decide +kernel
theorem dX1_openGap_32 : decode cX1_openGap 32 = .ok (.iadd, 1) := by decide +kernel
theorem dX1_openGap_33 : decode cX1_openGap 33 = .ok (.aload_n 0, 1) := by decide +kernel
theorem dX1_openGap_34 : decode cX1_openGap 34 = .ok (.getfield 15, 3) := by decide +kernel
theorem dX1_openGap_37 : decode cX1_openGap 37 = .ok (.iload_n 3, 1) := by decide +kernel
theorem dX1_openGap_38 : decode cX1_openGap 38 = .ok (.iaload, 1) := by decide +kernel
theorem dX1_openGap_39 : decode cX1_openGap 39 = .ok (.iastore, 1) := by decide +kernel
theorem dX1_openGap_40 : decode cX1_openGap 40 = .ok (.aload_n 0, 1) := by decide +kernel
theorem dX1_openGap_41 : decode cX1_openGap 41 = .ok (.getfield 18, 3) := by decide +kernel
theorem dX1_openGap_44 : decode cX1_openGap 44 = .ok (.iload_n 3, 1) := by decide +kernel
theorem dX1_openGap_45 : decode cX1_openGap 45 = .ok (.iload_n 2, 1) := by decide +kernel
theorem dX1_openGap_46 : decode cX1_openGap 46 = .ok (.iadd, 1) := by decide +kernel
theorem dX1_openGap_47 : decode cX1_openGap 47 = .ok (.aload_n 0, 1) := by decide +kernel
theorem dX1_openGap_48 : decode cX1_openGap 48 = .ok (.getfield 18, 3) := by decide +kernel
theorem dX1_openGap_51 : decode cX1_openGap 51 = .ok (.iload_n 3, 1) := by decide +kernel
theorem dX1_openGap_52 : decode cX1_openGap 52 = .ok (.iaload, 1) := by decide +kernel
theorem dX1_openGap_53 : decode cX1_openGap 53 = .ok (.iastore, 1) := by decide +kernel
theorem dX1_openGap_54 : decode cX1_openGap 54 = .ok (.aload_n 0, 1) := by decide +kernel
theorem dX1_openGap_55 : decode cX1_openGap 55 = .ok (.getfield 21, 3) := by decide +kernel
theorem dX1_openGap_58 : decode cX1_openGap 58 = .ok (.iload_n 3, 1) := by decide +kernel
theorem dX1_openGap_59 : decode cX1_openGap 59 = .ok (.iload_n 2, 1) := by decide +kernel
theorem dX1_openGap_60 : decode cX1_openGap 60 = .ok (.iadd, 1) := by decide +kernel
theorem dX1_openGap_61 : decode cX1_openGap 61 = .ok (.aload_n 0, 1) := by decide +kernel
theorem dX1_openGap_62 : decode cX1_openGap 62 = .ok (.getfield 21, 3) := by decide +kernel
theorem dX1_openGap_65 : decode cX1_openGap 65 = .ok (.iload_n 3, 1) := by decide +kernel
theorem dX1_openGap_66 : decode cX1_openGap 66 = .ok (.iaload, 1) := by decide +kernel
theorem dX1_openGap_67 : decode cX1_openGap 67 = .ok (.iastore, 1) := by decide +kernel
theorem dX1_openGap_68 : decode cX1_openGap 68 = .ok (.iinc 3 (-1), 3) := by decide +kernel
theorem dX1_openGap_71 : decode cX1_openGap 71 = .ok (.goto (-64), 3) := by decide +kernel
theorem dX1_openGap_74 : decode cX1_openGap 74 = .ok (.aload_n 0, 1) := by decide +kernel
theorem dX1_openGap_75 : decode cX1_openGap 75 = .ok (.dup, 1) := by decide +kernel
theorem dX1_openGap_76 : decode cX1_openGap 76 = .ok (.getfield 24, 3) := by decide +kernel
theorem dX1_openGap_79 : decode cX1_openGap 79 = .ok (.iload_n 2, 1) := by decide +kernel
theorem dX1_openGap_80 : decode cX1_openGap 80 = .ok (.iadd, 1) := by decide +kernel
theorem dX1_openGap_81 : decode cX1_openGap 81 = .ok (.putfield 24, 3) := by decide +kernel
theorem dX1_openGap_84 : decode cX1_openGap 84 = .ok (.iconst 0, 1) := by decide +kernel
theorem dX1_openGap_85 : decode cX1_openGap 85 = .ok (.istore_n 3, 1) := by decide +kernel
theorem dX1_openGap_86 : decode cX1_openGap 86 = .ok (.iload_n 3, 1) := by decide +kernel
theorem dX1_openGap_87 : decode cX1_openGap 87 = .ok (.aload_n 0, 1) := by decide +kernel
theorem dX1_openGap_88 : decode cX1_openGap 88 = .ok (.getfield 24, 3) := by decide +kernel
theorem dX1_openGap_91 : decode cX1_openGap 91 = .ok (.if_icmp .ge 29, 3) := by decide +kernel
theorem dX1_openGap_94 : decode cX1_openGap 94 = .ok (.aload_n 0, 1) := by decide +kernel
theorem dX1_openGap_95 : decode cX1_openGap 95 = .ok (.getfield 15, 3) := by decide +kernel
theorem dX1_openGap_98 : decode cX1_openGap 98 = .ok (.iload_n 3, 1) := by decide +kernel
theorem dX1_openGap_99 : decode cX1_openGap 99 = .ok (.iaload, 1) := by decide +kernel
theorem dX1_openGap_100 : decode cX1_openGap 100 = .ok (.iload_n 1, 1) := by decide +kernel
theorem dX1_openGap_101 : decode cX1_openGap 101 = .ok (.if_icmp .lt 13, 3) := by decide +kernel
theorem dX1_openGap_104 : decode cX1_openGap 104 = .ok (.aload_n 0, 1) := by decide +kernel
theorem dX1_openGap_105 : decode cX1_openGap 105 = .ok (.getfield 15, 3) := by decide +kernel
theorem dX1_openGap_108 : decode cX1_openGap 108 = .ok (.iload_n 3, 1) := by decide +kernel
theorem dX1_openGap_109 : decode cX1_openGap 109 = .ok (.dup2, 1) := by decide +kernel
theorem dX1_openGap_110 : decode cX1_openGap 110 = .ok (.iaload, 1) := by decide +kernel
theorem dX1_openGap_111 : decode cX1_openGap 111 = .ok (.iload_n 2, 1) := by decide +kernel
theorem dX1_openGap_112 : decode cX1_openGap 112 = .ok (.iadd, 1) := by decide +kernel
theorem dX1_openGap_113 : decode cX1_openGap 113 = .ok (.iastore, 1) := by decide +kernel
theorem dX1_openGap_114 : decode cX1_openGap 114 = .ok (.iinc 3 1, 3) := by decide +kernel
theorem dX1_openGap_117 : decode cX1_openGap 117 = .ok (.goto (-31), 3) := by decide +kernel
theorem dX1_openGap_120 : decode cX1_openGap 120 = .ok (.return_, 1) := by decide +kernel
theorem dX1_put_0 : decode cX1_put 0 = .ok (.aload_n 0, 1) := by decide +kernel
theorem dX1_put_1 : decode cX1_put 1 = .ok (.getfield 9, 3) := by decide +kernel
theorem dX1_put_4 : decode cX1_put 4 = .ok (.iload_n 1, 1) := by decide +kernel
theorem dX1_put_5 : decode cX1_put 5 = .ok (.iload_n 2, 1) := by decide +kernel
theorem dX1_put_6 : decode cX1_put 6 = .ok (.iastore, 1) := by decide +kernel
theorem dX1_put_7 : decode cX1_put 7 = .ok (.aload_n 0, 1) := by decide +kernel
theorem dX1_put_8 : decode cX1_put 8 = .ok (.getfield 15, 3) := by decide +kernel
theorem dX1_put_11 : decode cX1_put 11 = .ok (.iload_n 1, 1) := by decide +kernel
theorem dX1_put_12 : decode cX1_put 12 = .ok (.iload_n 3, 1) := by decide +kernel
theorem dX1_put_13 : decode cX1_put 13 = .ok (.iastore, 1) := by decide +kernel
theorem dX1_put_14 : decode cX1_put 14 = .ok (.aload_n 0, 1) := by decide +kernel
theorem dX1_put_15 : decode cX1_put 15 = .ok (.getfield 18, 3) := by decide +kernel
theorem dX1_put_18 : decode cX1_put 18 = .ok (.iload_n 1, 1) := by decide +kernel
theorem dX1_put_19 : decode cX1_put 19 = .ok (.iload 4, 2) := by decide +kernel
theorem dX1_put_21 : decode cX1_put 21 = .ok (.iastore, 1) := by decide +kernel
theorem dX1_put_22 : decode cX1_put 22 = .ok (.aload_n 0, 1) := by decide +kernel
theorem dX1_put_23 : decode cX1_put 23 = .ok (.getfield 21, 3) := by decide +kernel
theorem dX1_put_26 : decode cX1_put 26 = .ok (.iload_n 1, 1) := by decide +kernel
theorem dX1_put_27 : decode cX1_put 27 = .ok (.iconst 0, 1) := by decide +kernel
theorem dX1_put_28 : decode cX1_put 28 = .ok (.iastore, 1) := by decide +kernel
theorem dX1_put_29 : decode cX1_put 29 = .ok (.iload_n 3, 1) := by decide +kernel
theorem dX1_put_30 : decode cX1_put 30 = .ok (.iconst (-1), 1) := by decide +kernel
theorem dX1_put_31 : decode cX1_put 31 = .ok (.if_icmp .eq 16, 3) := by decide +kernel
theorem dX1_put_34 : decode cX1_put 34 = .ok (.aload_n 0, 1) := by decide +kernel
theorem dX1_put_35 : decode cX1_put 35 = .ok (.getfield 21, 3) := by decide +kernel
theorem dX1_put_38 : decode cX1_put 38 = .ok (.iload_n 3, 1) := by decide +kernel
theorem dX1_put_39 : decode cX1_put 39 = .ok (.dup2, 1) := by decide +kernel
theorem dX1_put_40 : decode cX1_put 40 = .ok (.iaload, 1) := by decide +kernel
theorem dX1_put_41 : decode cX1_put 41 = .ok (.iconst 1, 1) := by decide +kernel
theorem dX1_put_42 : decode cX1_put 42 = .ok (.iload 4, 2) := by decide +kernel
theorem dX1_put_44 : decode cX1_put 44 = .ok (.ishl, 1) := by decide +kernel
theorem dX1_put_45 : decode cX1_put 45 = .ok (.ior, 1) := by decide +kernel
theorem dX1_put_46 : decode cX1_put 46 = .ok (.iastore, 1) := by decide +kernel
theorem dX1_put_47 : decode cX1_put 47 = .ok (.return_, 1) := by decide +kernel
theorem dX1_holds_0 : decode cX1_holds 0 = .ok (.lload_n 2, 1) := by decide +kernel
theorem dX1_holds_1 : decode cX1_holds 1 = .ok (.aload_n 0, 1) := by decide +kernel
theorem dX1_holds_2 : decode cX1_holds 2 = .ok (.getfield 9, 3) := by decide +kernel
theorem dX1_holds_5 : decode cX1_holds 5 = .ok (.iload_n 1, 1) := by decide +kernel
theorem dX1_holds_6 : decode cX1_holds 6 = .ok (.iaload, 1) := by decide +kernel
theorem dX1_holds_7 : decode cX1_holds 7 = .ok (.lushr, 1) := by decide +kernel
theorem dX1_holds_8 : decode cX1_holds 8 = .ok (.lconst 1, 1) := by decide +kernel
theorem dX1_holds_9 : decode cX1_holds 9 = .ok (.land, 1) := by decide +kernel
theorem dX1_holds_10 : decode cX1_holds 10 = .ok (.lconst 0, 1) := by decide +kernel
theorem dX1_holds_11 : decode cX1_holds 11 = .ok (.lcmp, 1) := by decide +kernel
theorem dX1_holds_12 : decode cX1_holds 12 = .ok (.ifCond .eq 29, 3) := by decide +kernel
theorem dX1_holds_15 : decode cX1_holds 15 = .ok (.aload_n 0, 1) := by decide +kernel
theorem dX1_holds_16 : decode cX1_holds 16 = .ok (.getfield 21, 3) := by decide +kernel
theorem dX1_holds_19 : decode cX1_holds 19 = .ok (.iload_n 1, 1) := by decide +kernel
theorem dX1_holds_20 : decode cX1_holds 20 = .ok (.iaload, 1) := by decide +kernel
theorem dX1_holds_21 : decode cX1_holds 21 = .ok (.iload 4, 2) := by decide +kernel
theorem dX1_holds_23 : decode cX1_holds 23 = .ok (.iand, 1) := by decide +kernel
theorem dX1_holds_24 : decode cX1_holds 24 = .ok (.ifCond .ne 17, 3) := by decide +kernel
theorem dX1_holds_27 : decode cX1_holds 27 = .ok (.aload_n 0, 1) := by decide +kernel
theorem dX1_holds_28 : decode cX1_holds 28 = .ok (.iload_n 1, 1) := by decide +kernel
theorem dX1_holds_29 : decode cX1_holds 29 = .ok (.iload 4, 2) := by decide +kernel
theorem dX1_holds_31 : decode cX1_holds 31 = .ok (.invokevirtual 28, 3) := by decide +kernel
theorem dX1_holds_34 : decode cX1_holds 34 = .ok (.ifCond .eq 7, 3) := by decide +kernel
theorem dX1_holds_37 : decode cX1_holds 37 = .ok (.iconst 1, 1) := by decide +kernel
theorem dX1_holds_38 : decode cX1_holds 38 = .ok (.goto 4, 3) := by decide +kernel
theorem dX1_holds_41 : decode cX1_holds 41 = .ok (.iconst 0, 1) := by decide +kernel
theorem dX1_holds_42 : decode cX1_holds 42 = .ok (.ireturn, 1) := by decide +kernel
theorem dX1_leadsTo_0 : decode cX1_leadsTo 0 = .ok (.iload_n 1, 1) := by decide +kernel
theorem dX1_leadsTo_1 : decode cX1_leadsTo 1 = .ok (.istore_n 3, 1) := by decide +kernel
theorem dX1_leadsTo_2 : decode cX1_leadsTo 2 = .ok (.iconst 0, 1) := by decide +kernel
theorem dX1_leadsTo_3 : decode cX1_leadsTo 3 = .ok (.istore 4, 2) := by decide +kernel
theorem dX1_leadsTo_5 : decode cX1_leadsTo 5 = .ok (.iload 4, 2) := by decide +kernel
theorem dX1_leadsTo_7 : decode cX1_leadsTo 7 = .ok (.bipush 90, 2) := by decide +kernel
theorem dX1_leadsTo_9 : decode cX1_leadsTo 9 = .ok (.if_icmp .ge 60, 3) := by decide +kernel
theorem dX1_leadsTo_12 : decode cX1_leadsTo 12 = .ok (.aload_n 0, 1) := by decide +kernel
theorem dX1_leadsTo_13 : decode cX1_leadsTo 13 = .ok (.getfield 15, 3) := by decide +kernel
theorem dX1_leadsTo_16 : decode cX1_leadsTo 16 = .ok (.iload_n 3, 1) := by decide +kernel
theorem dX1_leadsTo_17 : decode cX1_leadsTo 17 = .ok (.iaload, 1) := by decide +kernel
theorem dX1_leadsTo_18 : decode cX1_leadsTo 18 = .ok (.iconst (-1), 1) := by decide +kernel
theorem dX1_leadsTo_19 : decode cX1_leadsTo 19 = .ok (.if_icmp .eq 50, 3) := by decide +kernel
theorem dX1_leadsTo_22 : decode cX1_leadsTo 22 = .ok (.aload_n 0, 1) := by decide +kernel
theorem dX1_leadsTo_23 : decode cX1_leadsTo 23 = .ok (.getfield 21, 3) := by decide +kernel
theorem dX1_leadsTo_26 : decode cX1_leadsTo 26 = .ok (.aload_n 0, 1) := by decide +kernel
theorem dX1_leadsTo_27 : decode cX1_leadsTo 27 = .ok (.getfield 15, 3) := by decide +kernel
theorem dX1_leadsTo_30 : decode cX1_leadsTo 30 = .ok (.iload_n 3, 1) := by decide +kernel
theorem dX1_leadsTo_31 : decode cX1_leadsTo 31 = .ok (.iaload, 1) := by decide +kernel
theorem dX1_leadsTo_32 : decode cX1_leadsTo 32 = .ok (.iaload, 1) := by decide +kernel
theorem dX1_leadsTo_33 : decode cX1_leadsTo 33 = .ok (.iload_n 2, 1) := by decide +kernel
theorem dX1_leadsTo_34 : decode cX1_leadsTo 34 = .ok (.iand, 1) := by decide +kernel
theorem dX1_leadsTo_35 : decode cX1_leadsTo 35 = .ok (.istore 5, 2) := by decide +kernel
theorem dX1_leadsTo_37 : decode cX1_leadsTo 37 = .ok (.iload 5, 2) := by decide +kernel
theorem dX1_leadsTo_39 : decode cX1_leadsTo 39 = .ok (.iload 5, 2) := by decide +kernel
theorem dX1_leadsTo_41 : decode cX1_leadsTo 41 = .ok (.ineg, 1) := by decide +kernel
theorem dX1_leadsTo_42 : decode cX1_leadsTo 42 = .ok (.iand, 1) := by decide +kernel
theorem dX1_leadsTo_43 : decode cX1_leadsTo 43 = .ok (.iconst 1, 1) := by decide +kernel
theorem dX1_leadsTo_44 : decode cX1_leadsTo 44 = .ok (.aload_n 0, 1) := by decide +kernel
theorem dX1_leadsTo_45 : decode cX1_leadsTo 45 = .ok (.getfield 18, 3) := by decide +kernel
theorem dX1_leadsTo_48 : decode cX1_leadsTo 48 = .ok (.iload_n 3, 1) := by decide +kernel
theorem dX1_leadsTo_49 : decode cX1_leadsTo 49 = .ok (.iaload, 1) := by decide +kernel
theorem dX1_leadsTo_50 : decode cX1_leadsTo 50 = .ok (.ishl, 1) := by decide +kernel
theorem dX1_leadsTo_51 : decode cX1_leadsTo 51 = .ok (.if_icmp .eq 5, 3) := by decide +kernel
theorem dX1_leadsTo_54 : decode cX1_leadsTo 54 = .ok (.iconst 0, 1) := by decide +kernel
theorem dX1_leadsTo_55 : decode cX1_leadsTo 55 = .ok (.ireturn, 1) := by decide +kernel
theorem dX1_leadsTo_56 : decode cX1_leadsTo 56 = .ok (.aload_n 0, 1) := by decide +kernel
theorem dX1_leadsTo_57 : decode cX1_leadsTo 57 = .ok (.getfield 15, 3) := by decide +kernel
theorem dX1_leadsTo_60 : decode cX1_leadsTo 60 = .ok (.iload_n 3, 1) := by decide +kernel
theorem dX1_leadsTo_61 : decode cX1_leadsTo 61 = .ok (.iaload, 1) := by decide +kernel
theorem dX1_leadsTo_62 : decode cX1_leadsTo 62 = .ok (.istore_n 3, 1) := by decide +kernel
theorem dX1_leadsTo_63 : decode cX1_leadsTo 63 = .ok (.iinc 4 1, 3) := by decide +kernel
theorem dX1_leadsTo_66 : decode cX1_leadsTo 66 = .ok (.goto (-61), 3) := by decide +kernel
theorem dX1_leadsTo_69 : decode cX1_leadsTo 69 = .ok (.iconst 1, 1) := by decide +kernel
theorem dX1_leadsTo_70 : decode cX1_leadsTo 70 = .ok (.ireturn, 1) := by decide +kernel
theorem dX1_leadersUnder_0 : decode cX1_leadersUnder 0 = .ok (.iconst 0, 1) := by decide +kernel
theorem dX1_leadersUnder_1 : decode cX1_leadersUnder 1 = .ok (.istore_n 2, 1) := by decide +kernel
theorem dX1_leadersUnder_2 : decode cX1_leadersUnder 2 = .ok (.iconst 0, 1) := by decide +kernel
theorem dX1_leadersUnder_3 : decode cX1_leadersUnder 3 = .ok (.istore_n 3, 1) := by decide +kernel
theorem dX1_leadersUnder_4 : decode cX1_leadersUnder 4 = .ok (.iload_n 3, 1) := by decide +kernel
theorem dX1_leadersUnder_5 : decode cX1_leadersUnder 5 = .ok (.aload_n 0, 1) := by decide +kernel
theorem dX1_leadersUnder_6 : decode cX1_leadersUnder 6 = .ok (.getfield 24, 3) := by decide +kernel
theorem dX1_leadersUnder_9 : decode cX1_leadersUnder 9 = .ok (.if_icmp .ge 60, 3) := by decide +kernel
theorem dX1_leadersUnder_12 : decode cX1_leadersUnder 12 = .ok (.aload_n 0, 1) := by decide +kernel
theorem dX1_leadersUnder_13 : decode cX1_leadersUnder 13 = .ok (.getfield 18, 3) := by decide +kernel
theorem dX1_leadersUnder_16 : decode cX1_leadersUnder 16 = .ok (.iload_n 3, 1) := by decide +kernel
theorem dX1_leadersUnder_17 : decode cX1_leadersUnder 17 = .ok (.iaload, 1) := by decide +kernel
theorem dX1_leadersUnder_18 : decode cX1_leadersUnder 18 = .ok (.iload_n 1, 1) := by decide +kernel
theorem dX1_leadersUnder_19 : decode cX1_leadersUnder 19 = .ok (.if_icmp .ne 44, 3) := by decide +kernel
theorem dX1_leadersUnder_22 : decode cX1_leadersUnder 22 = .ok (.aload_n 0, 1) := by decide +kernel
theorem dX1_leadersUnder_23 : decode cX1_leadersUnder 23 = .ok (.getfield 15, 3) := by decide +kernel
theorem dX1_leadersUnder_26 : decode cX1_leadersUnder 26 = .ok (.iload_n 3, 1) := by decide +kernel
theorem dX1_leadersUnder_27 : decode cX1_leadersUnder 27 = .ok (.iaload, 1) := by decide +kernel
theorem dX1_leadersUnder_28 : decode cX1_leadersUnder 28 = .ok (.iconst (-1), 1) := by decide +kernel
theorem dX1_leadersUnder_29 : decode cX1_leadersUnder 29 = .ok (.if_icmp .eq 34, 3) := by decide +kernel
theorem dX1_leadersUnder_32 : decode cX1_leadersUnder 32 = .ok (.aload_n 0, 1) := by decide +kernel
theorem dX1_leadersUnder_33 : decode cX1_leadersUnder 33 = .ok (.getfield 18, 3) := by decide +kernel
theorem dX1_leadersUnder_36 : decode cX1_leadersUnder 36 = .ok (.aload_n 0, 1) := by decide +kernel
theorem dX1_leadersUnder_37 : decode cX1_leadersUnder 37 = .ok (.getfield 15, 3) := by decide +kernel
theorem dX1_leadersUnder_40 : decode cX1_leadersUnder 40 = .ok (.iload_n 3, 1) := by decide +kernel
theorem dX1_leadersUnder_41 : decode cX1_leadersUnder 41 = .ok (.iaload, 1) := by decide +kernel
theorem dX1_leadersUnder_42 : decode cX1_leadersUnder 42 = .ok (.iaload, 1) := by decide +kernel
theorem dX1_leadersUnder_43 : decode cX1_leadersUnder 43 = .ok (.iconst (-1), 1) := by decide +kernel
theorem dX1_leadersUnder_44 : decode cX1_leadersUnder 44 = .ok (.if_icmp .eq 19, 3) := by decide +kernel
theorem dX1_leadersUnder_47 : decode cX1_leadersUnder 47 = .ok (.iload_n 2, 1) := by decide +kernel
theorem dX1_leadersUnder_48 : decode cX1_leadersUnder 48 = .ok (.iconst 1, 1) := by decide +kernel
theorem dX1_leadersUnder_49 : decode cX1_leadersUnder 49 = .ok (.aload_n 0, 1) := by decide +kernel
theorem dX1_leadersUnder_50 : decode cX1_leadersUnder 50 = .ok (.getfield 18, 3) := by decide +kernel
theorem dX1_leadersUnder_53 : decode cX1_leadersUnder 53 = .ok (.aload_n 0, 1) := by decide +kernel
theorem dX1_leadersUnder_54 : decode cX1_leadersUnder 54 = .ok (.getfield 15, 3) := by decide +kernel
theorem dX1_leadersUnder_57 : decode cX1_leadersUnder 57 = .ok (.iload_n 3, 1) := by decide +kernel
theorem dX1_leadersUnder_58 : decode cX1_leadersUnder 58 = .ok (.iaload, 1) := by decide +kernel
theorem dX1_leadersUnder_59 : decode cX1_leadersUnder 59 = .ok (.iaload, 1) := by decide +kernel
theorem dX1_leadersUnder_60 : decode cX1_leadersUnder 60 = .ok (.ishl, 1) := by decide +kernel
theorem dX1_leadersUnder_61 : decode cX1_leadersUnder 61 = .ok (.ior, 1) := by decide +kernel
theorem dX1_leadersUnder_62 : decode cX1_leadersUnder 62 = .ok (.istore_n 2, 1) := by decide +kernel
theorem dX1_leadersUnder_63 : decode cX1_leadersUnder 63 = .ok (.iinc 3 1, 3) := by decide +kernel
theorem dX1_leadersUnder_66 : decode cX1_leadersUnder 66 = .ok (.goto (-62), 3) := by decide +kernel
theorem dX1_leadersUnder_69 : decode cX1_leadersUnder 69 = .ok (.iload_n 2, 1) := by decide +kernel
theorem dX1_leadersUnder_70 : decode cX1_leadersUnder 70 = .ok (.ireturn, 1) := by decide +kernel
theorem dX1_tornBy_0 : decode cX1_tornBy 0 = .ok (.lconst 0, 1) := by decide +kernel
theorem dX1_tornBy_1 : decode cX1_tornBy 1 = .ok (.lstore_n 2, 1) := by decide +kernel
theorem dX1_tornBy_2 : decode cX1_tornBy 2 = .ok (.iconst 0, 1) := by decide +kernel
theorem dX1_tornBy_3 : decode cX1_tornBy 3 = .ok (.istore 4, 2) := by decide +kernel
theorem dX1_tornBy_5 : decode cX1_tornBy 5 = .ok (.iload 4, 2) := by decide +kernel
theorem dX1_tornBy_7 : decode cX1_tornBy 7 = .ok (.aload_n 0, 1) := by decide +kernel
theorem dX1_tornBy_8 : decode cX1_tornBy 8 = .ok (.getfield 24, 3) := by decide +kernel
theorem dX1_tornBy_11 : decode cX1_tornBy 11 = .ok (.if_icmp .ge 37, 3) := by decide +kernel
theorem dX1_tornBy_14 : decode cX1_tornBy 14 = .ok (.aload_n 0, 1) := by decide +kernel
theorem dX1_tornBy_15 : decode cX1_tornBy 15 = .ok (.getfield 21, 3) := by decide +kernel
theorem dX1_tornBy_18 : decode cX1_tornBy 18 = .ok (.iload 4, 2) := by decide +kernel
theorem dX1_tornBy_20 : decode cX1_tornBy 20 = .ok (.iaload, 1) := by decide +kernel
theorem dX1_tornBy_21 : decode cX1_tornBy 21 = .ok (.iload_n 1, 1) := by decide +kernel
theorem dX1_tornBy_22 : decode cX1_tornBy 22 = .ok (.iand, 1) := by decide +kernel
theorem dX1_tornBy_23 : decode cX1_tornBy 23 = .ok (.invokestatic 32, 3) := by decide +kernel
theorem dX1_tornBy_26 : decode cX1_tornBy 26 = .ok (.iconst 2, 1) := by decide +kernel
theorem dX1_tornBy_27 : decode cX1_tornBy 27 = .ok (.if_icmp .lt 15, 3) := by decide +kernel
theorem dX1_tornBy_30 : decode cX1_tornBy 30 = .ok (.lload_n 2, 1) := by decide +kernel
theorem dX1_tornBy_31 : decode cX1_tornBy 31 = .ok (.lconst 1, 1) := by decide +kernel
theorem dX1_tornBy_32 : decode cX1_tornBy 32 = .ok (.aload_n 0, 1) := by decide +kernel
theorem dX1_tornBy_33 : decode cX1_tornBy 33 = .ok (.getfield 9, 3) := by decide +kernel
theorem dX1_tornBy_36 : decode cX1_tornBy 36 = .ok (.iload 4, 2) := by decide +kernel
theorem dX1_tornBy_38 : decode cX1_tornBy 38 = .ok (.iaload, 1) := by decide +kernel
theorem dX1_tornBy_39 : decode cX1_tornBy 39 = .ok (.lshl, 1) := by decide +kernel
theorem dX1_tornBy_40 : decode cX1_tornBy 40 = .ok (.lor, 1) := by decide +kernel
theorem dX1_tornBy_41 : decode cX1_tornBy 41 = .ok (.lstore_n 2, 1) := by decide +kernel
theorem dX1_tornBy_42 : decode cX1_tornBy 42 = .ok (.iinc 4 1, 3) := by decide +kernel
theorem dX1_tornBy_45 : decode cX1_tornBy 45 = .ok (.goto (-40), 3) := by decide +kernel
theorem dX1_tornBy_48 : decode cX1_tornBy 48 = .ok (.lload_n 2, 1) := by decide +kernel
theorem dX1_tornBy_49 : decode cX1_tornBy 49 = .ok (.lreturn, 1) := by decide +kernel
theorem dX2_init_0 : decode cX2_init 0 = .ok (.aload_n 0, 1) := by decide +kernel
theorem dX2_init_1 : decode cX2_init 1 = .ok (.invokespecial 3, 3) := by decide +kernel
theorem dX2_init_4 : decode cX2_init 4 = .ok (.aload_n 0, 1) := by decide +kernel
theorem dX2_init_5 : decode cX2_init 5 = .ok (.bipush 90, 2) := by decide +kernel
theorem dX2_init_7 : decode cX2_init 7 = .ok (.newarray .int, 2) := by decide +kernel
theorem dX2_init_9 : decode cX2_init 9 = .ok (.putfield 9, 3) := by decide +kernel
theorem dX2_init_12 : decode cX2_init 12 = .ok (.aload_n 0, 1) := by decide +kernel
theorem dX2_init_13 : decode cX2_init 13 = .ok (.bipush 90, 2) := by decide +kernel
theorem dX2_init_15 : decode cX2_init 15 = .ok (.newarray .int, 2) := by decide +kernel
theorem dX2_init_17 : decode cX2_init 17 = .ok (.putfield 15, 3) := by decide +kernel
theorem dX2_init_20 : decode cX2_init 20 = .ok (.aload_n 0, 1) := by decide +kernel
theorem dX2_init_21 : decode cX2_init 21 = .ok (.bipush 90, 2) := by decide +kernel
theorem dX2_init_23 : decode cX2_init 23 = .ok (.newarray .int, 2) := by decide +kernel
theorem dX2_init_25 : decode cX2_init 25 = .ok (.putfield 18, 3) := by decide +kernel
theorem dX2_init_28 : decode cX2_init 28 = .ok (.aload_n 0, 1) := by decide +kernel
theorem dX2_init_29 : decode cX2_init 29 = .ok (.iconst 0, 1) := by decide +kernel
theorem dX2_init_30 : decode cX2_init 30 = .ok (.putfield 21, 3) := by decide +kernel
theorem dX2_init_33 : decode cX2_init 33 = .ok (.return_, 1) := by decide +kernel
theorem dX2_take_0 : decode cX2_take 0 = .ok (.aload_n 0, 1) := by decide +kernel
theorem dX2_take_1 : decode cX2_take 1 = .ok (.getfield 21, 3) := by decide +kernel
theorem dX2_take_4 : decode cX2_take 4 = .ok (.ifCond .eq 18, 3) := by decide +kernel
theorem dX2_take_7 : decode cX2_take 7 = .ok (.aload_n 0, 1) := by decide +kernel
theorem dX2_take_8 : decode cX2_take 8 = .ok (.getfield 9, 3) := by decide +kernel
theorem dX2_take_11 : decode cX2_take 11 = .ok (.aload_n 0, 1) := by decide +kernel
theorem dX2_take_12 : decode cX2_take 12 = .ok (.getfield 21, 3) := by decide +kernel
theorem dX2_take_15 : decode cX2_take 15 = .ok (.iconst 1, 1) := by decide +kernel
theorem dX2_take_16 : decode cX2_take 16 = .ok (.isub, 1) := by decide +kernel
theorem dX2_take_17 : decode cX2_take 17 = .ok (.iaload, 1) := by decide +kernel
theorem dX2_take_18 : decode cX2_take 18 = .ok (.iload_n 2, 1) := by decide +kernel
theorem dX2_take_19 : decode cX2_take 19 = .ok (.if_icmp .eq 43, 3) := by decide +kernel
theorem dX2_take_22 : decode cX2_take 22 = .ok (.aload_n 0, 1) := by decide +kernel
theorem dX2_take_23 : decode cX2_take 23 = .ok (.getfield 9, 3) := by decide +kernel
theorem dX2_take_26 : decode cX2_take 26 = .ok (.aload_n 0, 1) := by decide +kernel
theorem dX2_take_27 : decode cX2_take 27 = .ok (.getfield 21, 3) := by decide +kernel
theorem dX2_take_30 : decode cX2_take 30 = .ok (.iload_n 2, 1) := by decide +kernel
theorem dX2_take_31 : decode cX2_take 31 = .ok (.iastore, 1) := by decide +kernel
theorem dX2_take_32 : decode cX2_take 32 = .ok (.aload_n 0, 1) := by decide +kernel
theorem dX2_take_33 : decode cX2_take 33 = .ok (.getfield 15, 3) := by decide +kernel
theorem dX2_take_36 : decode cX2_take 36 = .ok (.aload_n 0, 1) := by decide +kernel
theorem dX2_take_37 : decode cX2_take 37 = .ok (.getfield 21, 3) := by decide +kernel
theorem dX2_take_40 : decode cX2_take 40 = .ok (.iconst 0, 1) := by decide +kernel
theorem dX2_take_41 : decode cX2_take 41 = .ok (.iastore, 1) := by decide +kernel
theorem dX2_take_42 : decode cX2_take 42 = .ok (.aload_n 0, 1) := by decide +kernel
theorem dX2_take_43 : decode cX2_take 43 = .ok (.getfield 18, 3) := by decide +kernel
theorem dX2_take_46 : decode cX2_take 46 = .ok (.aload_n 0, 1) := by decide +kernel
theorem dX2_take_47 : decode cX2_take 47 = .ok (.getfield 21, 3) := by decide +kernel
theorem dX2_take_50 : decode cX2_take 50 = .ok (.iload_n 1, 1) := by decide +kernel
theorem dX2_take_51 : decode cX2_take 51 = .ok (.iastore, 1) := by decide +kernel
theorem dX2_take_52 : decode cX2_take 52 = .ok (.aload_n 0, 1) := by decide +kernel
theorem dX2_take_53 : decode cX2_take 53 = .ok (.dup, 1) := by decide +kernel
theorem dX2_take_54 : decode cX2_take 54 = .ok (.getfield 21, 3) := by decide +kernel
theorem dX2_take_57 : decode cX2_take 57 = .ok (.iconst 1, 1) := by decide +kernel
theorem dX2_take_58 : decode cX2_take 58 = .ok (.iadd, 1) := by decide +kernel
theorem dX2_take_59 : decode cX2_take 59 = .ok (.putfield 21, 3) := by decide +kernel
theorem dX2_take_62 : decode cX2_take 62 = .ok (.aload_n 0, 1) := by decide +kernel
theorem dX2_take_63 : decode cX2_take 63 = .ok (.getfield 15, 3) := by decide +kernel
theorem dX2_take_66 : decode cX2_take 66 = .ok (.aload_n 0, 1) := by decide +kernel
theorem dX2_take_67 : decode cX2_take 67 = .ok (.getfield 21, 3) := by decide +kernel
theorem dX2_take_70 : decode cX2_take 70 = .ok (.iconst 1, 1) := by decide +kernel
theorem dX2_take_71 : decode cX2_take 71 = .ok (.isub, 1) := by decide +kernel
theorem dX2_take_72 : decode cX2_take 72 = .ok (.dup2, 1) := by decide +kernel
theorem dX2_take_73 : decode cX2_take 73 = .ok (.iaload, 1) := by decide +kernel
theorem dX2_take_74 : decode cX2_take 74 = .ok (.iconst 1, 1) := by decide +kernel
theorem dX2_take_75 : decode cX2_take 75 = .ok (.iadd, 1) := by decide +kernel
theorem dX2_take_76 : decode cX2_take 76 = .ok (.iastore, 1) := by decide +kernel
theorem dX2_take_77 : decode cX2_take 77 = .ok (.return_, 1) := by decide +kernel
theorem dX2_factOf_0 : decode cX2_factOf 0 = .ok (.iload_n 2, 1) := by decide +kernel
theorem dX2_factOf_1 : decode cX2_factOf 1 = .ok (.lookupswitch 41 #[(1, 27), (2, 34)], 27) := by decide +kernel
theorem dX2_factOf_28 : decode cX2_factOf 28 = .ok (.aload_n 0, 1) := by decide +kernel
theorem dX2_factOf_29 : decode cX2_factOf 29 = .ok (.getfield 9, 3) := by decide +kernel
theorem dX2_factOf_32 : decode cX2_factOf 32 = .ok (.iload_n 1, 1) := by decide +kernel
theorem dX2_factOf_33 : decode cX2_factOf 33 = .ok (.iaload, 1) := by decide +kernel
theorem dX2_factOf_34 : decode cX2_factOf 34 = .ok (.ireturn, 1) := by decide +kernel
theorem dX2_factOf_35 : decode cX2_factOf 35 = .ok (.aload_n 0, 1) := by decide +kernel
theorem dX2_factOf_36 : decode cX2_factOf 36 = .ok (.getfield 15, 3) := by decide +kernel
theorem dX2_factOf_39 : decode cX2_factOf 39 = .ok (.iload_n 1, 1) := by decide +kernel
theorem dX2_factOf_40 : decode cX2_factOf 40 = .ok (.iaload, 1) := by decide +kernel
theorem dX2_factOf_41 : decode cX2_factOf 41 = .ok (.ireturn, 1) := by decide +kernel
theorem dX2_factOf_42 : decode cX2_factOf 42 = .ok (.aload_n 0, 1) := by decide +kernel
theorem dX2_factOf_43 : decode cX2_factOf 43 = .ok (.getfield 18, 3) := by decide +kernel
theorem dX2_factOf_46 : decode cX2_factOf 46 = .ok (.iload_n 1, 1) := by decide +kernel
theorem dX2_factOf_47 : decode cX2_factOf 47 = .ok (.iaload, 1) := by decide +kernel
theorem dX2_factOf_48 : decode cX2_factOf 48 = .ok (.ireturn, 1) := by decide +kernel
theorem dX3_init_0 : decode cX3_init 0 = .ok (.aload_n 0, 1) := by decide +kernel
theorem dX3_init_1 : decode cX3_init 1 = .ok (.invokespecial 1, 3) := by decide +kernel
theorem dX3_init_4 : decode cX3_init 4 = .ok (.aload_n 0, 1) := by decide +kernel
theorem dX3_init_5 : decode cX3_init 5 = .ok (.bipush 40, 2) := by decide +kernel
theorem dX3_init_7 : decode cX3_init 7 = .ok (.newarray .int, 2) := by decide +kernel
theorem dX3_init_9 : decode cX3_init 9 = .ok (.putfield 9, 3) := by decide +kernel
theorem dX3_init_12 : decode cX3_init 12 = .ok (.aload_n 0, 1) := by decide +kernel
theorem dX3_init_13 : decode cX3_init 13 = .ok (.iconst 0, 1) := by decide +kernel
theorem dX3_init_14 : decode cX3_init 14 = .ok (.putfield 13, 3) := by decide +kernel
theorem dX3_init_17 : decode cX3_init 17 = .ok (.aload_n 0, 1) := by decide +kernel
theorem dX3_init_18 : decode cX3_init 18 = .ok (.bipush 64, 2) := by decide +kernel
theorem dX3_init_20 : decode cX3_init 20 = .ok (.newarray .int, 2) := by decide +kernel
theorem dX3_init_22 : decode cX3_init 22 = .ok (.putfield 17, 3) := by decide +kernel
theorem dX3_init_25 : decode cX3_init 25 = .ok (.aload_n 0, 1) := by decide +kernel
theorem dX3_init_26 : decode cX3_init 26 = .ok (.iconst 0, 1) := by decide +kernel
theorem dX3_init_27 : decode cX3_init 27 = .ok (.putfield 20, 3) := by decide +kernel
theorem dX3_init_30 : decode cX3_init 30 = .ok (.aload_n 0, 1) := by decide +kernel
theorem dX3_init_31 : decode cX3_init 31 = .ok (.lconst 0, 1) := by decide +kernel
theorem dX3_init_32 : decode cX3_init 32 = .ok (.putfield 23, 3) := by decide +kernel
theorem dX3_init_35 : decode cX3_init 35 = .ok (.aload_n 0, 1) := by decide +kernel
theorem dX3_init_36 : decode cX3_init 36 = .ok (.new 27, 3) := by decide +kernel
theorem dX3_init_39 : decode cX3_init 39 = .ok (.dup, 1) := by decide +kernel
theorem dX3_init_40 : decode cX3_init 40 = .ok (.invokespecial 29, 3) := by decide +kernel
theorem dX3_init_43 : decode cX3_init 43 = .ok (.putfield 30, 3) := by decide +kernel
theorem dX3_init_46 : decode cX3_init 46 = .ok (.aload_n 0, 1) := by decide +kernel
theorem dX3_init_47 : decode cX3_init 47 = .ok (.new 34, 3) := by decide +kernel
theorem dX3_init_50 : decode cX3_init 50 = .ok (.dup, 1) := by decide +kernel
theorem dX3_init_51 : decode cX3_init 51 = .ok (.invokespecial 36, 3) := by decide +kernel
theorem dX3_init_54 : decode cX3_init 54 = .ok (.putfield 37, 3) := by decide +kernel
theorem dX3_init_57 : decode cX3_init 57 = .ok (.aload_n 0, 1) := by decide +kernel
theorem dX3_init_58 : decode cX3_init 58 = .ok (.new 41, 3) := by decide +kernel
theorem dX3_init_61 : decode cX3_init 61 = .ok (.dup, 1) := by decide +kernel
theorem dX3_init_62 : decode cX3_init 62 = .ok (.invokespecial 43, 3) := by decide +kernel
theorem dX3_init_65 : decode cX3_init 65 = .ok (.putfield 44, 3) := by decide +kernel
theorem dX3_init_68 : decode cX3_init 68 = .ok (.aload_n 0, 1) := by decide +kernel
theorem dX3_init_69 : decode cX3_init 69 = .ok (.bipush 90, 2) := by decide +kernel
theorem dX3_init_71 : decode cX3_init 71 = .ok (.newarray .int, 2) := by decide +kernel
theorem dX3_init_73 : decode cX3_init 73 = .ok (.putfield 48, 3) := by decide +kernel
theorem dX3_init_76 : decode cX3_init 76 = .ok (.aload_n 0, 1) := by decide +kernel
theorem dX3_init_77 : decode cX3_init 77 = .ok (.iconst 0, 1) := by decide +kernel
theorem dX3_init_78 : decode cX3_init 78 = .ok (.putfield 51, 3) := by decide +kernel
theorem dX3_init_81 : decode cX3_init 81 = .ok (.aload_n 0, 1) := by decide +kernel
theorem dX3_init_82 : decode cX3_init 82 = .ok (.iconst (-1), 1) := by decide +kernel
theorem dX3_init_83 : decode cX3_init 83 = .ok (.putfield 54, 3) := by decide +kernel
theorem dX3_init_86 : decode cX3_init 86 = .ok (.aload_n 0, 1) := by decide +kernel
theorem dX3_init_87 : decode cX3_init 87 = .ok (.iconst 0, 1) := by decide +kernel
theorem dX3_init_88 : decode cX3_init 88 = .ok (.putfield 57, 3) := by decide +kernel
theorem dX3_init_91 : decode cX3_init 91 = .ok (.aload_n 0, 1) := by decide +kernel
theorem dX3_init_92 : decode cX3_init 92 = .ok (.iconst 0, 1) := by decide +kernel
theorem dX3_init_93 : decode cX3_init 93 = .ok (.putfield 60, 3) := by decide +kernel
theorem dX3_init_96 : decode cX3_init 96 = .ok (.return_, 1) := by decide +kernel
theorem dX3_letter_0 : decode cX3_letter 0 = .ok (.iload_n 1, 1) := by decide +kernel
theorem dX3_letter_1 : decode cX3_letter 1 = .ok (.bipush 32, 2) := by decide +kernel
theorem dX3_letter_3 : decode cX3_letter 3 = .ok (.if_icmp .lt 9, 3) := by decide +kernel
theorem dX3_letter_6 : decode cX3_letter 6 = .ok (.iload_n 1, 1) := by decide +kernel
theorem dX3_letter_7 : decode cX3_letter 7 = .ok (.bipush 126, 2) := by decide +kernel
theorem dX3_letter_9 : decode cX3_letter 9 = .ok (.if_icmp .le 7, 3) := by decide +kernel
theorem dX3_letter_12 : decode cX3_letter 12 = .ok (.sipush (-1002), 3) := by decide +kernel
theorem dX3_letter_15 : decode cX3_letter 15 = .ok (.ireturn, 1) := by decide +kernel
theorem dX3_letter_16 : decode cX3_letter 16 = .ok (.aload_n 0, 1) := by decide +kernel
theorem dX3_letter_17 : decode cX3_letter 17 = .ok (.getfield 13, 3) := by decide +kernel
theorem dX3_letter_20 : decode cX3_letter 20 = .ok (.bipush 40, 2) := by decide +kernel
theorem dX3_letter_22 : decode cX3_letter 22 = .ok (.if_icmp .lt 7, 3) := by decide +kernel
theorem dX3_letter_25 : decode cX3_letter 25 = .ok (.sipush (-1004), 3) := by decide +kernel
theorem dX3_letter_28 : decode cX3_letter 28 = .ok (.ireturn, 1) := by decide +kernel
theorem dX3_letter_29 : decode cX3_letter 29 = .ok (.aload_n 0, 1) := by decide +kernel
theorem dX3_letter_30 : decode cX3_letter 30 = .ok (.getfield 9, 3) := by decide +kernel
theorem dX3_letter_33 : decode cX3_letter 33 = .ok (.aload_n 0, 1) := by decide +kernel
theorem dX3_letter_34 : decode cX3_letter 34 = .ok (.getfield 13, 3) := by decide +kernel
theorem dX3_letter_37 : decode cX3_letter 37 = .ok (.iload_n 1, 1) := by decide +kernel
theorem dX3_letter_38 : decode cX3_letter 38 = .ok (.iastore, 1) := by decide +kernel
theorem dX3_letter_39 : decode cX3_letter 39 = .ok (.aload_n 0, 1) := by decide +kernel
theorem dX3_letter_40 : decode cX3_letter 40 = .ok (.dup, 1) := by decide +kernel
theorem dX3_letter_41 : decode cX3_letter 41 = .ok (.getfield 13, 3) := by decide +kernel
theorem dX3_letter_44 : decode cX3_letter 44 = .ok (.iconst 1, 1) := by decide +kernel
theorem dX3_letter_45 : decode cX3_letter 45 = .ok (.iadd, 1) := by decide +kernel
theorem dX3_letter_46 : decode cX3_letter 46 = .ok (.putfield 13, 3) := by decide +kernel
theorem dX3_letter_49 : decode cX3_letter 49 = .ok (.aload_n 0, 1) := by decide +kernel
theorem dX3_letter_50 : decode cX3_letter 50 = .ok (.getfield 13, 3) := by decide +kernel
theorem dX3_letter_53 : decode cX3_letter 53 = .ok (.ireturn, 1) := by decide +kernel
theorem dX3_blank_0 : decode cX3_blank 0 = .ok (.aload_n 0, 1) := by decide +kernel
theorem dX3_blank_1 : decode cX3_blank 1 = .ok (.getfield 13, 3) := by decide +kernel
theorem dX3_blank_4 : decode cX3_blank 4 = .ok (.istore_n 1, 1) := by decide +kernel
theorem dX3_blank_5 : decode cX3_blank 5 = .ok (.aload_n 0, 1) := by decide +kernel
theorem dX3_blank_6 : decode cX3_blank 6 = .ok (.iconst 0, 1) := by decide +kernel
theorem dX3_blank_7 : decode cX3_blank 7 = .ok (.putfield 13, 3) := by decide +kernel
theorem dX3_blank_10 : decode cX3_blank 10 = .ok (.iload_n 1, 1) := by decide +kernel
theorem dX3_blank_11 : decode cX3_blank 11 = .ok (.ireturn, 1) := by decide +kernel
theorem dX3_begin_0 : decode cX3_begin 0 = .ok (.aload_n 0, 1) := by decide +kernel
theorem dX3_begin_1 : decode cX3_begin 1 = .ok (.aload_n 0, 1) := by decide +kernel
theorem dX3_begin_2 : decode cX3_begin 2 = .ok (.getfield 9, 3) := by decide +kernel
theorem dX3_begin_5 : decode cX3_begin 5 = .ok (.aload_n 0, 1) := by decide +kernel
theorem dX3_begin_6 : decode cX3_begin 6 = .ok (.getfield 13, 3) := by decide +kernel
theorem dX3_begin_9 : decode cX3_begin 9 = .ok (.invokevirtual 63, 3) := by decide +kernel
theorem dX3_begin_12 : decode cX3_begin 12 = .ok (.aload_n 0, 1) := by decide +kernel
theorem dX3_begin_13 : decode cX3_begin 13 = .ok (.iconst 0, 1) := by decide +kernel
theorem dX3_begin_14 : decode cX3_begin 14 = .ok (.putfield 13, 3) := by decide +kernel
theorem dX3_begin_17 : decode cX3_begin 17 = .ok (.aload_n 0, 1) := by decide +kernel
theorem dX3_begin_18 : decode cX3_begin 18 = .ok (.dup, 1) := by decide +kernel
theorem dX3_begin_19 : decode cX3_begin 19 = .ok (.getfield 57, 3) := by decide +kernel
theorem dX3_begin_22 : decode cX3_begin 22 = .ok (.iconst 1, 1) := by decide +kernel
theorem dX3_begin_23 : decode cX3_begin 23 = .ok (.iadd, 1) := by decide +kernel
theorem dX3_begin_24 : decode cX3_begin 24 = .ok (.putfield 57, 3) := by decide +kernel
theorem dX3_begin_27 : decode cX3_begin 27 = .ok (.aload_n 0, 1) := by decide +kernel
theorem dX3_begin_28 : decode cX3_begin 28 = .ok (.getfield 20, 3) := by decide +kernel
theorem dX3_begin_31 : decode cX3_begin 31 = .ok (.ireturn, 1) := by decide +kernel
theorem dX3_startText_0 : decode cX3_startText 0 = .ok (.aload_n 0, 1) := by decide +kernel
theorem dX3_startText_1 : decode cX3_startText 1 = .ok (.getfield 30, 3) := by decide +kernel
theorem dX3_startText_4 : decode cX3_startText 4 = .ok (.iconst 0, 1) := by decide +kernel
theorem dX3_startText_5 : decode cX3_startText 5 = .ok (.putfield 67, 3) := by decide +kernel
theorem dX3_startText_8 : decode cX3_startText 8 = .ok (.aload_n 0, 1) := by decide +kernel
theorem dX3_startText_9 : decode cX3_startText 9 = .ok (.getfield 37, 3) := by decide +kernel
theorem dX3_startText_12 : decode cX3_startText 12 = .ok (.iconst 0, 1) := by decide +kernel
theorem dX3_startText_13 : decode cX3_startText 13 = .ok (.putfield 70, 3) := by decide +kernel
theorem dX3_startText_16 : decode cX3_startText 16 = .ok (.aload_n 0, 1) := by decide +kernel
theorem dX3_startText_17 : decode cX3_startText 17 = .ok (.iconst 0, 1) := by decide +kernel
theorem dX3_startText_18 : decode cX3_startText 18 = .ok (.putfield 20, 3) := by decide +kernel
theorem dX3_startText_21 : decode cX3_startText 21 = .ok (.iconst 0, 1) := by decide +kernel
theorem dX3_startText_22 : decode cX3_startText 22 = .ok (.istore_n 3, 1) := by decide +kernel
theorem dX3_startText_23 : decode cX3_startText 23 = .ok (.iload_n 3, 1) := by decide +kernel
theorem dX3_startText_24 : decode cX3_startText 24 = .ok (.iload_n 2, 1) := by decide +kernel
theorem dX3_startText_25 : decode cX3_startText 25 = .ok (.if_icmp .ge 24, 3) := by decide +kernel
theorem dX3_startText_28 : decode cX3_startText 28 = .ok (.iload_n 3, 1) := by decide +kernel
theorem dX3_startText_29 : decode cX3_startText 29 = .ok (.bipush 64, 2) := by decide +kernel
theorem dX3_startText_31 : decode cX3_startText 31 = .ok (.if_icmp .ge 18, 3) := by decide +kernel
theorem dX3_startText_34 : decode cX3_startText 34 = .ok (.aload_n 0, 1) := by decide +kernel
theorem dX3_startText_35 : decode cX3_startText 35 = .ok (.aload_n 1, 1) := by decide +kernel
theorem dX3_startText_36 : decode cX3_startText 36 = .ok (.iload_n 3, 1) := by decide +kernel
theorem dX3_startText_37 : decode cX3_startText 37 = .ok (.iaload, 1) := by decide +kernel
theorem dX3_startText_38 : decode cX3_startText 38 = .ok (.iload_n 3, 1) := by decide +kernel
theorem dX3_startText_39 : decode cX3_startText 39 = .ok (.iconst (-1), 1) := by decide +kernel
theorem dX3_startText_40 : decode cX3_startText 40 = .ok (.invokevirtual 71, 3) := by decide +kernel
theorem dX3_startText_43 : decode cX3_startText 43 = .ok (.iinc 3 1, 3) := by decide +kernel
theorem dX3_startText_46 : decode cX3_startText 46 = .ok (.goto (-23), 3) := by decide +kernel
theorem dX3_startText_49 : decode cX3_startText 49 = .ok (.aload_n 0, 1) := by decide +kernel
theorem dX3_startText_50 : decode cX3_startText 50 = .ok (.aload_n 0, 1) := by decide +kernel
theorem dX3_startText_51 : decode cX3_startText 51 = .ok (.getfield 20, 3) := by decide +kernel
theorem dX3_startText_54 : decode cX3_startText 54 = .ok (.invokestatic 75, 3) := by decide +kernel
theorem dX3_startText_57 : decode cX3_startText 57 = .ok (.putfield 23, 3) := by decide +kernel
theorem dX3_startText_60 : decode cX3_startText 60 = .ok (.return_, 1) := by decide +kernel
theorem dX3_firstLetters_0 : decode cX3_firstLetters 0 = .ok (.iload_n 0, 1) := by decide +kernel
theorem dX3_firstLetters_1 : decode cX3_firstLetters 1 = .ok (.bipush 64, 2) := by decide +kernel
theorem dX3_firstLetters_3 : decode cX3_firstLetters 3 = .ok (.if_icmp .lt 9, 3) := by decide +kernel
theorem dX3_firstLetters_6 : decode cX3_firstLetters 6 = .ok (.ldc2_w 79, 3) := by decide +kernel
theorem dX3_firstLetters_9 : decode cX3_firstLetters 9 = .ok (.goto 8, 3) := by decide +kernel
theorem dX3_firstLetters_12 : decode cX3_firstLetters 12 = .ok (.lconst 1, 1) := by decide +kernel
theorem dX3_firstLetters_13 : decode cX3_firstLetters 13 = .ok (.iload_n 0, 1) := by decide +kernel
theorem dX3_firstLetters_14 : decode cX3_firstLetters 14 = .ok (.lshl, 1) := by decide +kernel
theorem dX3_firstLetters_15 : decode cX3_firstLetters 15 = .ok (.lconst 1, 1) := by decide +kernel
theorem dX3_firstLetters_16 : decode cX3_firstLetters 16 = .ok (.lsub, 1) := by decide +kernel
theorem dX3_firstLetters_17 : decode cX3_firstLetters 17 = .ok (.lreturn, 1) := by decide +kernel
theorem dX3_addLetter_0 : decode cX3_addLetter 0 = .ok (.aload_n 0, 1) := by decide +kernel
theorem dX3_addLetter_1 : decode cX3_addLetter 1 = .ok (.getfield 17, 3) := by decide +kernel
theorem dX3_addLetter_4 : decode cX3_addLetter 4 = .ok (.aload_n 0, 1) := by decide +kernel
theorem dX3_addLetter_5 : decode cX3_addLetter 5 = .ok (.getfield 20, 3) := by decide +kernel
theorem dX3_addLetter_8 : decode cX3_addLetter 8 = .ok (.iload_n 1, 1) := by decide +kernel
theorem dX3_addLetter_9 : decode cX3_addLetter 9 = .ok (.iastore, 1) := by decide +kernel
theorem dX3_addLetter_10 : decode cX3_addLetter 10 = .ok (.aload_n 0, 1) := by decide +kernel
theorem dX3_addLetter_11 : decode cX3_addLetter 11 = .ok (.getfield 30, 3) := by decide +kernel
theorem dX3_addLetter_14 : decode cX3_addLetter 14 = .ok (.iload_n 2, 1) := by decide +kernel
theorem dX3_addLetter_15 : decode cX3_addLetter 15 = .ok (.iconst 1, 1) := by decide +kernel
theorem dX3_addLetter_16 : decode cX3_addLetter 16 = .ok (.invokevirtual 81, 3) := by decide +kernel
theorem dX3_addLetter_19 : decode cX3_addLetter 19 = .ok (.aload_n 0, 1) := by decide +kernel
theorem dX3_addLetter_20 : decode cX3_addLetter 20 = .ok (.getfield 30, 3) := by decide +kernel
theorem dX3_addLetter_23 : decode cX3_addLetter 23 = .ok (.iload_n 2, 1) := by decide +kernel
theorem dX3_addLetter_24 : decode cX3_addLetter 24 = .ok (.aload_n 0, 1) := by decide +kernel
theorem dX3_addLetter_25 : decode cX3_addLetter 25 = .ok (.getfield 20, 3) := by decide +kernel
theorem dX3_addLetter_28 : decode cX3_addLetter 28 = .ok (.iconst (-1), 1) := by decide +kernel
theorem dX3_addLetter_29 : decode cX3_addLetter 29 = .ok (.iload_n 3, 1) := by decide +kernel
theorem dX3_addLetter_30 : decode cX3_addLetter 30 = .ok (.invokevirtual 85, 3) := by decide +kernel
theorem dX3_addLetter_33 : decode cX3_addLetter 33 = .ok (.aload_n 0, 1) := by decide +kernel
theorem dX3_addLetter_34 : decode cX3_addLetter 34 = .ok (.dup, 1) := by decide +kernel
theorem dX3_addLetter_35 : decode cX3_addLetter 35 = .ok (.getfield 20, 3) := by decide +kernel
theorem dX3_addLetter_38 : decode cX3_addLetter 38 = .ok (.iconst 1, 1) := by decide +kernel
theorem dX3_addLetter_39 : decode cX3_addLetter 39 = .ok (.iadd, 1) := by decide +kernel
theorem dX3_addLetter_40 : decode cX3_addLetter 40 = .ok (.putfield 20, 3) := by decide +kernel
theorem dX3_addLetter_43 : decode cX3_addLetter 43 = .ok (.return_, 1) := by decide +kernel
theorem dX3_insert_0 : decode cX3_insert 0 = .ok (.iload_n 1, 1) := by decide +kernel
theorem dX3_insert_1 : decode cX3_insert 1 = .ok (.invokestatic 89, 3) := by decide +kernel
theorem dX3_insert_4 : decode cX3_insert 4 = .ok (.ifCond .ne 7, 3) := by decide +kernel
theorem dX3_insert_7 : decode cX3_insert 7 = .ok (.sipush (-1001), 3) := by decide +kernel
theorem dX3_insert_10 : decode cX3_insert 10 = .ok (.ireturn, 1) := by decide +kernel
theorem dX3_insert_11 : decode cX3_insert 11 = .ok (.aload_n 0, 1) := by decide +kernel
theorem dX3_insert_12 : decode cX3_insert 12 = .ok (.aload_n 0, 1) := by decide +kernel
theorem dX3_insert_13 : decode cX3_insert 13 = .ok (.iconst 2, 1) := by decide +kernel
theorem dX3_insert_14 : decode cX3_insert 14 = .ok (.iload_n 1, 1) := by decide +kernel
theorem dX3_insert_15 : decode cX3_insert 15 = .ok (.iadd, 1) := by decide +kernel
theorem dX3_insert_16 : decode cX3_insert 16 = .ok (.invokevirtual 93, 3) := by decide +kernel
theorem dX3_insert_19 : decode cX3_insert 19 = .ok (.invokevirtual 97, 3) := by decide +kernel
theorem dX3_insert_22 : decode cX3_insert 22 = .ok (.istore_n 3, 1) := by decide +kernel
theorem dX3_insert_23 : decode cX3_insert 23 = .ok (.iload_n 2, 1) := by decide +kernel
theorem dX3_insert_24 : decode cX3_insert 24 = .ok (.ifCond .lt 8, 3) := by decide +kernel
theorem dX3_insert_27 : decode cX3_insert 27 = .ok (.iload_n 2, 1) := by decide +kernel
theorem dX3_insert_28 : decode cX3_insert 28 = .ok (.iload_n 3, 1) := by decide +kernel
theorem dX3_insert_29 : decode cX3_insert 29 = .ok (.if_icmp .le 7, 3) := by decide +kernel
theorem dX3_insert_32 : decode cX3_insert 32 = .ok (.sipush (-1001), 3) := by decide +kernel
theorem dX3_insert_35 : decode cX3_insert 35 = .ok (.ireturn, 1) := by decide +kernel
theorem dX3_insert_36 : decode cX3_insert 36 = .ok (.aload_n 0, 1) := by decide +kernel
theorem dX3_insert_37 : decode cX3_insert 37 = .ok (.getfield 13, 3) := by decide +kernel
theorem dX3_insert_40 : decode cX3_insert 40 = .ok (.ifCond .ne 7, 3) := by decide +kernel
theorem dX3_insert_43 : decode cX3_insert 43 = .ok (.sipush (-1003), 3) := by decide +kernel
theorem dX3_insert_46 : decode cX3_insert 46 = .ok (.ireturn, 1) := by decide +kernel
theorem dX3_insert_47 : decode cX3_insert 47 = .ok (.aload_n 0, 1) := by decide +kernel
theorem dX3_insert_48 : decode cX3_insert 48 = .ok (.getfield 20, 3) := by decide +kernel
theorem dX3_insert_51 : decode cX3_insert 51 = .ok (.aload_n 0, 1) := by decide +kernel
theorem dX3_insert_52 : decode cX3_insert 52 = .ok (.getfield 13, 3) := by decide +kernel
theorem dX3_insert_55 : decode cX3_insert 55 = .ok (.iadd, 1) := by decide +kernel
theorem dX3_insert_56 : decode cX3_insert 56 = .ok (.bipush 64, 2) := by decide +kernel
theorem dX3_insert_58 : decode cX3_insert 58 = .ok (.if_icmp .gt 30, 3) := by decide +kernel
theorem dX3_insert_61 : decode cX3_insert 61 = .ok (.aload_n 0, 1) := by decide +kernel
theorem dX3_insert_62 : decode cX3_insert 62 = .ok (.getfield 37, 3) := by decide +kernel
theorem dX3_insert_65 : decode cX3_insert 65 = .ok (.invokevirtual 100, 3) := by decide +kernel
theorem dX3_insert_68 : decode cX3_insert 68 = .ok (.ifCond .ne 20, 3) := by decide +kernel
theorem dX3_insert_71 : decode cX3_insert 71 = .ok (.aload_n 0, 1) := by decide +kernel
theorem dX3_insert_72 : decode cX3_insert 72 = .ok (.getfield 30, 3) := by decide +kernel
theorem dX3_insert_75 : decode cX3_insert 75 = .ok (.getfield 67, 3) := by decide +kernel
theorem dX3_insert_78 : decode cX3_insert 78 = .ok (.aload_n 0, 1) := by decide +kernel
theorem dX3_insert_79 : decode cX3_insert 79 = .ok (.getfield 13, 3) := by decide +kernel
theorem dX3_insert_82 : decode cX3_insert 82 = .ok (.iadd, 1) := by decide +kernel
theorem dX3_insert_83 : decode cX3_insert 83 = .ok (.bipush 90, 2) := by decide +kernel
theorem dX3_insert_85 : decode cX3_insert 85 = .ok (.if_icmp .le 7, 3) := by decide +kernel
theorem dX3_insert_88 : decode cX3_insert 88 = .ok (.sipush (-1004), 3) := by decide +kernel
theorem dX3_insert_91 : decode cX3_insert 91 = .ok (.ireturn, 1) := by decide +kernel
theorem dX3_insert_92 : decode cX3_insert 92 = .ok (.aload_n 0, 1) := by decide +kernel
theorem dX3_insert_93 : decode cX3_insert 93 = .ok (.iload_n 1, 1) := by decide +kernel
theorem dX3_insert_94 : decode cX3_insert 94 = .ok (.aload_n 0, 1) := by decide +kernel
theorem dX3_insert_95 : decode cX3_insert 95 = .ok (.iload_n 2, 1) := by decide +kernel
theorem dX3_insert_96 : decode cX3_insert 96 = .ok (.iload_n 3, 1) := by decide +kernel
theorem dX3_insert_97 : decode cX3_insert 97 = .ok (.invokevirtual 104, 3) := by decide +kernel
theorem dX3_insert_100 : decode cX3_insert 100 = .ok (.invokevirtual 108, 3) := by decide +kernel
theorem dX3_insert_103 : decode cX3_insert 103 = .ok (.ireturn, 1) := by decide +kernel
theorem dX3_insertPage_0 : decode cX3_insertPage 0 = .ok (.aload_n 0, 1) := by decide +kernel
theorem dX3_insertPage_1 : decode cX3_insertPage 1 = .ok (.getfield 37, 3) := by decide +kernel
theorem dX3_insertPage_4 : decode cX3_insertPage 4 = .ok (.iconst 0, 1) := by decide +kernel
theorem dX3_insertPage_5 : decode cX3_insertPage 5 = .ok (.iload_n 1, 1) := by decide +kernel
theorem dX3_insertPage_6 : decode cX3_insertPage 6 = .ok (.invokevirtual 111, 3) := by decide +kernel
theorem dX3_insertPage_9 : decode cX3_insertPage 9 = .ok (.istore_n 3, 1) := by decide +kernel
theorem dX3_insertPage_10 : decode cX3_insertPage 10 = .ok (.iconst 0, 1) := by decide +kernel
theorem dX3_insertPage_11 : decode cX3_insertPage 11 = .ok (.istore 4, 2) := by decide +kernel
theorem dX3_insertPage_13 : decode cX3_insertPage 13 = .ok (.iload 4, 2) := by decide +kernel
theorem dX3_insertPage_15 : decode cX3_insertPage 15 = .ok (.aload_n 0, 1) := by decide +kernel
theorem dX3_insertPage_16 : decode cX3_insertPage 16 = .ok (.getfield 13, 3) := by decide +kernel
theorem dX3_insertPage_19 : decode cX3_insertPage 19 = .ok (.if_icmp .ge 37, 3) := by decide +kernel
theorem dX3_insertPage_22 : decode cX3_insertPage 22 = .ok (.aload_n 0, 1) := by decide +kernel
theorem dX3_insertPage_23 : decode cX3_insertPage 23 = .ok (.getfield 37, 3) := by decide +kernel
theorem dX3_insertPage_26 : decode cX3_insertPage 26 = .ok (.iload_n 3, 1) := by decide +kernel
theorem dX3_insertPage_27 : decode cX3_insertPage 27 = .ok (.aload_n 0, 1) := by decide +kernel
theorem dX3_insertPage_28 : decode cX3_insertPage 28 = .ok (.getfield 20, 3) := by decide +kernel
theorem dX3_insertPage_31 : decode cX3_insertPage 31 = .ok (.invokevirtual 114, 3) := by decide +kernel
theorem dX3_insertPage_34 : decode cX3_insertPage 34 = .ok (.aload_n 0, 1) := by decide +kernel
theorem dX3_insertPage_35 : decode cX3_insertPage 35 = .ok (.aload_n 0, 1) := by decide +kernel
theorem dX3_insertPage_36 : decode cX3_insertPage 36 = .ok (.getfield 9, 3) := by decide +kernel
theorem dX3_insertPage_39 : decode cX3_insertPage 39 = .ok (.iload 4, 2) := by decide +kernel
theorem dX3_insertPage_41 : decode cX3_insertPage 41 = .ok (.iaload, 1) := by decide +kernel
theorem dX3_insertPage_42 : decode cX3_insertPage 42 = .ok (.iload_n 2, 1) := by decide +kernel
theorem dX3_insertPage_43 : decode cX3_insertPage 43 = .ok (.iload 4, 2) := by decide +kernel
theorem dX3_insertPage_45 : decode cX3_insertPage 45 = .ok (.iadd, 1) := by decide +kernel
theorem dX3_insertPage_46 : decode cX3_insertPage 46 = .ok (.iload_n 3, 1) := by decide +kernel
theorem dX3_insertPage_47 : decode cX3_insertPage 47 = .ok (.invokevirtual 71, 3) := by decide +kernel
theorem dX3_insertPage_50 : decode cX3_insertPage 50 = .ok (.iinc 4 1, 3) := by decide +kernel
theorem dX3_insertPage_53 : decode cX3_insertPage 53 = .ok (.goto (-40), 3) := by decide +kernel
theorem dX3_insertPage_56 : decode cX3_insertPage 56 = .ok (.aload_n 0, 1) := by decide +kernel
theorem dX3_insertPage_57 : decode cX3_insertPage 57 = .ok (.iconst 0, 1) := by decide +kernel
theorem dX3_insertPage_58 : decode cX3_insertPage 58 = .ok (.putfield 13, 3) := by decide +kernel
theorem dX3_insertPage_61 : decode cX3_insertPage 61 = .ok (.iload_n 3, 1) := by decide +kernel
theorem dX3_insertPage_62 : decode cX3_insertPage 62 = .ok (.ireturn, 1) := by decide +kernel
theorem dX3_remove_0 : decode cX3_remove 0 = .ok (.iload_n 1, 1) := by decide +kernel
theorem dX3_remove_1 : decode cX3_remove 1 = .ok (.invokestatic 89, 3) := by decide +kernel
theorem dX3_remove_4 : decode cX3_remove 4 = .ok (.ifCond .ne 7, 3) := by decide +kernel
theorem dX3_remove_7 : decode cX3_remove 7 = .ok (.sipush (-1001), 3) := by decide +kernel
theorem dX3_remove_10 : decode cX3_remove 10 = .ok (.ireturn, 1) := by decide +kernel
theorem dX3_remove_11 : decode cX3_remove 11 = .ok (.aload_n 0, 1) := by decide +kernel
theorem dX3_remove_12 : decode cX3_remove 12 = .ok (.aload_n 0, 1) := by decide +kernel
theorem dX3_remove_13 : decode cX3_remove 13 = .ok (.iconst 2, 1) := by decide +kernel
theorem dX3_remove_14 : decode cX3_remove 14 = .ok (.iload_n 1, 1) := by decide +kernel
theorem dX3_remove_15 : decode cX3_remove 15 = .ok (.iadd, 1) := by decide +kernel
theorem dX3_remove_16 : decode cX3_remove 16 = .ok (.invokevirtual 93, 3) := by decide +kernel
theorem dX3_remove_19 : decode cX3_remove 19 = .ok (.invokevirtual 97, 3) := by decide +kernel
theorem dX3_remove_22 : decode cX3_remove 22 = .ok (.istore 4, 2) := by decide +kernel
theorem dX3_remove_24 : decode cX3_remove 24 = .ok (.iload_n 2, 1) := by decide +kernel
theorem dX3_remove_25 : decode cX3_remove 25 = .ok (.iload_n 3, 1) := by decide +kernel
theorem dX3_remove_26 : decode cX3_remove 26 = .ok (.iload 4, 2) := by decide +kernel
theorem dX3_remove_28 : decode cX3_remove 28 = .ok (.invokestatic 117, 3) := by decide +kernel
theorem dX3_remove_31 : decode cX3_remove 31 = .ok (.istore 5, 2) := by decide +kernel
theorem dX3_remove_33 : decode cX3_remove 33 = .ok (.iload 5, 2) := by decide +kernel
theorem dX3_remove_35 : decode cX3_remove 35 = .ok (.ifCond .eq 6, 3) := by decide +kernel
theorem dX3_remove_38 : decode cX3_remove 38 = .ok (.iload 5, 2) := by decide +kernel
theorem dX3_remove_40 : decode cX3_remove 40 = .ok (.ireturn, 1) := by decide +kernel
theorem dX3_remove_41 : decode cX3_remove 41 = .ok (.aload_n 0, 1) := by decide +kernel
theorem dX3_remove_42 : decode cX3_remove 42 = .ok (.getfield 37, 3) := by decide +kernel
theorem dX3_remove_45 : decode cX3_remove 45 = .ok (.invokevirtual 100, 3) := by decide +kernel
theorem dX3_remove_48 : decode cX3_remove 48 = .ok (.ifCond .eq 7, 3) := by decide +kernel
theorem dX3_remove_51 : decode cX3_remove 51 = .ok (.sipush (-1004), 3) := by decide +kernel
theorem dX3_remove_54 : decode cX3_remove 54 = .ok (.ireturn, 1) := by decide +kernel
theorem dX3_remove_55 : decode cX3_remove 55 = .ok (.aload_n 0, 1) := by decide +kernel
theorem dX3_remove_56 : decode cX3_remove 56 = .ok (.getfield 37, 3) := by decide +kernel
theorem dX3_remove_59 : decode cX3_remove 59 = .ok (.iconst 1, 1) := by decide +kernel
theorem dX3_remove_60 : decode cX3_remove 60 = .ok (.iload_n 1, 1) := by decide +kernel
theorem dX3_remove_61 : decode cX3_remove 61 = .ok (.invokevirtual 111, 3) := by decide +kernel
theorem dX3_remove_64 : decode cX3_remove 64 = .ok (.istore 6, 2) := by decide +kernel
theorem dX3_remove_66 : decode cX3_remove 66 = .ok (.iload_n 2, 1) := by decide +kernel
theorem dX3_remove_67 : decode cX3_remove 67 = .ok (.istore 7, 2) := by decide +kernel
theorem dX3_remove_69 : decode cX3_remove 69 = .ok (.iload 7, 2) := by decide +kernel
theorem dX3_remove_71 : decode cX3_remove 71 = .ok (.iload_n 2, 1) := by decide +kernel
theorem dX3_remove_72 : decode cX3_remove 72 = .ok (.iload_n 3, 1) := by decide +kernel
theorem dX3_remove_73 : decode cX3_remove 73 = .ok (.iadd, 1) := by decide +kernel
theorem dX3_remove_74 : decode cX3_remove 74 = .ok (.if_icmp .ge 33, 3) := by decide +kernel
theorem dX3_remove_77 : decode cX3_remove 77 = .ok (.aload_n 0, 1) := by decide +kernel
theorem dX3_remove_78 : decode cX3_remove 78 = .ok (.getfield 37, 3) := by decide +kernel
theorem dX3_remove_81 : decode cX3_remove 81 = .ok (.iload 6, 2) := by decide +kernel
theorem dX3_remove_83 : decode cX3_remove 83 = .ok (.aload_n 0, 1) := by decide +kernel
theorem dX3_remove_84 : decode cX3_remove 84 = .ok (.getfield 30, 3) := by decide +kernel
theorem dX3_remove_87 : decode cX3_remove 87 = .ok (.getfield 121, 3) := by decide +kernel
theorem dX3_remove_90 : decode cX3_remove 90 = .ok (.aload_n 0, 1) := by decide +kernel
theorem dX3_remove_91 : decode cX3_remove 91 = .ok (.getfield 48, 3) := by decide +kernel
theorem dX3_remove_94 : decode cX3_remove 94 = .ok (.iload 7, 2) := by decide +kernel
theorem dX3_remove_96 : decode cX3_remove 96 = .ok (.iaload, 1) := by decide +kernel
theorem dX3_remove_97 : decode cX3_remove 97 = .ok (.iaload, 1) := by decide +kernel
theorem dX3_remove_98 : decode cX3_remove 98 = .ok (.invokevirtual 114, 3) := by decide +kernel
theorem dX3_remove_101 : decode cX3_remove 101 = .ok (.iinc 7 1, 3) := by decide +kernel
theorem dX3_remove_104 : decode cX3_remove 104 = .ok (.goto (-35), 3) := by decide +kernel
theorem dX3_remove_107 : decode cX3_remove 107 = .ok (.iload 6, 2) := by decide +kernel
theorem dX3_remove_109 : decode cX3_remove 109 = .ok (.ireturn, 1) := by decide +kernel
theorem dX3_move_0 : decode cX3_move 0 = .ok (.iload_n 1, 1) := by decide +kernel
theorem dX3_move_1 : decode cX3_move 1 = .ok (.invokestatic 89, 3) := by decide +kernel
theorem dX3_move_4 : decode cX3_move 4 = .ok (.ifCond .ne 7, 3) := by decide +kernel
theorem dX3_move_7 : decode cX3_move 7 = .ok (.sipush (-1001), 3) := by decide +kernel
theorem dX3_move_10 : decode cX3_move 10 = .ok (.ireturn, 1) := by decide +kernel
theorem dX3_move_11 : decode cX3_move 11 = .ok (.aload_n 0, 1) := by decide +kernel
theorem dX3_move_12 : decode cX3_move 12 = .ok (.aload_n 0, 1) := by decide +kernel
theorem dX3_move_13 : decode cX3_move 13 = .ok (.iconst 2, 1) := by decide +kernel
theorem dX3_move_14 : decode cX3_move 14 = .ok (.iload_n 1, 1) := by decide +kernel
theorem dX3_move_15 : decode cX3_move 15 = .ok (.iadd, 1) := by decide +kernel
theorem dX3_move_16 : decode cX3_move 16 = .ok (.invokevirtual 93, 3) := by decide +kernel
theorem dX3_move_19 : decode cX3_move 19 = .ok (.invokevirtual 97, 3) := by decide +kernel
theorem dX3_move_22 : decode cX3_move 22 = .ok (.istore 5, 2) := by decide +kernel
theorem dX3_move_24 : decode cX3_move 24 = .ok (.iload_n 2, 1) := by decide +kernel
theorem dX3_move_25 : decode cX3_move 25 = .ok (.iload_n 3, 1) := by decide +kernel
theorem dX3_move_26 : decode cX3_move 26 = .ok (.iload 5, 2) := by decide +kernel
theorem dX3_move_28 : decode cX3_move 28 = .ok (.invokestatic 117, 3) := by decide +kernel
theorem dX3_move_31 : decode cX3_move 31 = .ok (.istore 6, 2) := by decide +kernel
theorem dX3_move_33 : decode cX3_move 33 = .ok (.iload 6, 2) := by decide +kernel
theorem dX3_move_35 : decode cX3_move 35 = .ok (.ifCond .eq 6, 3) := by decide +kernel
theorem dX3_move_38 : decode cX3_move 38 = .ok (.iload 6, 2) := by decide +kernel
theorem dX3_move_40 : decode cX3_move 40 = .ok (.ireturn, 1) := by decide +kernel
theorem dX3_move_41 : decode cX3_move 41 = .ok (.iload 4, 2) := by decide +kernel
theorem dX3_move_43 : decode cX3_move 43 = .ok (.ifCond .lt 10, 3) := by decide +kernel
theorem dX3_move_46 : decode cX3_move 46 = .ok (.iload 4, 2) := by decide +kernel
theorem dX3_move_48 : decode cX3_move 48 = .ok (.iload 5, 2) := by decide +kernel
theorem dX3_move_50 : decode cX3_move 50 = .ok (.if_icmp .le 7, 3) := by decide +kernel
theorem dX3_move_53 : decode cX3_move 53 = .ok (.sipush (-1001), 3) := by decide +kernel
theorem dX3_move_56 : decode cX3_move 56 = .ok (.ireturn, 1) := by decide +kernel
theorem dX3_move_57 : decode cX3_move 57 = .ok (.iload 4, 2) := by decide +kernel
theorem dX3_move_59 : decode cX3_move 59 = .ok (.iload_n 2, 1) := by decide +kernel
theorem dX3_move_60 : decode cX3_move 60 = .ok (.if_icmp .le 15, 3) := by decide +kernel
theorem dX3_move_63 : decode cX3_move 63 = .ok (.iload 4, 2) := by decide +kernel
theorem dX3_move_65 : decode cX3_move 65 = .ok (.iload_n 2, 1) := by decide +kernel
theorem dX3_move_66 : decode cX3_move 66 = .ok (.iload_n 3, 1) := by decide +kernel
theorem dX3_move_67 : decode cX3_move 67 = .ok (.iadd, 1) := by decide +kernel
theorem dX3_move_68 : decode cX3_move 68 = .ok (.if_icmp .ge 7, 3) := by decide +kernel
theorem dX3_move_71 : decode cX3_move 71 = .ok (.sipush (-1003), 3) := by decide +kernel
theorem dX3_move_74 : decode cX3_move 74 = .ok (.ireturn, 1) := by decide +kernel
theorem dX3_move_75 : decode cX3_move 75 = .ok (.aload_n 0, 1) := by decide +kernel
theorem dX3_move_76 : decode cX3_move 76 = .ok (.getfield 37, 3) := by decide +kernel
theorem dX3_move_79 : decode cX3_move 79 = .ok (.invokevirtual 100, 3) := by decide +kernel
theorem dX3_move_82 : decode cX3_move 82 = .ok (.ifCond .ne 17, 3) := by decide +kernel
theorem dX3_move_85 : decode cX3_move 85 = .ok (.aload_n 0, 1) := by decide +kernel
theorem dX3_move_86 : decode cX3_move 86 = .ok (.getfield 30, 3) := by decide +kernel
theorem dX3_move_89 : decode cX3_move 89 = .ok (.getfield 67, 3) := by decide +kernel
theorem dX3_move_92 : decode cX3_move 92 = .ok (.iload_n 3, 1) := by decide +kernel
theorem dX3_move_93 : decode cX3_move 93 = .ok (.iadd, 1) := by decide +kernel
theorem dX3_move_94 : decode cX3_move 94 = .ok (.bipush 90, 2) := by decide +kernel
theorem dX3_move_96 : decode cX3_move 96 = .ok (.if_icmp .le 7, 3) := by decide +kernel
theorem dX3_move_99 : decode cX3_move 99 = .ok (.sipush (-1004), 3) := by decide +kernel
theorem dX3_move_102 : decode cX3_move 102 = .ok (.ireturn, 1) := by decide +kernel
theorem dX3_move_103 : decode cX3_move 103 = .ok (.aload_n 0, 1) := by decide +kernel
theorem dX3_move_104 : decode cX3_move 104 = .ok (.iload_n 1, 1) := by decide +kernel
theorem dX3_move_105 : decode cX3_move 105 = .ok (.iload_n 2, 1) := by decide +kernel
theorem dX3_move_106 : decode cX3_move 106 = .ok (.iload_n 3, 1) := by decide +kernel
theorem dX3_move_107 : decode cX3_move 107 = .ok (.aload_n 0, 1) := by decide +kernel
theorem dX3_move_108 : decode cX3_move 108 = .ok (.iload 4, 2) := by decide +kernel
theorem dX3_move_110 : decode cX3_move 110 = .ok (.iload 5, 2) := by decide +kernel
theorem dX3_move_112 : decode cX3_move 112 = .ok (.invokevirtual 104, 3) := by decide +kernel
theorem dX3_move_115 : decode cX3_move 115 = .ok (.invokevirtual 124, 3) := by decide +kernel
theorem dX3_move_118 : decode cX3_move 118 = .ok (.ireturn, 1) := by decide +kernel
theorem dX3_moveLetters_0 : decode cX3_moveLetters 0 = .ok (.aload_n 0, 1) := by decide +kernel
theorem dX3_moveLetters_1 : decode cX3_moveLetters 1 = .ok (.getfield 37, 3) := by decide +kernel
theorem dX3_moveLetters_4 : decode cX3_moveLetters 4 = .ok (.iconst 2, 1) := by decide +kernel
theorem dX3_moveLetters_5 : decode cX3_moveLetters 5 = .ok (.iload_n 1, 1) := by decide +kernel
theorem dX3_moveLetters_6 : decode cX3_moveLetters 6 = .ok (.invokevirtual 111, 3) := by decide +kernel
theorem dX3_moveLetters_9 : decode cX3_moveLetters 9 = .ok (.istore 5, 2) := by decide +kernel
theorem dX3_moveLetters_11 : decode cX3_moveLetters 11 = .ok (.aload_n 0, 1) := by decide +kernel
theorem dX3_moveLetters_12 : decode cX3_moveLetters 12 = .ok (.getfield 30, 3) := by decide +kernel
theorem dX3_moveLetters_15 : decode cX3_moveLetters 15 = .ok (.iload 4, 2) := by decide +kernel
theorem dX3_moveLetters_17 : decode cX3_moveLetters 17 = .ok (.iload_n 3, 1) := by decide +kernel
theorem dX3_moveLetters_18 : decode cX3_moveLetters 18 = .ok (.invokevirtual 81, 3) := by decide +kernel
theorem dX3_moveLetters_21 : decode cX3_moveLetters 21 = .ok (.iconst 0, 1) := by decide +kernel
theorem dX3_moveLetters_22 : decode cX3_moveLetters 22 = .ok (.istore 6, 2) := by decide +kernel
theorem dX3_moveLetters_24 : decode cX3_moveLetters 24 = .ok (.iload 6, 2) := by decide +kernel
theorem dX3_moveLetters_26 : decode cX3_moveLetters 26 = .ok (.iload_n 3, 1) := by decide +kernel
theorem dX3_moveLetters_27 : decode cX3_moveLetters 27 = .ok (.if_icmp .ge 78, 3) := by decide +kernel
theorem dX3_moveLetters_30 : decode cX3_moveLetters 30 = .ok (.aload_n 0, 1) := by decide +kernel
theorem dX3_moveLetters_31 : decode cX3_moveLetters 31 = .ok (.getfield 48, 3) := by decide +kernel
theorem dX3_moveLetters_34 : decode cX3_moveLetters 34 = .ok (.iload_n 2, 1) := by decide +kernel
theorem dX3_moveLetters_35 : decode cX3_moveLetters 35 = .ok (.iload 6, 2) := by decide +kernel
theorem dX3_moveLetters_37 : decode cX3_moveLetters 37 = .ok (.iadd, 1) := by decide +kernel
theorem dX3_moveLetters_38 : decode cX3_moveLetters 38 = .ok (.iaload, 1) := by decide +kernel
theorem dX3_moveLetters_39 : decode cX3_moveLetters 39 = .ok (.istore 7, 2) := by decide +kernel
theorem dX3_moveLetters_41 : decode cX3_moveLetters 41 = .ok (.iload 7, 2) := by decide +kernel
theorem dX3_moveLetters_43 : decode cX3_moveLetters 43 = .ok (.iload 4, 2) := by decide +kernel
theorem dX3_moveLetters_45 : decode cX3_moveLetters 45 = .ok (.if_icmp .lt 9, 3) := by decide +kernel
theorem dX3_moveLetters_48 : decode cX3_moveLetters 48 = .ok (.iload 7, 2) := by decide +kernel
theorem dX3_moveLetters_50 : decode cX3_moveLetters 50 = .ok (.iload_n 3, 1) := by decide +kernel
theorem dX3_moveLetters_51 : decode cX3_moveLetters 51 = .ok (.iadd, 1) := by decide +kernel
theorem dX3_moveLetters_52 : decode cX3_moveLetters 52 = .ok (.istore 7, 2) := by decide +kernel
theorem dX3_moveLetters_54 : decode cX3_moveLetters 54 = .ok (.aload_n 0, 1) := by decide +kernel
theorem dX3_moveLetters_55 : decode cX3_moveLetters 55 = .ok (.getfield 37, 3) := by decide +kernel
theorem dX3_moveLetters_58 : decode cX3_moveLetters 58 = .ok (.iload 5, 2) := by decide +kernel
theorem dX3_moveLetters_60 : decode cX3_moveLetters 60 = .ok (.aload_n 0, 1) := by decide +kernel
theorem dX3_moveLetters_61 : decode cX3_moveLetters 61 = .ok (.getfield 30, 3) := by decide +kernel
theorem dX3_moveLetters_64 : decode cX3_moveLetters 64 = .ok (.getfield 121, 3) := by decide +kernel
theorem dX3_moveLetters_67 : decode cX3_moveLetters 67 = .ok (.iload 7, 2) := by decide +kernel
theorem dX3_moveLetters_69 : decode cX3_moveLetters 69 = .ok (.iaload, 1) := by decide +kernel
theorem dX3_moveLetters_70 : decode cX3_moveLetters 70 = .ok (.invokevirtual 114, 3) := by decide +kernel
theorem dX3_moveLetters_73 : decode cX3_moveLetters 73 = .ok (.aload_n 0, 1) := by decide +kernel
theorem dX3_moveLetters_74 : decode cX3_moveLetters 74 = .ok (.getfield 30, 3) := by decide +kernel
theorem dX3_moveLetters_77 : decode cX3_moveLetters 77 = .ok (.iload 4, 2) := by decide +kernel
theorem dX3_moveLetters_79 : decode cX3_moveLetters 79 = .ok (.iload 6, 2) := by decide +kernel
theorem dX3_moveLetters_81 : decode cX3_moveLetters 81 = .ok (.iadd, 1) := by decide +kernel
theorem dX3_moveLetters_82 : decode cX3_moveLetters 82 = .ok (.aload_n 0, 1) := by decide +kernel
theorem dX3_moveLetters_83 : decode cX3_moveLetters 83 = .ok (.getfield 30, 3) := by decide +kernel
theorem dX3_moveLetters_86 : decode cX3_moveLetters 86 = .ok (.getfield 121, 3) := by decide +kernel
theorem dX3_moveLetters_89 : decode cX3_moveLetters 89 = .ok (.iload 7, 2) := by decide +kernel
theorem dX3_moveLetters_91 : decode cX3_moveLetters 91 = .ok (.iaload, 1) := by decide +kernel
theorem dX3_moveLetters_92 : decode cX3_moveLetters 92 = .ok (.iload 7, 2) := by decide +kernel
theorem dX3_moveLetters_94 : decode cX3_moveLetters 94 = .ok (.iload 5, 2) := by decide +kernel
theorem dX3_moveLetters_96 : decode cX3_moveLetters 96 = .ok (.invokevirtual 85, 3) := by decide +kernel
theorem dX3_moveLetters_99 : decode cX3_moveLetters 99 = .ok (.iinc 6 1, 3) := by decide +kernel
theorem dX3_moveLetters_102 : decode cX3_moveLetters 102 = .ok (.goto (-78), 3) := by decide +kernel
theorem dX3_moveLetters_105 : decode cX3_moveLetters 105 = .ok (.iload 5, 2) := by decide +kernel
theorem dX3_moveLetters_107 : decode cX3_moveLetters 107 = .ok (.ireturn, 1) := by decide +kernel
theorem dX3_isAuthor_0 : decode cX3_isAuthor 0 = .ok (.iload_n 0, 1) := by decide +kernel
theorem dX3_isAuthor_1 : decode cX3_isAuthor 1 = .ok (.ifCond .lt 12, 3) := by decide +kernel
theorem dX3_isAuthor_4 : decode cX3_isAuthor 4 = .ok (.iload_n 0, 1) := by decide +kernel
theorem dX3_isAuthor_5 : decode cX3_isAuthor 5 = .ok (.iconst 4, 1) := by decide +kernel
theorem dX3_isAuthor_6 : decode cX3_isAuthor 6 = .ok (.if_icmp .ge 7, 3) := by decide +kernel
theorem dX3_isAuthor_9 : decode cX3_isAuthor 9 = .ok (.iconst 1, 1) := by decide +kernel
theorem dX3_isAuthor_10 : decode cX3_isAuthor 10 = .ok (.goto 4, 3) := by decide +kernel
theorem dX3_isAuthor_13 : decode cX3_isAuthor 13 = .ok (.iconst 0, 1) := by decide +kernel
theorem dX3_isAuthor_14 : decode cX3_isAuthor 14 = .ok (.ireturn, 1) := by decide +kernel
theorem dX3_refusalOfRange_0 : decode cX3_refusalOfRange 0 = .ok (.iload_n 0, 1) := by decide +kernel
theorem dX3_refusalOfRange_1 : decode cX3_refusalOfRange 1 = .ok (.ifCond .lt 8, 3) := by decide +kernel
theorem dX3_refusalOfRange_4 : decode cX3_refusalOfRange 4 = .ok (.iload_n 0, 1) := by decide +kernel
theorem dX3_refusalOfRange_5 : decode cX3_refusalOfRange 5 = .ok (.iload_n 2, 1) := by decide +kernel
theorem dX3_refusalOfRange_6 : decode cX3_refusalOfRange 6 = .ok (.if_icmp .lt 7, 3) := by decide +kernel
theorem dX3_refusalOfRange_9 : decode cX3_refusalOfRange 9 = .ok (.sipush (-1001), 3) := by decide +kernel
theorem dX3_refusalOfRange_12 : decode cX3_refusalOfRange 12 = .ok (.ireturn, 1) := by decide +kernel
theorem dX3_refusalOfRange_13 : decode cX3_refusalOfRange 13 = .ok (.iload_n 1, 1) := by decide +kernel
theorem dX3_refusalOfRange_14 : decode cX3_refusalOfRange 14 = .ok (.iconst 1, 1) := by decide +kernel
theorem dX3_refusalOfRange_15 : decode cX3_refusalOfRange 15 = .ok (.if_icmp .lt 10, 3) := by decide +kernel
theorem dX3_refusalOfRange_18 : decode cX3_refusalOfRange 18 = .ok (.iload_n 1, 1) := by decide +kernel
theorem dX3_refusalOfRange_19 : decode cX3_refusalOfRange 19 = .ok (.iload_n 2, 1) := by decide +kernel
theorem dX3_refusalOfRange_20 : decode cX3_refusalOfRange 20 = .ok (.iload_n 0, 1) := by decide +kernel
theorem dX3_refusalOfRange_21 : decode cX3_refusalOfRange 21 = .ok (.isub, 1) := by decide +kernel
theorem dX3_refusalOfRange_22 : decode cX3_refusalOfRange 22 = .ok (.if_icmp .le 7, 3) := by decide +kernel
theorem dX3_refusalOfRange_25 : decode cX3_refusalOfRange 25 = .ok (.sipush (-1002), 3) := by decide +kernel
theorem dX3_refusalOfRange_28 : decode cX3_refusalOfRange 28 = .ok (.ireturn, 1) := by decide +kernel
theorem dX3_refusalOfRange_29 : decode cX3_refusalOfRange 29 = .ok (.iconst 0, 1) := by decide +kernel
theorem dX3_refusalOfRange_30 : decode cX3_refusalOfRange 30 = .ok (.ireturn, 1) := by decide +kernel
theorem dX3_placeAhead_0 : decode cX3_placeAhead 0 = .ok (.iload_n 1, 1) := by decide +kernel
theorem dX3_placeAhead_1 : decode cX3_placeAhead 1 = .ok (.iload_n 2, 1) := by decide +kernel
theorem dX3_placeAhead_2 : decode cX3_placeAhead 2 = .ok (.if_icmp .ge 12, 3) := by decide +kernel
theorem dX3_placeAhead_5 : decode cX3_placeAhead 5 = .ok (.aload_n 0, 1) := by decide +kernel
theorem dX3_placeAhead_6 : decode cX3_placeAhead 6 = .ok (.getfield 48, 3) := by decide +kernel
theorem dX3_placeAhead_9 : decode cX3_placeAhead 9 = .ok (.iload_n 1, 1) := by decide +kernel
theorem dX3_placeAhead_10 : decode cX3_placeAhead 10 = .ok (.iaload, 1) := by decide +kernel
theorem dX3_placeAhead_11 : decode cX3_placeAhead 11 = .ok (.goto 10, 3) := by decide +kernel
theorem dX3_placeAhead_14 : decode cX3_placeAhead 14 = .ok (.aload_n 0, 1) := by decide +kernel
theorem dX3_placeAhead_15 : decode cX3_placeAhead 15 = .ok (.getfield 30, 3) := by decide +kernel
theorem dX3_placeAhead_18 : decode cX3_placeAhead 18 = .ok (.getfield 67, 3) := by decide +kernel
theorem dX3_placeAhead_21 : decode cX3_placeAhead 21 = .ok (.ireturn, 1) := by decide +kernel
theorem dX3_show_0 : decode cX3_show 0 = .ok (.aload_n 0, 1) := by decide +kernel
theorem dX3_show_1 : decode cX3_show 1 = .ok (.getfield 37, 3) := by decide +kernel
theorem dX3_show_4 : decode cX3_show 4 = .ok (.iload_n 1, 1) := by decide +kernel
theorem dX3_show_5 : decode cX3_show 5 = .ok (.invokevirtual 128, 3) := by decide +kernel
theorem dX3_show_8 : decode cX3_show 8 = .ok (.ifCond .ne 7, 3) := by decide +kernel
theorem dX3_show_11 : decode cX3_show 11 = .ok (.sipush (-1001), 3) := by decide +kernel
theorem dX3_show_14 : decode cX3_show 14 = .ok (.ireturn, 1) := by decide +kernel
theorem dX3_show_15 : decode cX3_show 15 = .ok (.aload_n 0, 1) := by decide +kernel
theorem dX3_show_16 : decode cX3_show 16 = .ok (.getfield 37, 3) := by decide +kernel
theorem dX3_show_19 : decode cX3_show 19 = .ok (.getfield 131, 3) := by decide +kernel
theorem dX3_show_22 : decode cX3_show 22 = .ok (.iload_n 1, 1) := by decide +kernel
theorem dX3_show_23 : decode cX3_show 23 = .ok (.iaload, 1) := by decide +kernel
theorem dX3_show_24 : decode cX3_show 24 = .ok (.istore_n 3, 1) := by decide +kernel
theorem dX3_show_25 : decode cX3_show 25 = .ok (.aload_n 0, 1) := by decide +kernel
theorem dX3_show_26 : decode cX3_show 26 = .ok (.getfield 37, 3) := by decide +kernel
theorem dX3_show_29 : decode cX3_show 29 = .ok (.getfield 131, 3) := by decide +kernel
theorem dX3_show_32 : decode cX3_show 32 = .ok (.iload_n 1, 1) := by decide +kernel
theorem dX3_show_33 : decode cX3_show 33 = .ok (.iload_n 2, 1) := by decide +kernel
theorem dX3_show_34 : decode cX3_show 34 = .ok (.ifCond .eq 7, 3) := by decide +kernel
theorem dX3_show_37 : decode cX3_show 37 = .ok (.iconst 1, 1) := by decide +kernel
theorem dX3_show_38 : decode cX3_show 38 = .ok (.goto 4, 3) := by decide +kernel
theorem dX3_show_41 : decode cX3_show 41 = .ok (.iconst 0, 1) := by decide +kernel
theorem dX3_show_42 : decode cX3_show 42 = .ok (.iastore, 1) := by decide +kernel
theorem dX3_show_43 : decode cX3_show 43 = .ok (.iload_n 3, 1) := by decide +kernel
theorem dX3_show_44 : decode cX3_show 44 = .ok (.ireturn, 1) := by decide +kernel
theorem dX3_decide_0 : decode cX3_decide 0 = .ok (.aload_n 0, 1) := by decide +kernel
theorem dX3_decide_1 : decode cX3_decide 1 = .ok (.getfield 37, 3) := by decide +kernel
theorem dX3_decide_4 : decode cX3_decide 4 = .ok (.iload_n 1, 1) := by decide +kernel
theorem dX3_decide_5 : decode cX3_decide 5 = .ok (.invokevirtual 128, 3) := by decide +kernel
theorem dX3_decide_8 : decode cX3_decide 8 = .ok (.ifCond .ne 7, 3) := by decide +kernel
theorem dX3_decide_11 : decode cX3_decide 11 = .ok (.sipush (-1001), 3) := by decide +kernel
theorem dX3_decide_14 : decode cX3_decide 14 = .ok (.ireturn, 1) := by decide +kernel
theorem dX3_decide_15 : decode cX3_decide 15 = .ok (.iload_n 2, 1) := by decide +kernel
theorem dX3_decide_16 : decode cX3_decide 16 = .ok (.ifCond .lt 8, 3) := by decide +kernel
theorem dX3_decide_19 : decode cX3_decide 19 = .ok (.iload_n 2, 1) := by decide +kernel
theorem dX3_decide_20 : decode cX3_decide 20 = .ok (.iconst 2, 1) := by decide +kernel
theorem dX3_decide_21 : decode cX3_decide 21 = .ok (.if_icmp .le 7, 3) := by decide +kernel
theorem dX3_decide_24 : decode cX3_decide 24 = .ok (.sipush (-1002), 3) := by decide +kernel
theorem dX3_decide_27 : decode cX3_decide 27 = .ok (.ireturn, 1) := by decide +kernel
theorem dX3_decide_28 : decode cX3_decide 28 = .ok (.aload_n 0, 1) := by decide +kernel
theorem dX3_decide_29 : decode cX3_decide 29 = .ok (.getfield 37, 3) := by decide +kernel
theorem dX3_decide_32 : decode cX3_decide 32 = .ok (.getfield 134, 3) := by decide +kernel
theorem dX3_decide_35 : decode cX3_decide 35 = .ok (.iload_n 1, 1) := by decide +kernel
theorem dX3_decide_36 : decode cX3_decide 36 = .ok (.iaload, 1) := by decide +kernel
theorem dX3_decide_37 : decode cX3_decide 37 = .ok (.istore_n 3, 1) := by decide +kernel
theorem dX3_decide_38 : decode cX3_decide 38 = .ok (.aload_n 0, 1) := by decide +kernel
theorem dX3_decide_39 : decode cX3_decide 39 = .ok (.getfield 37, 3) := by decide +kernel
theorem dX3_decide_42 : decode cX3_decide 42 = .ok (.getfield 134, 3) := by decide +kernel
theorem dX3_decide_45 : decode cX3_decide 45 = .ok (.iload_n 1, 1) := by decide +kernel
theorem dX3_decide_46 : decode cX3_decide 46 = .ok (.iload_n 2, 1) := by decide +kernel
theorem dX3_decide_47 : decode cX3_decide 47 = .ok (.iastore, 1) := by decide +kernel
theorem dX3_decide_48 : decode cX3_decide 48 = .ok (.iload_n 3, 1) := by decide +kernel
theorem dX3_decide_49 : decode cX3_decide 49 = .ok (.ireturn, 1) := by decide +kernel
theorem dX3_settle_0 : decode cX3_settle 0 = .ok (.aload_n 0, 1) := by decide +kernel
theorem dX3_settle_1 : decode cX3_settle 1 = .ok (.getfield 37, 3) := by decide +kernel
theorem dX3_settle_4 : decode cX3_settle 4 = .ok (.iconst 0, 1) := by decide +kernel
theorem dX3_settle_5 : decode cX3_settle 5 = .ok (.invokevirtual 137, 3) := by decide +kernel
theorem dX3_settle_8 : decode cX3_settle 8 = .ok (.ifCond .eq 7, 3) := by decide +kernel
theorem dX3_settle_11 : decode cX3_settle 11 = .ok (.sipush (-1003), 3) := by decide +kernel
theorem dX3_settle_14 : decode cX3_settle 14 = .ok (.ireturn, 1) := by decide +kernel
theorem dX3_settle_15 : decode cX3_settle 15 = .ok (.aload_n 0, 1) := by decide +kernel
theorem dX3_settle_16 : decode cX3_settle 16 = .ok (.aload_n 0, 1) := by decide +kernel
theorem dX3_settle_17 : decode cX3_settle 17 = .ok (.iconst 0, 1) := by decide +kernel
theorem dX3_settle_18 : decode cX3_settle 18 = .ok (.invokevirtual 93, 3) := by decide +kernel
theorem dX3_settle_21 : decode cX3_settle 21 = .ok (.invokevirtual 97, 3) := by decide +kernel
theorem dX3_settle_24 : decode cX3_settle 24 = .ok (.istore_n 1, 1) := by decide +kernel
theorem dX3_settle_25 : decode cX3_settle 25 = .ok (.iconst 0, 1) := by decide +kernel
theorem dX3_settle_26 : decode cX3_settle 26 = .ok (.istore_n 2, 1) := by decide +kernel
theorem dX3_settle_27 : decode cX3_settle 27 = .ok (.iload_n 2, 1) := by decide +kernel
theorem dX3_settle_28 : decode cX3_settle 28 = .ok (.iload_n 1, 1) := by decide +kernel
theorem dX3_settle_29 : decode cX3_settle 29 = .ok (.if_icmp .ge 34, 3) := by decide +kernel
theorem dX3_settle_32 : decode cX3_settle 32 = .ok (.aload_n 0, 1) := by decide +kernel
theorem dX3_settle_33 : decode cX3_settle 33 = .ok (.getfield 48, 3) := by decide +kernel
theorem dX3_settle_36 : decode cX3_settle 36 = .ok (.iload_n 2, 1) := by decide +kernel
theorem dX3_settle_37 : decode cX3_settle 37 = .ok (.aload_n 0, 1) := by decide +kernel
theorem dX3_settle_38 : decode cX3_settle 38 = .ok (.getfield 17, 3) := by decide +kernel
theorem dX3_settle_41 : decode cX3_settle 41 = .ok (.aload_n 0, 1) := by decide +kernel
theorem dX3_settle_42 : decode cX3_settle 42 = .ok (.getfield 30, 3) := by decide +kernel
theorem dX3_settle_45 : decode cX3_settle 45 = .ok (.getfield 121, 3) := by decide +kernel
theorem dX3_settle_48 : decode cX3_settle 48 = .ok (.aload_n 0, 1) := by decide +kernel
theorem dX3_settle_49 : decode cX3_settle 49 = .ok (.getfield 48, 3) := by decide +kernel
theorem dX3_settle_52 : decode cX3_settle 52 = .ok (.iload_n 2, 1) := by decide +kernel
theorem dX3_settle_53 : decode cX3_settle 53 = .ok (.iaload, 1) := by decide +kernel
theorem dX3_settle_54 : decode cX3_settle 54 = .ok (.iaload, 1) := by decide +kernel
theorem dX3_settle_55 : decode cX3_settle 55 = .ok (.iaload, 1) := by decide +kernel
theorem dX3_settle_56 : decode cX3_settle 56 = .ok (.iastore, 1) := by decide +kernel
theorem dX3_settle_57 : decode cX3_settle 57 = .ok (.iinc 2 1, 3) := by decide +kernel
theorem dX3_settle_60 : decode cX3_settle 60 = .ok (.goto (-33), 3) := by decide +kernel
theorem dX3_settle_63 : decode cX3_settle 63 = .ok (.aload_n 0, 1) := by decide +kernel
theorem dX3_settle_64 : decode cX3_settle 64 = .ok (.aload_n 0, 1) := by decide +kernel
theorem dX3_settle_65 : decode cX3_settle 65 = .ok (.getfield 48, 3) := by decide +kernel
theorem dX3_settle_68 : decode cX3_settle 68 = .ok (.iload_n 1, 1) := by decide +kernel
theorem dX3_settle_69 : decode cX3_settle 69 = .ok (.invokevirtual 63, 3) := by decide +kernel
theorem dX3_settle_72 : decode cX3_settle 72 = .ok (.aload_n 0, 1) := by decide +kernel
theorem dX3_settle_73 : decode cX3_settle 73 = .ok (.dup, 1) := by decide +kernel
theorem dX3_settle_74 : decode cX3_settle 74 = .ok (.getfield 60, 3) := by decide +kernel
theorem dX3_settle_77 : decode cX3_settle 77 = .ok (.iconst 1, 1) := by decide +kernel
theorem dX3_settle_78 : decode cX3_settle 78 = .ok (.iadd, 1) := by decide +kernel
theorem dX3_settle_79 : decode cX3_settle 79 = .ok (.putfield 60, 3) := by decide +kernel
theorem dX3_settle_82 : decode cX3_settle 82 = .ok (.aload_n 0, 1) := by decide +kernel
theorem dX3_settle_83 : decode cX3_settle 83 = .ok (.getfield 20, 3) := by decide +kernel
theorem dX3_settle_86 : decode cX3_settle 86 = .ok (.ireturn, 1) := by decide +kernel
theorem dX3_setOf_0 : decode cX3_setOf 0 = .ok (.aload_n 0, 1) := by decide +kernel
theorem dX3_setOf_1 : decode cX3_setOf 1 = .ok (.getfield 37, 3) := by decide +kernel
theorem dX3_setOf_4 : decode cX3_setOf 4 = .ok (.iconst 1, 1) := by decide +kernel
theorem dX3_setOf_5 : decode cX3_setOf 5 = .ok (.invokevirtual 137, 3) := by decide +kernel
theorem dX3_setOf_8 : decode cX3_setOf 8 = .ok (.istore_n 2, 1) := by decide +kernel
theorem dX3_setOf_9 : decode cX3_setOf 9 = .ok (.aload_n 0, 1) := by decide +kernel
theorem dX3_setOf_10 : decode cX3_setOf 10 = .ok (.getfield 37, 3) := by decide +kernel
theorem dX3_setOf_13 : decode cX3_setOf 13 = .ok (.iconst 0, 1) := by decide +kernel
theorem dX3_setOf_14 : decode cX3_setOf 14 = .ok (.invokevirtual 137, 3) := by decide +kernel
theorem dX3_setOf_17 : decode cX3_setOf 17 = .ok (.istore_n 3, 1) := by decide +kernel
theorem dX3_setOf_18 : decode cX3_setOf 18 = .ok (.iload_n 1, 1) := by decide +kernel
theorem dX3_setOf_19 : decode cX3_setOf 19 = .ok (.ifCond .ne 5, 3) := by decide +kernel
theorem dX3_setOf_22 : decode cX3_setOf 22 = .ok (.iload_n 2, 1) := by decide +kernel
theorem dX3_setOf_23 : decode cX3_setOf 23 = .ok (.ireturn, 1) := by decide +kernel
theorem dX3_setOf_24 : decode cX3_setOf 24 = .ok (.iload_n 1, 1) := by decide +kernel
theorem dX3_setOf_25 : decode cX3_setOf 25 = .ok (.iconst 1, 1) := by decide +kernel
theorem dX3_setOf_26 : decode cX3_setOf 26 = .ok (.if_icmp .ne 7, 3) := by decide +kernel
theorem dX3_setOf_29 : decode cX3_setOf 29 = .ok (.iload_n 2, 1) := by decide +kernel
theorem dX3_setOf_30 : decode cX3_setOf 30 = .ok (.iload_n 3, 1) := by decide +kernel
theorem dX3_setOf_31 : decode cX3_setOf 31 = .ok (.ior, 1) := by decide +kernel
theorem dX3_setOf_32 : decode cX3_setOf 32 = .ok (.ireturn, 1) := by decide +kernel
theorem dX3_setOf_33 : decode cX3_setOf 33 = .ok (.iload_n 2, 1) := by decide +kernel
theorem dX3_setOf_34 : decode cX3_setOf 34 = .ok (.iload_n 3, 1) := by decide +kernel
theorem dX3_setOf_35 : decode cX3_setOf 35 = .ok (.aload_n 0, 1) := by decide +kernel
theorem dX3_setOf_36 : decode cX3_setOf 36 = .ok (.getfield 37, 3) := by decide +kernel
theorem dX3_setOf_39 : decode cX3_setOf 39 = .ok (.iload_n 1, 1) := by decide +kernel
theorem dX3_setOf_40 : decode cX3_setOf 40 = .ok (.iconst 2, 1) := by decide +kernel
theorem dX3_setOf_41 : decode cX3_setOf 41 = .ok (.isub, 1) := by decide +kernel
theorem dX3_setOf_42 : decode cX3_setOf 42 = .ok (.invokevirtual 140, 3) := by decide +kernel
theorem dX3_setOf_45 : decode cX3_setOf 45 = .ok (.iand, 1) := by decide +kernel
theorem dX3_setOf_46 : decode cX3_setOf 46 = .ok (.ior, 1) := by decide +kernel
theorem dX3_setOf_47 : decode cX3_setOf 47 = .ok (.ireturn, 1) := by decide +kernel
theorem dX3_thereBy_0 : decode cX3_thereBy 0 = .ok (.aload_n 0, 1) := by decide +kernel
theorem dX3_thereBy_1 : decode cX3_thereBy 1 = .ok (.getfield 23, 3) := by decide +kernel
theorem dX3_thereBy_4 : decode cX3_thereBy 4 = .ok (.lstore_n 2, 1) := by decide +kernel
theorem dX3_thereBy_5 : decode cX3_thereBy 5 = .ok (.lconst 0, 1) := by decide +kernel
theorem dX3_thereBy_6 : decode cX3_thereBy 6 = .ok (.lstore 4, 2) := by decide +kernel
theorem dX3_thereBy_8 : decode cX3_thereBy 8 = .ok (.iconst 0, 1) := by decide +kernel
theorem dX3_thereBy_9 : decode cX3_thereBy 9 = .ok (.istore 6, 2) := by decide +kernel
theorem dX3_thereBy_11 : decode cX3_thereBy 11 = .ok (.iload 6, 2) := by decide +kernel
theorem dX3_thereBy_13 : decode cX3_thereBy 13 = .ok (.aload_n 0, 1) := by decide +kernel
theorem dX3_thereBy_14 : decode cX3_thereBy 14 = .ok (.getfield 37, 3) := by decide +kernel
theorem dX3_thereBy_17 : decode cX3_thereBy 17 = .ok (.getfield 70, 3) := by decide +kernel
theorem dX3_thereBy_20 : decode cX3_thereBy 20 = .ok (.if_icmp .ge 76, 3) := by decide +kernel
theorem dX3_thereBy_23 : decode cX3_thereBy 23 = .ok (.iload_n 1, 1) := by decide +kernel
theorem dX3_thereBy_24 : decode cX3_thereBy 24 = .ok (.iload 6, 2) := by decide +kernel
theorem dX3_thereBy_26 : decode cX3_thereBy 26 = .ok (.ishr, 1) := by decide +kernel
theorem dX3_thereBy_27 : decode cX3_thereBy 27 = .ok (.iconst 1, 1) := by decide +kernel
theorem dX3_thereBy_28 : decode cX3_thereBy 28 = .ok (.iand, 1) := by decide +kernel
theorem dX3_thereBy_29 : decode cX3_thereBy 29 = .ok (.ifCond .eq 61, 3) := by decide +kernel
theorem dX3_thereBy_32 : decode cX3_thereBy 32 = .ok (.aload_n 0, 1) := by decide +kernel
theorem dX3_thereBy_33 : decode cX3_thereBy 33 = .ok (.getfield 37, 3) := by decide +kernel
theorem dX3_thereBy_36 : decode cX3_thereBy 36 = .ok (.getfield 143, 3) := by decide +kernel
theorem dX3_thereBy_39 : decode cX3_thereBy 39 = .ok (.iload 6, 2) := by decide +kernel
theorem dX3_thereBy_41 : decode cX3_thereBy 41 = .ok (.iaload, 1) := by decide +kernel
theorem dX3_thereBy_42 : decode cX3_thereBy 42 = .ok (.ifCond .ne 19, 3) := by decide +kernel
theorem dX3_thereBy_45 : decode cX3_thereBy 45 = .ok (.lload_n 2, 1) := by decide +kernel
theorem dX3_thereBy_46 : decode cX3_thereBy 46 = .ok (.aload_n 0, 1) := by decide +kernel
theorem dX3_thereBy_47 : decode cX3_thereBy 47 = .ok (.getfield 37, 3) := by decide +kernel
theorem dX3_thereBy_50 : decode cX3_thereBy 50 = .ok (.getfield 146, 3) := by decide +kernel
theorem dX3_thereBy_53 : decode cX3_thereBy 53 = .ok (.iload 6, 2) := by decide +kernel
theorem dX3_thereBy_55 : decode cX3_thereBy 55 = .ok (.laload, 1) := by decide +kernel
theorem dX3_thereBy_56 : decode cX3_thereBy 56 = .ok (.lor, 1) := by decide +kernel
theorem dX3_thereBy_57 : decode cX3_thereBy 57 = .ok (.lstore_n 2, 1) := by decide +kernel
theorem dX3_thereBy_58 : decode cX3_thereBy 58 = .ok (.goto 32, 3) := by decide +kernel
theorem dX3_thereBy_61 : decode cX3_thereBy 61 = .ok (.aload_n 0, 1) := by decide +kernel
theorem dX3_thereBy_62 : decode cX3_thereBy 62 = .ok (.getfield 37, 3) := by decide +kernel
theorem dX3_thereBy_65 : decode cX3_thereBy 65 = .ok (.getfield 143, 3) := by decide +kernel
theorem dX3_thereBy_68 : decode cX3_thereBy 68 = .ok (.iload 6, 2) := by decide +kernel
theorem dX3_thereBy_70 : decode cX3_thereBy 70 = .ok (.iaload, 1) := by decide +kernel
theorem dX3_thereBy_71 : decode cX3_thereBy 71 = .ok (.iconst 1, 1) := by decide +kernel
theorem dX3_thereBy_72 : decode cX3_thereBy 72 = .ok (.if_icmp .ne 18, 3) := by decide +kernel
theorem dX3_thereBy_75 : decode cX3_thereBy 75 = .ok (.lload 4, 2) := by decide +kernel
theorem dX3_thereBy_77 : decode cX3_thereBy 77 = .ok (.aload_n 0, 1) := by decide +kernel
theorem dX3_thereBy_78 : decode cX3_thereBy 78 = .ok (.getfield 37, 3) := by decide +kernel
theorem dX3_thereBy_81 : decode cX3_thereBy 81 = .ok (.getfield 146, 3) := by decide +kernel
theorem dX3_thereBy_84 : decode cX3_thereBy 84 = .ok (.iload 6, 2) := by decide +kernel
theorem dX3_thereBy_86 : decode cX3_thereBy 86 = .ok (.laload, 1) := by decide +kernel
theorem dX3_thereBy_87 : decode cX3_thereBy 87 = .ok (.lor, 1) := by decide +kernel
theorem dX3_thereBy_88 : decode cX3_thereBy 88 = .ok (.lstore 4, 2) := by decide +kernel
theorem dX3_thereBy_90 : decode cX3_thereBy 90 = .ok (.iinc 6 1, 3) := by decide +kernel
theorem dX3_thereBy_93 : decode cX3_thereBy 93 = .ok (.goto (-82), 3) := by decide +kernel
theorem dX3_thereBy_96 : decode cX3_thereBy 96 = .ok (.lload_n 2, 1) := by decide +kernel
theorem dX3_thereBy_97 : decode cX3_thereBy 97 = .ok (.lload 4, 2) := by decide +kernel
theorem dX3_thereBy_99 : decode cX3_thereBy 99 = .ok (.ldc2_w 79, 3) := by decide +kernel
theorem dX3_thereBy_102 : decode cX3_thereBy 102 = .ok (.lxor, 1) := by decide +kernel
theorem dX3_thereBy_103 : decode cX3_thereBy 103 = .ok (.land, 1) := by decide +kernel
theorem dX3_thereBy_104 : decode cX3_thereBy 104 = .ok (.lreturn, 1) := by decide +kernel
theorem dX3_lineUp_0 : decode cX3_lineUp 0 = .ok (.aload_n 0, 1) := by decide +kernel
theorem dX3_lineUp_1 : decode cX3_lineUp 1 = .ok (.iload_n 1, 1) := by decide +kernel
theorem dX3_lineUp_2 : decode cX3_lineUp 2 = .ok (.invokevirtual 150, 3) := by decide +kernel
theorem dX3_lineUp_5 : decode cX3_lineUp 5 = .ok (.lstore_n 2, 1) := by decide +kernel
theorem dX3_lineUp_6 : decode cX3_lineUp 6 = .ok (.iconst 0, 1) := by decide +kernel
theorem dX3_lineUp_7 : decode cX3_lineUp 7 = .ok (.istore 4, 2) := by decide +kernel
theorem dX3_lineUp_9 : decode cX3_lineUp 9 = .ok (.iconst 0, 1) := by decide +kernel
theorem dX3_lineUp_10 : decode cX3_lineUp 10 = .ok (.istore 5, 2) := by decide +kernel
theorem dX3_lineUp_12 : decode cX3_lineUp 12 = .ok (.iload 5, 2) := by decide +kernel
theorem dX3_lineUp_14 : decode cX3_lineUp 14 = .ok (.aload_n 0, 1) := by decide +kernel
theorem dX3_lineUp_15 : decode cX3_lineUp 15 = .ok (.getfield 30, 3) := by decide +kernel
theorem dX3_lineUp_18 : decode cX3_lineUp 18 = .ok (.getfield 67, 3) := by decide +kernel
theorem dX3_lineUp_21 : decode cX3_lineUp 21 = .ok (.if_icmp .ge 35, 3) := by decide +kernel
theorem dX3_lineUp_24 : decode cX3_lineUp 24 = .ok (.aload_n 0, 1) := by decide +kernel
theorem dX3_lineUp_25 : decode cX3_lineUp 25 = .ok (.getfield 30, 3) := by decide +kernel
theorem dX3_lineUp_28 : decode cX3_lineUp 28 = .ok (.iload 5, 2) := by decide +kernel
theorem dX3_lineUp_30 : decode cX3_lineUp 30 = .ok (.lload_n 2, 1) := by decide +kernel
theorem dX3_lineUp_31 : decode cX3_lineUp 31 = .ok (.iload_n 1, 1) := by decide +kernel
theorem dX3_lineUp_32 : decode cX3_lineUp 32 = .ok (.invokevirtual 153, 3) := by decide +kernel
theorem dX3_lineUp_35 : decode cX3_lineUp 35 = .ok (.ifCond .eq 15, 3) := by decide +kernel
theorem dX3_lineUp_38 : decode cX3_lineUp 38 = .ok (.aload_n 0, 1) := by decide +kernel
theorem dX3_lineUp_39 : decode cX3_lineUp 39 = .ok (.getfield 48, 3) := by decide +kernel
theorem dX3_lineUp_42 : decode cX3_lineUp 42 = .ok (.iload 4, 2) := by decide +kernel
theorem dX3_lineUp_44 : decode cX3_lineUp 44 = .ok (.iload 5, 2) := by decide +kernel
theorem dX3_lineUp_46 : decode cX3_lineUp 46 = .ok (.iastore, 1) := by decide +kernel
theorem dX3_lineUp_47 : decode cX3_lineUp 47 = .ok (.iinc 4 1, 3) := by decide +kernel
theorem dX3_lineUp_50 : decode cX3_lineUp 50 = .ok (.iinc 5 1, 3) := by decide +kernel
theorem dX3_lineUp_53 : decode cX3_lineUp 53 = .ok (.goto (-41), 3) := by decide +kernel
theorem dX3_lineUp_56 : decode cX3_lineUp 56 = .ok (.iload 4, 2) := by decide +kernel
theorem dX3_lineUp_58 : decode cX3_lineUp 58 = .ok (.ireturn, 1) := by decide +kernel
theorem dX3_readsAsPage_0 : decode cX3_readsAsPage 0 = .ok (.aload_n 0, 1) := by decide +kernel
theorem dX3_readsAsPage_1 : decode cX3_readsAsPage 1 = .ok (.iload_n 1, 1) := by decide +kernel
theorem dX3_readsAsPage_2 : decode cX3_readsAsPage 2 = .ok (.invokevirtual 150, 3) := by decide +kernel
theorem dX3_readsAsPage_5 : decode cX3_readsAsPage 5 = .ok (.lstore_n 2, 1) := by decide +kernel
theorem dX3_readsAsPage_6 : decode cX3_readsAsPage 6 = .ok (.lload_n 2, 1) := by decide +kernel
theorem dX3_readsAsPage_7 : decode cX3_readsAsPage 7 = .ok (.invokestatic 157, 3) := by decide +kernel
theorem dX3_readsAsPage_10 : decode cX3_readsAsPage 10 = .ok (.aload_n 0, 1) := by decide +kernel
theorem dX3_readsAsPage_11 : decode cX3_readsAsPage 11 = .ok (.getfield 13, 3) := by decide +kernel
theorem dX3_readsAsPage_14 : decode cX3_readsAsPage 14 = .ok (.if_icmp .eq 5, 3) := by decide +kernel
theorem dX3_readsAsPage_17 : decode cX3_readsAsPage 17 = .ok (.iconst 0, 1) := by decide +kernel
theorem dX3_readsAsPage_18 : decode cX3_readsAsPage 18 = .ok (.ireturn, 1) := by decide +kernel
theorem dX3_readsAsPage_19 : decode cX3_readsAsPage 19 = .ok (.iconst 0, 1) := by decide +kernel
theorem dX3_readsAsPage_20 : decode cX3_readsAsPage 20 = .ok (.istore 4, 2) := by decide +kernel
theorem dX3_readsAsPage_22 : decode cX3_readsAsPage 22 = .ok (.iconst 0, 1) := by decide +kernel
theorem dX3_readsAsPage_23 : decode cX3_readsAsPage 23 = .ok (.istore 5, 2) := by decide +kernel
theorem dX3_readsAsPage_25 : decode cX3_readsAsPage 25 = .ok (.iload 5, 2) := by decide +kernel
theorem dX3_readsAsPage_27 : decode cX3_readsAsPage 27 = .ok (.aload_n 0, 1) := by decide +kernel
theorem dX3_readsAsPage_28 : decode cX3_readsAsPage 28 = .ok (.getfield 30, 3) := by decide +kernel
theorem dX3_readsAsPage_31 : decode cX3_readsAsPage 31 = .ok (.getfield 67, 3) := by decide +kernel
theorem dX3_readsAsPage_34 : decode cX3_readsAsPage 34 = .ok (.if_icmp .ge 62, 3) := by decide +kernel
theorem dX3_readsAsPage_37 : decode cX3_readsAsPage 37 = .ok (.aload_n 0, 1) := by decide +kernel
theorem dX3_readsAsPage_38 : decode cX3_readsAsPage 38 = .ok (.getfield 30, 3) := by decide +kernel
theorem dX3_readsAsPage_41 : decode cX3_readsAsPage 41 = .ok (.iload 5, 2) := by decide +kernel
theorem dX3_readsAsPage_43 : decode cX3_readsAsPage 43 = .ok (.lload_n 2, 1) := by decide +kernel
theorem dX3_readsAsPage_44 : decode cX3_readsAsPage 44 = .ok (.iload_n 1, 1) := by decide +kernel
theorem dX3_readsAsPage_45 : decode cX3_readsAsPage 45 = .ok (.invokevirtual 153, 3) := by decide +kernel
theorem dX3_readsAsPage_48 : decode cX3_readsAsPage 48 = .ok (.ifCond .eq 42, 3) := by decide +kernel
theorem dX3_readsAsPage_51 : decode cX3_readsAsPage 51 = .ok (.iload 4, 2) := by decide +kernel
theorem dX3_readsAsPage_53 : decode cX3_readsAsPage 53 = .ok (.aload_n 0, 1) := by decide +kernel
theorem dX3_readsAsPage_54 : decode cX3_readsAsPage 54 = .ok (.getfield 13, 3) := by decide +kernel
theorem dX3_readsAsPage_57 : decode cX3_readsAsPage 57 = .ok (.if_icmp .ge 28, 3) := by decide +kernel
theorem dX3_readsAsPage_60 : decode cX3_readsAsPage 60 = .ok (.aload_n 0, 1) := by decide +kernel
theorem dX3_readsAsPage_61 : decode cX3_readsAsPage 61 = .ok (.getfield 17, 3) := by decide +kernel
theorem dX3_readsAsPage_64 : decode cX3_readsAsPage 64 = .ok (.aload_n 0, 1) := by decide +kernel
theorem dX3_readsAsPage_65 : decode cX3_readsAsPage 65 = .ok (.getfield 30, 3) := by decide +kernel
theorem dX3_readsAsPage_68 : decode cX3_readsAsPage 68 = .ok (.getfield 121, 3) := by decide +kernel
theorem dX3_readsAsPage_71 : decode cX3_readsAsPage 71 = .ok (.iload 5, 2) := by decide +kernel
theorem dX3_readsAsPage_73 : decode cX3_readsAsPage 73 = .ok (.iaload, 1) := by decide +kernel
theorem dX3_readsAsPage_74 : decode cX3_readsAsPage 74 = .ok (.iaload, 1) := by decide +kernel
theorem dX3_readsAsPage_75 : decode cX3_readsAsPage 75 = .ok (.aload_n 0, 1) := by decide +kernel
theorem dX3_readsAsPage_76 : decode cX3_readsAsPage 76 = .ok (.getfield 9, 3) := by decide +kernel
theorem dX3_readsAsPage_79 : decode cX3_readsAsPage 79 = .ok (.iload 4, 2) := by decide +kernel
theorem dX3_readsAsPage_81 : decode cX3_readsAsPage 81 = .ok (.iaload, 1) := by decide +kernel
theorem dX3_readsAsPage_82 : decode cX3_readsAsPage 82 = .ok (.if_icmp .eq 5, 3) := by decide +kernel
theorem dX3_readsAsPage_85 : decode cX3_readsAsPage 85 = .ok (.iconst 0, 1) := by decide +kernel
theorem dX3_readsAsPage_86 : decode cX3_readsAsPage 86 = .ok (.ireturn, 1) := by decide +kernel
theorem dX3_readsAsPage_87 : decode cX3_readsAsPage 87 = .ok (.iinc 4 1, 3) := by decide +kernel
theorem dX3_readsAsPage_90 : decode cX3_readsAsPage 90 = .ok (.iinc 5 1, 3) := by decide +kernel
theorem dX3_readsAsPage_93 : decode cX3_readsAsPage 93 = .ok (.goto (-68), 3) := by decide +kernel
theorem dX3_readsAsPage_96 : decode cX3_readsAsPage 96 = .ok (.iload 4, 2) := by decide +kernel
theorem dX3_readsAsPage_98 : decode cX3_readsAsPage 98 = .ok (.aload_n 0, 1) := by decide +kernel
theorem dX3_readsAsPage_99 : decode cX3_readsAsPage 99 = .ok (.getfield 13, 3) := by decide +kernel
theorem dX3_readsAsPage_102 : decode cX3_readsAsPage 102 = .ok (.if_icmp .ne 7, 3) := by decide +kernel
theorem dX3_readsAsPage_105 : decode cX3_readsAsPage 105 = .ok (.iconst 1, 1) := by decide +kernel
theorem dX3_readsAsPage_106 : decode cX3_readsAsPage 106 = .ok (.goto 4, 3) := by decide +kernel
theorem dX3_readsAsPage_109 : decode cX3_readsAsPage 109 = .ok (.iconst 0, 1) := by decide +kernel
theorem dX3_readsAsPage_110 : decode cX3_readsAsPage 110 = .ok (.ireturn, 1) := by decide +kernel
theorem dX3_length_0 : decode cX3_length 0 = .ok (.iload_n 1, 1) := by decide +kernel
theorem dX3_length_1 : decode cX3_length 1 = .ok (.invokestatic 163, 3) := by decide +kernel
theorem dX3_length_4 : decode cX3_length 4 = .ok (.ifCond .eq 15, 3) := by decide +kernel
theorem dX3_length_7 : decode cX3_length 7 = .ok (.aload_n 0, 1) := by decide +kernel
theorem dX3_length_8 : decode cX3_length 8 = .ok (.aload_n 0, 1) := by decide +kernel
theorem dX3_length_9 : decode cX3_length 9 = .ok (.iload_n 1, 1) := by decide +kernel
theorem dX3_length_10 : decode cX3_length 10 = .ok (.invokevirtual 93, 3) := by decide +kernel
theorem dX3_length_13 : decode cX3_length 13 = .ok (.invokevirtual 97, 3) := by decide +kernel
theorem dX3_length_16 : decode cX3_length 16 = .ok (.goto 6, 3) := by decide +kernel
theorem dX3_length_19 : decode cX3_length 19 = .ok (.sipush (-1001), 3) := by decide +kernel
theorem dX3_length_22 : decode cX3_length 22 = .ok (.ireturn, 1) := by decide +kernel
theorem dX3_isView_0 : decode cX3_isView 0 = .ok (.iload_n 0, 1) := by decide +kernel
theorem dX3_isView_1 : decode cX3_isView 1 = .ok (.ifCond .lt 13, 3) := by decide +kernel
theorem dX3_isView_4 : decode cX3_isView 4 = .ok (.iload_n 0, 1) := by decide +kernel
theorem dX3_isView_5 : decode cX3_isView 5 = .ok (.bipush 6, 2) := by decide +kernel
theorem dX3_isView_7 : decode cX3_isView 7 = .ok (.if_icmp .ge 7, 3) := by decide +kernel
theorem dX3_isView_10 : decode cX3_isView 10 = .ok (.iconst 1, 1) := by decide +kernel
theorem dX3_isView_11 : decode cX3_isView 11 = .ok (.goto 4, 3) := by decide +kernel
theorem dX3_isView_14 : decode cX3_isView 14 = .ok (.iconst 0, 1) := by decide +kernel
theorem dX3_isView_15 : decode cX3_isView 15 = .ok (.ireturn, 1) := by decide +kernel
theorem dX3_read_0 : decode cX3_read 0 = .ok (.iload_n 1, 1) := by decide +kernel
theorem dX3_read_1 : decode cX3_read 1 = .ok (.invokestatic 163, 3) := by decide +kernel
theorem dX3_read_4 : decode cX3_read 4 = .ok (.ifCond .ne 7, 3) := by decide +kernel
theorem dX3_read_7 : decode cX3_read 7 = .ok (.sipush (-1001), 3) := by decide +kernel
theorem dX3_read_10 : decode cX3_read 10 = .ok (.ireturn, 1) := by decide +kernel
theorem dX3_read_11 : decode cX3_read 11 = .ok (.aload_n 0, 1) := by decide +kernel
theorem dX3_read_12 : decode cX3_read 12 = .ok (.aload_n 0, 1) := by decide +kernel
theorem dX3_read_13 : decode cX3_read 13 = .ok (.iload_n 1, 1) := by decide +kernel
theorem dX3_read_14 : decode cX3_read 14 = .ok (.invokevirtual 93, 3) := by decide +kernel
theorem dX3_read_17 : decode cX3_read 17 = .ok (.invokevirtual 97, 3) := by decide +kernel
theorem dX3_read_20 : decode cX3_read 20 = .ok (.istore 4, 2) := by decide +kernel
theorem dX3_read_22 : decode cX3_read 22 = .ok (.iload_n 2, 1) := by decide +kernel
theorem dX3_read_23 : decode cX3_read 23 = .ok (.ifCond .lt 9, 3) := by decide +kernel
theorem dX3_read_26 : decode cX3_read 26 = .ok (.iload_n 2, 1) := by decide +kernel
theorem dX3_read_27 : decode cX3_read 27 = .ok (.iload 4, 2) := by decide +kernel
theorem dX3_read_29 : decode cX3_read 29 = .ok (.if_icmp .lt 7, 3) := by decide +kernel
theorem dX3_read_32 : decode cX3_read 32 = .ok (.sipush (-1001), 3) := by decide +kernel
theorem dX3_read_35 : decode cX3_read 35 = .ok (.ireturn, 1) := by decide +kernel
theorem dX3_read_36 : decode cX3_read 36 = .ok (.iload_n 3, 1) := by decide +kernel
theorem dX3_read_37 : decode cX3_read 37 = .ok (.ifCond .lt 9, 3) := by decide +kernel
theorem dX3_read_40 : decode cX3_read 40 = .ok (.iload_n 3, 1) := by decide +kernel
theorem dX3_read_41 : decode cX3_read 41 = .ok (.bipush 6, 2) := by decide +kernel
theorem dX3_read_43 : decode cX3_read 43 = .ok (.if_icmp .lt 7, 3) := by decide +kernel
theorem dX3_read_46 : decode cX3_read 46 = .ok (.sipush (-1002), 3) := by decide +kernel
theorem dX3_read_49 : decode cX3_read 49 = .ok (.ireturn, 1) := by decide +kernel
theorem dX3_read_50 : decode cX3_read 50 = .ok (.aload_n 0, 1) := by decide +kernel
theorem dX3_read_51 : decode cX3_read 51 = .ok (.aload_n 0, 1) := by decide +kernel
theorem dX3_read_52 : decode cX3_read 52 = .ok (.getfield 48, 3) := by decide +kernel
theorem dX3_read_55 : decode cX3_read 55 = .ok (.iload_n 2, 1) := by decide +kernel
theorem dX3_read_56 : decode cX3_read 56 = .ok (.iaload, 1) := by decide +kernel
theorem dX3_read_57 : decode cX3_read 57 = .ok (.iload_n 3, 1) := by decide +kernel
theorem dX3_read_58 : decode cX3_read 58 = .ok (.invokevirtual 166, 3) := by decide +kernel
theorem dX3_read_61 : decode cX3_read 61 = .ok (.ireturn, 1) := by decide +kernel
theorem dX3_letterFact_0 : decode cX3_letterFact 0 = .ok (.aload_n 0, 1) := by decide +kernel
theorem dX3_letterFact_1 : decode cX3_letterFact 1 = .ok (.getfield 30, 3) := by decide +kernel
theorem dX3_letterFact_4 : decode cX3_letterFact 4 = .ok (.getfield 121, 3) := by decide +kernel
theorem dX3_letterFact_7 : decode cX3_letterFact 7 = .ok (.iload_n 1, 1) := by decide +kernel
theorem dX3_letterFact_8 : decode cX3_letterFact 8 = .ok (.iaload, 1) := by decide +kernel
theorem dX3_letterFact_9 : decode cX3_letterFact 9 = .ok (.istore_n 3, 1) := by decide +kernel
theorem dX3_letterFact_10 : decode cX3_letterFact 10 = .ok (.iload_n 2, 1) := by decide +kernel
theorem dX3_letterFact_11 : decode cX3_letterFact 11 = .ok (.tableswitch 64 0 4 #[33, 40, 42, 44, 54], 33) := by decide +kernel
theorem dX3_letterFact_44 : decode cX3_letterFact 44 = .ok (.aload_n 0, 1) := by decide +kernel
theorem dX3_letterFact_45 : decode cX3_letterFact 45 = .ok (.getfield 17, 3) := by decide +kernel
theorem dX3_letterFact_48 : decode cX3_letterFact 48 = .ok (.iload_n 3, 1) := by decide +kernel
theorem dX3_letterFact_49 : decode cX3_letterFact 49 = .ok (.iaload, 1) := by decide +kernel
theorem dX3_letterFact_50 : decode cX3_letterFact 50 = .ok (.ireturn, 1) := by decide +kernel
theorem dX3_letterFact_51 : decode cX3_letterFact 51 = .ok (.iload_n 3, 1) := by decide +kernel
theorem dX3_letterFact_52 : decode cX3_letterFact 52 = .ok (.ireturn, 1) := by decide +kernel
theorem dX3_letterFact_53 : decode cX3_letterFact 53 = .ok (.iload_n 1, 1) := by decide +kernel
theorem dX3_letterFact_54 : decode cX3_letterFact 54 = .ok (.ireturn, 1) := by decide +kernel
theorem dX3_letterFact_55 : decode cX3_letterFact 55 = .ok (.aload_n 0, 1) := by decide +kernel
theorem dX3_letterFact_56 : decode cX3_letterFact 56 = .ok (.getfield 30, 3) := by decide +kernel
theorem dX3_letterFact_59 : decode cX3_letterFact 59 = .ok (.getfield 169, 3) := by decide +kernel
theorem dX3_letterFact_62 : decode cX3_letterFact 62 = .ok (.iload_n 1, 1) := by decide +kernel
theorem dX3_letterFact_63 : decode cX3_letterFact 63 = .ok (.iaload, 1) := by decide +kernel
theorem dX3_letterFact_64 : decode cX3_letterFact 64 = .ok (.ireturn, 1) := by decide +kernel
theorem dX3_letterFact_65 : decode cX3_letterFact 65 = .ok (.aload_n 0, 1) := by decide +kernel
theorem dX3_letterFact_66 : decode cX3_letterFact 66 = .ok (.getfield 37, 3) := by decide +kernel
theorem dX3_letterFact_69 : decode cX3_letterFact 69 = .ok (.iconst 1, 1) := by decide +kernel
theorem dX3_letterFact_70 : decode cX3_letterFact 70 = .ok (.iload_n 3, 1) := by decide +kernel
theorem dX3_letterFact_71 : decode cX3_letterFact 71 = .ok (.invokevirtual 172, 3) := by decide +kernel
theorem dX3_letterFact_74 : decode cX3_letterFact 74 = .ok (.ireturn, 1) := by decide +kernel
theorem dX3_letterFact_75 : decode cX3_letterFact 75 = .ok (.aload_n 0, 1) := by decide +kernel
theorem dX3_letterFact_76 : decode cX3_letterFact 76 = .ok (.getfield 37, 3) := by decide +kernel
theorem dX3_letterFact_79 : decode cX3_letterFact 79 = .ok (.iconst 2, 1) := by decide +kernel
theorem dX3_letterFact_80 : decode cX3_letterFact 80 = .ok (.iload_n 3, 1) := by decide +kernel
theorem dX3_letterFact_81 : decode cX3_letterFact 81 = .ok (.invokevirtual 172, 3) := by decide +kernel
theorem dX3_letterFact_84 : decode cX3_letterFact 84 = .ok (.ireturn, 1) := by decide +kernel
theorem dX3_place_0 : decode cX3_place 0 = .ok (.iload_n 1, 1) := by decide +kernel
theorem dX3_place_1 : decode cX3_place 1 = .ok (.ifCond .lt 14, 3) := by decide +kernel
theorem dX3_place_4 : decode cX3_place 4 = .ok (.iload_n 1, 1) := by decide +kernel
theorem dX3_place_5 : decode cX3_place 5 = .ok (.aload_n 0, 1) := by decide +kernel
theorem dX3_place_6 : decode cX3_place 6 = .ok (.getfield 30, 3) := by decide +kernel
theorem dX3_place_9 : decode cX3_place 9 = .ok (.getfield 67, 3) := by decide +kernel
theorem dX3_place_12 : decode cX3_place 12 = .ok (.if_icmp .lt 7, 3) := by decide +kernel
theorem dX3_place_15 : decode cX3_place 15 = .ok (.sipush (-1001), 3) := by decide +kernel
theorem dX3_place_18 : decode cX3_place 18 = .ok (.ireturn, 1) := by decide +kernel
theorem dX3_place_19 : decode cX3_place 19 = .ok (.iload_n 2, 1) := by decide +kernel
theorem dX3_place_20 : decode cX3_place 20 = .ok (.ifCond .lt 8, 3) := by decide +kernel
theorem dX3_place_23 : decode cX3_place 23 = .ok (.iload_n 2, 1) := by decide +kernel
theorem dX3_place_24 : decode cX3_place 24 = .ok (.iconst 4, 1) := by decide +kernel
theorem dX3_place_25 : decode cX3_place 25 = .ok (.if_icmp .lt 7, 3) := by decide +kernel
theorem dX3_place_28 : decode cX3_place 28 = .ok (.sipush (-1002), 3) := by decide +kernel
theorem dX3_place_31 : decode cX3_place 31 = .ok (.ireturn, 1) := by decide +kernel
theorem dX3_place_32 : decode cX3_place 32 = .ok (.aload_n 0, 1) := by decide +kernel
theorem dX3_place_33 : decode cX3_place 33 = .ok (.iload_n 1, 1) := by decide +kernel
theorem dX3_place_34 : decode cX3_place 34 = .ok (.iload_n 2, 1) := by decide +kernel
theorem dX3_place_35 : decode cX3_place 35 = .ok (.invokevirtual 175, 3) := by decide +kernel
theorem dX3_place_38 : decode cX3_place 38 = .ok (.ireturn, 1) := by decide +kernel
theorem dX3_placeFact_0 : decode cX3_placeFact 0 = .ok (.iload_n 2, 1) := by decide +kernel
theorem dX3_placeFact_1 : decode cX3_placeFact 1 = .ok (.tableswitch 57 0 2 #[27, 37, 47], 27) := by decide +kernel
theorem dX3_placeFact_28 : decode cX3_placeFact 28 = .ok (.aload_n 0, 1) := by decide +kernel
theorem dX3_placeFact_29 : decode cX3_placeFact 29 = .ok (.getfield 30, 3) := by decide +kernel
theorem dX3_placeFact_32 : decode cX3_placeFact 32 = .ok (.getfield 121, 3) := by decide +kernel
theorem dX3_placeFact_35 : decode cX3_placeFact 35 = .ok (.iload_n 1, 1) := by decide +kernel
theorem dX3_placeFact_36 : decode cX3_placeFact 36 = .ok (.iaload, 1) := by decide +kernel
theorem dX3_placeFact_37 : decode cX3_placeFact 37 = .ok (.ireturn, 1) := by decide +kernel
theorem dX3_placeFact_38 : decode cX3_placeFact 38 = .ok (.aload_n 0, 1) := by decide +kernel
theorem dX3_placeFact_39 : decode cX3_placeFact 39 = .ok (.getfield 30, 3) := by decide +kernel
theorem dX3_placeFact_42 : decode cX3_placeFact 42 = .ok (.getfield 178, 3) := by decide +kernel
theorem dX3_placeFact_45 : decode cX3_placeFact 45 = .ok (.iload_n 1, 1) := by decide +kernel
theorem dX3_placeFact_46 : decode cX3_placeFact 46 = .ok (.iaload, 1) := by decide +kernel
theorem dX3_placeFact_47 : decode cX3_placeFact 47 = .ok (.ireturn, 1) := by decide +kernel
theorem dX3_placeFact_48 : decode cX3_placeFact 48 = .ok (.aload_n 0, 1) := by decide +kernel
theorem dX3_placeFact_49 : decode cX3_placeFact 49 = .ok (.getfield 30, 3) := by decide +kernel
theorem dX3_placeFact_52 : decode cX3_placeFact 52 = .ok (.getfield 169, 3) := by decide +kernel
theorem dX3_placeFact_55 : decode cX3_placeFact 55 = .ok (.iload_n 1, 1) := by decide +kernel
theorem dX3_placeFact_56 : decode cX3_placeFact 56 = .ok (.iaload, 1) := by decide +kernel
theorem dX3_placeFact_57 : decode cX3_placeFact 57 = .ok (.ireturn, 1) := by decide +kernel
theorem dX3_placeFact_58 : decode cX3_placeFact 58 = .ok (.aload_n 0, 1) := by decide +kernel
theorem dX3_placeFact_59 : decode cX3_placeFact 59 = .ok (.iload_n 1, 1) := by decide +kernel
theorem dX3_placeFact_60 : decode cX3_placeFact 60 = .ok (.invokevirtual 181, 3) := by decide +kernel
theorem dX3_placeFact_63 : decode cX3_placeFact 63 = .ok (.ireturn, 1) := by decide +kernel
theorem dX3_markOf_0 : decode cX3_markOf 0 = .ok (.aload_n 0, 1) := by decide +kernel
theorem dX3_markOf_1 : decode cX3_markOf 1 = .ok (.iconst 0, 1) := by decide +kernel
theorem dX3_markOf_2 : decode cX3_markOf 2 = .ok (.invokevirtual 93, 3) := by decide +kernel
theorem dX3_markOf_5 : decode cX3_markOf 5 = .ok (.istore_n 2, 1) := by decide +kernel
theorem dX3_markOf_6 : decode cX3_markOf 6 = .ok (.aload_n 0, 1) := by decide +kernel
theorem dX3_markOf_7 : decode cX3_markOf 7 = .ok (.iconst 1, 1) := by decide +kernel
theorem dX3_markOf_8 : decode cX3_markOf 8 = .ok (.invokevirtual 93, 3) := by decide +kernel
theorem dX3_markOf_11 : decode cX3_markOf 11 = .ok (.istore_n 3, 1) := by decide +kernel
theorem dX3_markOf_12 : decode cX3_markOf 12 = .ok (.aload_n 0, 1) := by decide +kernel
theorem dX3_markOf_13 : decode cX3_markOf 13 = .ok (.getfield 30, 3) := by decide +kernel
theorem dX3_markOf_16 : decode cX3_markOf 16 = .ok (.iload_n 1, 1) := by decide +kernel
theorem dX3_markOf_17 : decode cX3_markOf 17 = .ok (.aload_n 0, 1) := by decide +kernel
theorem dX3_markOf_18 : decode cX3_markOf 18 = .ok (.iload_n 2, 1) := by decide +kernel
theorem dX3_markOf_19 : decode cX3_markOf 19 = .ok (.invokevirtual 150, 3) := by decide +kernel
theorem dX3_markOf_22 : decode cX3_markOf 22 = .ok (.iload_n 2, 1) := by decide +kernel
theorem dX3_markOf_23 : decode cX3_markOf 23 = .ok (.invokevirtual 153, 3) := by decide +kernel
theorem dX3_markOf_26 : decode cX3_markOf 26 = .ok (.istore 4, 2) := by decide +kernel
theorem dX3_markOf_28 : decode cX3_markOf 28 = .ok (.aload_n 0, 1) := by decide +kernel
theorem dX3_markOf_29 : decode cX3_markOf 29 = .ok (.getfield 30, 3) := by decide +kernel
theorem dX3_markOf_32 : decode cX3_markOf 32 = .ok (.iload_n 1, 1) := by decide +kernel
theorem dX3_markOf_33 : decode cX3_markOf 33 = .ok (.aload_n 0, 1) := by decide +kernel
theorem dX3_markOf_34 : decode cX3_markOf 34 = .ok (.iload_n 3, 1) := by decide +kernel
theorem dX3_markOf_35 : decode cX3_markOf 35 = .ok (.invokevirtual 150, 3) := by decide +kernel
theorem dX3_markOf_38 : decode cX3_markOf 38 = .ok (.iload_n 3, 1) := by decide +kernel
theorem dX3_markOf_39 : decode cX3_markOf 39 = .ok (.invokevirtual 153, 3) := by decide +kernel
theorem dX3_markOf_42 : decode cX3_markOf 42 = .ok (.istore 5, 2) := by decide +kernel
theorem dX3_markOf_44 : decode cX3_markOf 44 = .ok (.iload 4, 2) := by decide +kernel
theorem dX3_markOf_46 : decode cX3_markOf 46 = .ok (.ifCond .eq 14, 3) := by decide +kernel
theorem dX3_markOf_49 : decode cX3_markOf 49 = .ok (.iload 5, 2) := by decide +kernel
theorem dX3_markOf_51 : decode cX3_markOf 51 = .ok (.ifCond .eq 7, 3) := by decide +kernel
theorem dX3_markOf_54 : decode cX3_markOf 54 = .ok (.iconst 0, 1) := by decide +kernel
theorem dX3_markOf_55 : decode cX3_markOf 55 = .ok (.goto 4, 3) := by decide +kernel
theorem dX3_markOf_58 : decode cX3_markOf 58 = .ok (.iconst 2, 1) := by decide +kernel
theorem dX3_markOf_59 : decode cX3_markOf 59 = .ok (.ireturn, 1) := by decide +kernel
theorem dX3_markOf_60 : decode cX3_markOf 60 = .ok (.iload 5, 2) := by decide +kernel
theorem dX3_markOf_62 : decode cX3_markOf 62 = .ok (.ifCond .eq 7, 3) := by decide +kernel
theorem dX3_markOf_65 : decode cX3_markOf 65 = .ok (.iconst 1, 1) := by decide +kernel
theorem dX3_markOf_66 : decode cX3_markOf 66 = .ok (.goto 4, 3) := by decide +kernel
theorem dX3_markOf_69 : decode cX3_markOf 69 = .ok (.iconst 3, 1) := by decide +kernel
theorem dX3_markOf_70 : decode cX3_markOf 70 = .ok (.ireturn, 1) := by decide +kernel
theorem dX3_change_0 : decode cX3_change 0 = .ok (.aload_n 0, 1) := by decide +kernel
theorem dX3_change_1 : decode cX3_change 1 = .ok (.getfield 37, 3) := by decide +kernel
theorem dX3_change_4 : decode cX3_change 4 = .ok (.iload_n 1, 1) := by decide +kernel
theorem dX3_change_5 : decode cX3_change 5 = .ok (.invokevirtual 128, 3) := by decide +kernel
theorem dX3_change_8 : decode cX3_change 8 = .ok (.ifCond .ne 7, 3) := by decide +kernel
theorem dX3_change_11 : decode cX3_change 11 = .ok (.sipush (-1001), 3) := by decide +kernel
theorem dX3_change_14 : decode cX3_change 14 = .ok (.ireturn, 1) := by decide +kernel
theorem dX3_change_15 : decode cX3_change 15 = .ok (.iload_n 2, 1) := by decide +kernel
theorem dX3_change_16 : decode cX3_change 16 = .ok (.ifCond .lt 9, 3) := by decide +kernel
theorem dX3_change_19 : decode cX3_change 19 = .ok (.iload_n 2, 1) := by decide +kernel
theorem dX3_change_20 : decode cX3_change 20 = .ok (.bipush 7, 2) := by decide +kernel
theorem dX3_change_22 : decode cX3_change 22 = .ok (.if_icmp .lt 7, 3) := by decide +kernel
theorem dX3_change_25 : decode cX3_change 25 = .ok (.sipush (-1002), 3) := by decide +kernel
theorem dX3_change_28 : decode cX3_change 28 = .ok (.ireturn, 1) := by decide +kernel
theorem dX3_change_29 : decode cX3_change 29 = .ok (.aload_n 0, 1) := by decide +kernel
theorem dX3_change_30 : decode cX3_change 30 = .ok (.iload_n 1, 1) := by decide +kernel
theorem dX3_change_31 : decode cX3_change 31 = .ok (.iload_n 2, 1) := by decide +kernel
theorem dX3_change_32 : decode cX3_change 32 = .ok (.invokevirtual 184, 3) := by decide +kernel
theorem dX3_change_35 : decode cX3_change 35 = .ok (.ireturn, 1) := by decide +kernel
theorem dX3_changeFact_0 : decode cX3_changeFact 0 = .ok (.iload_n 2, 1) := by decide +kernel
theorem dX3_changeFact_1 : decode cX3_changeFact 1 = .ok (.tableswitch 98 0 5 #[39, 49, 59, 69, 79, 92], 39) := by decide +kernel
theorem dX3_changeFact_40 : decode cX3_changeFact 40 = .ok (.aload_n 0, 1) := by decide +kernel
theorem dX3_changeFact_41 : decode cX3_changeFact 41 = .ok (.getfield 37, 3) := by decide +kernel
theorem dX3_changeFact_44 : decode cX3_changeFact 44 = .ok (.getfield 143, 3) := by decide +kernel
theorem dX3_changeFact_47 : decode cX3_changeFact 47 = .ok (.iload_n 1, 1) := by decide +kernel
theorem dX3_changeFact_48 : decode cX3_changeFact 48 = .ok (.iaload, 1) := by decide +kernel
theorem dX3_changeFact_49 : decode cX3_changeFact 49 = .ok (.ireturn, 1) := by decide +kernel
theorem dX3_changeFact_50 : decode cX3_changeFact 50 = .ok (.aload_n 0, 1) := by decide +kernel
theorem dX3_changeFact_51 : decode cX3_changeFact 51 = .ok (.getfield 37, 3) := by decide +kernel
theorem dX3_changeFact_54 : decode cX3_changeFact 54 = .ok (.getfield 187, 3) := by decide +kernel
theorem dX3_changeFact_57 : decode cX3_changeFact 57 = .ok (.iload_n 1, 1) := by decide +kernel
theorem dX3_changeFact_58 : decode cX3_changeFact 58 = .ok (.iaload, 1) := by decide +kernel
theorem dX3_changeFact_59 : decode cX3_changeFact 59 = .ok (.ireturn, 1) := by decide +kernel
theorem dX3_changeFact_60 : decode cX3_changeFact 60 = .ok (.aload_n 0, 1) := by decide +kernel
theorem dX3_changeFact_61 : decode cX3_changeFact 61 = .ok (.getfield 37, 3) := by decide +kernel
theorem dX3_changeFact_64 : decode cX3_changeFact 64 = .ok (.getfield 134, 3) := by decide +kernel
theorem dX3_changeFact_67 : decode cX3_changeFact 67 = .ok (.iload_n 1, 1) := by decide +kernel
theorem dX3_changeFact_68 : decode cX3_changeFact 68 = .ok (.iaload, 1) := by decide +kernel
theorem dX3_changeFact_69 : decode cX3_changeFact 69 = .ok (.ireturn, 1) := by decide +kernel
theorem dX3_changeFact_70 : decode cX3_changeFact 70 = .ok (.aload_n 0, 1) := by decide +kernel
theorem dX3_changeFact_71 : decode cX3_changeFact 71 = .ok (.getfield 37, 3) := by decide +kernel
theorem dX3_changeFact_74 : decode cX3_changeFact 74 = .ok (.getfield 131, 3) := by decide +kernel
theorem dX3_changeFact_77 : decode cX3_changeFact 77 = .ok (.iload_n 1, 1) := by decide +kernel
theorem dX3_changeFact_78 : decode cX3_changeFact 78 = .ok (.iaload, 1) := by decide +kernel
theorem dX3_changeFact_79 : decode cX3_changeFact 79 = .ok (.ireturn, 1) := by decide +kernel
theorem dX3_changeFact_80 : decode cX3_changeFact 80 = .ok (.aload_n 0, 1) := by decide +kernel
theorem dX3_changeFact_81 : decode cX3_changeFact 81 = .ok (.getfield 37, 3) := by decide +kernel
theorem dX3_changeFact_84 : decode cX3_changeFact 84 = .ok (.getfield 146, 3) := by decide +kernel
theorem dX3_changeFact_87 : decode cX3_changeFact 87 = .ok (.iload_n 1, 1) := by decide +kernel
theorem dX3_changeFact_88 : decode cX3_changeFact 88 = .ok (.laload, 1) := by decide +kernel
theorem dX3_changeFact_89 : decode cX3_changeFact 89 = .ok (.invokestatic 157, 3) := by decide +kernel
theorem dX3_changeFact_92 : decode cX3_changeFact 92 = .ok (.ireturn, 1) := by decide +kernel
theorem dX3_changeFact_93 : decode cX3_changeFact 93 = .ok (.aload_n 0, 1) := by decide +kernel
theorem dX3_changeFact_94 : decode cX3_changeFact 94 = .ok (.iload_n 1, 1) := by decide +kernel
theorem dX3_changeFact_95 : decode cX3_changeFact 95 = .ok (.invokevirtual 190, 3) := by decide +kernel
theorem dX3_changeFact_98 : decode cX3_changeFact 98 = .ok (.ireturn, 1) := by decide +kernel
theorem dX3_changeFact_99 : decode cX3_changeFact 99 = .ok (.aload_n 0, 1) := by decide +kernel
theorem dX3_changeFact_100 : decode cX3_changeFact 100 = .ok (.getfield 37, 3) := by decide +kernel
theorem dX3_changeFact_103 : decode cX3_changeFact 103 = .ok (.iload_n 1, 1) := by decide +kernel
theorem dX3_changeFact_104 : decode cX3_changeFact 104 = .ok (.invokevirtual 193, 3) := by decide +kernel
theorem dX3_changeFact_107 : decode cX3_changeFact 107 = .ok (.aload_n 0, 1) := by decide +kernel
theorem dX3_changeFact_108 : decode cX3_changeFact 108 = .ok (.getfield 30, 3) := by decide +kernel
theorem dX3_changeFact_111 : decode cX3_changeFact 111 = .ok (.iload_n 1, 1) := by decide +kernel
theorem dX3_changeFact_112 : decode cX3_changeFact 112 = .ok (.invokevirtual 196, 3) := by decide +kernel
theorem dX3_changeFact_115 : decode cX3_changeFact 115 = .ok (.ior, 1) := by decide +kernel
theorem dX3_changeFact_116 : decode cX3_changeFact 116 = .ok (.ireturn, 1) := by decide +kernel
theorem dX3_idleOf_0 : decode cX3_idleOf 0 = .ok (.aload_n 0, 1) := by decide +kernel
theorem dX3_idleOf_1 : decode cX3_idleOf 1 = .ok (.iconst 1, 1) := by decide +kernel
theorem dX3_idleOf_2 : decode cX3_idleOf 2 = .ok (.invokevirtual 93, 3) := by decide +kernel
theorem dX3_idleOf_5 : decode cX3_idleOf 5 = .ok (.iconst 1, 1) := by decide +kernel
theorem dX3_idleOf_6 : decode cX3_idleOf 6 = .ok (.iload_n 1, 1) := by decide +kernel
theorem dX3_idleOf_7 : decode cX3_idleOf 7 = .ok (.ishl, 1) := by decide +kernel
theorem dX3_idleOf_8 : decode cX3_idleOf 8 = .ok (.ior, 1) := by decide +kernel
theorem dX3_idleOf_9 : decode cX3_idleOf 9 = .ok (.istore_n 2, 1) := by decide +kernel
theorem dX3_idleOf_10 : decode cX3_idleOf 10 = .ok (.iload_n 2, 1) := by decide +kernel
theorem dX3_idleOf_11 : decode cX3_idleOf 11 = .ok (.iconst 1, 1) := by decide +kernel
theorem dX3_idleOf_12 : decode cX3_idleOf 12 = .ok (.iload_n 1, 1) := by decide +kernel
theorem dX3_idleOf_13 : decode cX3_idleOf 13 = .ok (.ishl, 1) := by decide +kernel
theorem dX3_idleOf_14 : decode cX3_idleOf 14 = .ok (.iconst (-1), 1) := by decide +kernel
theorem dX3_idleOf_15 : decode cX3_idleOf 15 = .ok (.ixor, 1) := by decide +kernel
theorem dX3_idleOf_16 : decode cX3_idleOf 16 = .ok (.iand, 1) := by decide +kernel
theorem dX3_idleOf_17 : decode cX3_idleOf 17 = .ok (.istore_n 3, 1) := by decide +kernel
theorem dX3_idleOf_18 : decode cX3_idleOf 18 = .ok (.aload_n 0, 1) := by decide +kernel
theorem dX3_idleOf_19 : decode cX3_idleOf 19 = .ok (.iload_n 2, 1) := by decide +kernel
theorem dX3_idleOf_20 : decode cX3_idleOf 20 = .ok (.invokevirtual 150, 3) := by decide +kernel
theorem dX3_idleOf_23 : decode cX3_idleOf 23 = .ok (.lstore 4, 2) := by decide +kernel
theorem dX3_idleOf_25 : decode cX3_idleOf 25 = .ok (.aload_n 0, 1) := by decide +kernel
theorem dX3_idleOf_26 : decode cX3_idleOf 26 = .ok (.iload_n 3, 1) := by decide +kernel
theorem dX3_idleOf_27 : decode cX3_idleOf 27 = .ok (.invokevirtual 150, 3) := by decide +kernel
theorem dX3_idleOf_30 : decode cX3_idleOf 30 = .ok (.lstore 6, 2) := by decide +kernel
theorem dX3_idleOf_32 : decode cX3_idleOf 32 = .ok (.aload_n 0, 1) := by decide +kernel
theorem dX3_idleOf_33 : decode cX3_idleOf 33 = .ok (.getfield 37, 3) := by decide +kernel
theorem dX3_idleOf_36 : decode cX3_idleOf 36 = .ok (.getfield 146, 3) := by decide +kernel
theorem dX3_idleOf_39 : decode cX3_idleOf 39 = .ok (.iload_n 1, 1) := by decide +kernel
theorem dX3_idleOf_40 : decode cX3_idleOf 40 = .ok (.laload, 1) := by decide +kernel
theorem dX3_idleOf_41 : decode cX3_idleOf 41 = .ok (.lstore 8, 2) := by decide +kernel
theorem dX3_idleOf_43 : decode cX3_idleOf 43 = .ok (.lload 8, 2) := by decide +kernel
theorem dX3_idleOf_45 : decode cX3_idleOf 45 = .ok (.lload 4, 2) := by decide +kernel
theorem dX3_idleOf_47 : decode cX3_idleOf 47 = .ok (.ldc2_w 79, 3) := by decide +kernel
theorem dX3_idleOf_50 : decode cX3_idleOf 50 = .ok (.lxor, 1) := by decide +kernel
theorem dX3_idleOf_51 : decode cX3_idleOf 51 = .ok (.land, 1) := by decide +kernel
theorem dX3_idleOf_52 : decode cX3_idleOf 52 = .ok (.lload 6, 2) := by decide +kernel
theorem dX3_idleOf_54 : decode cX3_idleOf 54 = .ok (.ldc2_w 79, 3) := by decide +kernel
theorem dX3_idleOf_57 : decode cX3_idleOf 57 = .ok (.lxor, 1) := by decide +kernel
theorem dX3_idleOf_58 : decode cX3_idleOf 58 = .ok (.land, 1) := by decide +kernel
theorem dX3_idleOf_59 : decode cX3_idleOf 59 = .ok (.invokestatic 157, 3) := by decide +kernel
theorem dX3_idleOf_62 : decode cX3_idleOf 62 = .ok (.istore 10, 2) := by decide +kernel
theorem dX3_idleOf_64 : decode cX3_idleOf 64 = .ok (.iconst 0, 1) := by decide +kernel
theorem dX3_idleOf_65 : decode cX3_idleOf 65 = .ok (.istore 11, 2) := by decide +kernel
theorem dX3_idleOf_67 : decode cX3_idleOf 67 = .ok (.iload 11, 2) := by decide +kernel
theorem dX3_idleOf_69 : decode cX3_idleOf 69 = .ok (.aload_n 0, 1) := by decide +kernel
theorem dX3_idleOf_70 : decode cX3_idleOf 70 = .ok (.getfield 30, 3) := by decide +kernel
theorem dX3_idleOf_73 : decode cX3_idleOf 73 = .ok (.getfield 67, 3) := by decide +kernel
theorem dX3_idleOf_76 : decode cX3_idleOf 76 = .ok (.if_icmp .ge 48, 3) := by decide +kernel
theorem dX3_idleOf_79 : decode cX3_idleOf 79 = .ok (.aload_n 0, 1) := by decide +kernel
theorem dX3_idleOf_80 : decode cX3_idleOf 80 = .ok (.getfield 30, 3) := by decide +kernel
theorem dX3_idleOf_83 : decode cX3_idleOf 83 = .ok (.iload 11, 2) := by decide +kernel
theorem dX3_idleOf_85 : decode cX3_idleOf 85 = .ok (.lload 8, 2) := by decide +kernel
theorem dX3_idleOf_87 : decode cX3_idleOf 87 = .ok (.lload 4, 2) := by decide +kernel
theorem dX3_idleOf_89 : decode cX3_idleOf 89 = .ok (.land, 1) := by decide +kernel
theorem dX3_idleOf_90 : decode cX3_idleOf 90 = .ok (.iload_n 2, 1) := by decide +kernel
theorem dX3_idleOf_91 : decode cX3_idleOf 91 = .ok (.invokevirtual 153, 3) := by decide +kernel
theorem dX3_idleOf_94 : decode cX3_idleOf 94 = .ok (.ifCond .eq 24, 3) := by decide +kernel
theorem dX3_idleOf_97 : decode cX3_idleOf 97 = .ok (.aload_n 0, 1) := by decide +kernel
theorem dX3_idleOf_98 : decode cX3_idleOf 98 = .ok (.getfield 30, 3) := by decide +kernel
theorem dX3_idleOf_101 : decode cX3_idleOf 101 = .ok (.iload 11, 2) := by decide +kernel
theorem dX3_idleOf_103 : decode cX3_idleOf 103 = .ok (.lload 8, 2) := by decide +kernel
theorem dX3_idleOf_105 : decode cX3_idleOf 105 = .ok (.lload 6, 2) := by decide +kernel
theorem dX3_idleOf_107 : decode cX3_idleOf 107 = .ok (.land, 1) := by decide +kernel
theorem dX3_idleOf_108 : decode cX3_idleOf 108 = .ok (.iload_n 3, 1) := by decide +kernel
theorem dX3_idleOf_109 : decode cX3_idleOf 109 = .ok (.invokevirtual 153, 3) := by decide +kernel
theorem dX3_idleOf_112 : decode cX3_idleOf 112 = .ok (.ifCond .eq 6, 3) := by decide +kernel
theorem dX3_idleOf_115 : decode cX3_idleOf 115 = .ok (.iinc 10 1, 3) := by decide +kernel
theorem dX3_idleOf_118 : decode cX3_idleOf 118 = .ok (.iinc 11 1, 3) := by decide +kernel
theorem dX3_idleOf_121 : decode cX3_idleOf 121 = .ok (.goto (-54), 3) := by decide +kernel
theorem dX3_idleOf_124 : decode cX3_idleOf 124 = .ok (.iload 10, 2) := by decide +kernel
theorem dX3_idleOf_126 : decode cX3_idleOf 126 = .ok (.ireturn, 1) := by decide +kernel
theorem dX3_span_0 : decode cX3_span 0 = .ok (.iload_n 2, 1) := by decide +kernel
theorem dX3_span_1 : decode cX3_span 1 = .ok (.ifCond .lt 8, 3) := by decide +kernel
theorem dX3_span_4 : decode cX3_span 4 = .ok (.iload_n 2, 1) := by decide +kernel
theorem dX3_span_5 : decode cX3_span 5 = .ok (.iconst 4, 1) := by decide +kernel
theorem dX3_span_6 : decode cX3_span 6 = .ok (.if_icmp .lt 7, 3) := by decide +kernel
theorem dX3_span_9 : decode cX3_span 9 = .ok (.sipush (-1002), 3) := by decide +kernel
theorem dX3_span_12 : decode cX3_span 12 = .ok (.ireturn, 1) := by decide +kernel
theorem dX3_span_13 : decode cX3_span 13 = .ok (.aload_n 0, 1) := by decide +kernel
theorem dX3_span_14 : decode cX3_span 14 = .ok (.invokevirtual 199, 3) := by decide +kernel
theorem dX3_span_17 : decode cX3_span 17 = .ok (.iload_n 2, 1) := by decide +kernel
theorem dX3_span_18 : decode cX3_span 18 = .ok (.ifCond .ne 11, 3) := by decide +kernel
theorem dX3_span_21 : decode cX3_span 21 = .ok (.aload_n 0, 1) := by decide +kernel
theorem dX3_span_22 : decode cX3_span 22 = .ok (.getfield 44, 3) := by decide +kernel
theorem dX3_span_25 : decode cX3_span 25 = .ok (.getfield 202, 3) := by decide +kernel
theorem dX3_span_28 : decode cX3_span 28 = .ok (.ireturn, 1) := by decide +kernel
theorem dX3_span_29 : decode cX3_span 29 = .ok (.iload_n 1, 1) := by decide +kernel
theorem dX3_span_30 : decode cX3_span 30 = .ok (.ifCond .lt 14, 3) := by decide +kernel
theorem dX3_span_33 : decode cX3_span 33 = .ok (.iload_n 1, 1) := by decide +kernel
theorem dX3_span_34 : decode cX3_span 34 = .ok (.aload_n 0, 1) := by decide +kernel
theorem dX3_span_35 : decode cX3_span 35 = .ok (.getfield 44, 3) := by decide +kernel
theorem dX3_span_38 : decode cX3_span 38 = .ok (.getfield 202, 3) := by decide +kernel
theorem dX3_span_41 : decode cX3_span 41 = .ok (.if_icmp .lt 7, 3) := by decide +kernel
theorem dX3_span_44 : decode cX3_span 44 = .ok (.sipush (-1001), 3) := by decide +kernel
theorem dX3_span_47 : decode cX3_span 47 = .ok (.ireturn, 1) := by decide +kernel
theorem dX3_span_48 : decode cX3_span 48 = .ok (.aload_n 0, 1) := by decide +kernel
theorem dX3_span_49 : decode cX3_span 49 = .ok (.getfield 44, 3) := by decide +kernel
theorem dX3_span_52 : decode cX3_span 52 = .ok (.iload_n 1, 1) := by decide +kernel
theorem dX3_span_53 : decode cX3_span 53 = .ok (.iload_n 2, 1) := by decide +kernel
theorem dX3_span_54 : decode cX3_span 54 = .ok (.invokevirtual 203, 3) := by decide +kernel
theorem dX3_span_57 : decode cX3_span 57 = .ok (.ireturn, 1) := by decide +kernel
theorem dX3_cutSpans_0 : decode cX3_cutSpans 0 = .ok (.aload_n 0, 1) := by decide +kernel
theorem dX3_cutSpans_1 : decode cX3_cutSpans 1 = .ok (.getfield 44, 3) := by decide +kernel
theorem dX3_cutSpans_4 : decode cX3_cutSpans 4 = .ok (.iconst 0, 1) := by decide +kernel
theorem dX3_cutSpans_5 : decode cX3_cutSpans 5 = .ok (.putfield 202, 3) := by decide +kernel
theorem dX3_cutSpans_8 : decode cX3_cutSpans 8 = .ok (.iconst 0, 1) := by decide +kernel
theorem dX3_cutSpans_9 : decode cX3_cutSpans 9 = .ok (.istore_n 1, 1) := by decide +kernel
theorem dX3_cutSpans_10 : decode cX3_cutSpans 10 = .ok (.iload_n 1, 1) := by decide +kernel
theorem dX3_cutSpans_11 : decode cX3_cutSpans 11 = .ok (.aload_n 0, 1) := by decide +kernel
theorem dX3_cutSpans_12 : decode cX3_cutSpans 12 = .ok (.getfield 30, 3) := by decide +kernel
theorem dX3_cutSpans_15 : decode cX3_cutSpans 15 = .ok (.getfield 67, 3) := by decide +kernel
theorem dX3_cutSpans_18 : decode cX3_cutSpans 18 = .ok (.if_icmp .ge 29, 3) := by decide +kernel
theorem dX3_cutSpans_21 : decode cX3_cutSpans 21 = .ok (.aload_n 0, 1) := by decide +kernel
theorem dX3_cutSpans_22 : decode cX3_cutSpans 22 = .ok (.iload_n 1, 1) := by decide +kernel
theorem dX3_cutSpans_23 : decode cX3_cutSpans 23 = .ok (.invokevirtual 181, 3) := by decide +kernel
theorem dX3_cutSpans_26 : decode cX3_cutSpans 26 = .ok (.istore_n 2, 1) := by decide +kernel
theorem dX3_cutSpans_27 : decode cX3_cutSpans 27 = .ok (.iload_n 2, 1) := by decide +kernel
theorem dX3_cutSpans_28 : decode cX3_cutSpans 28 = .ok (.iconst 3, 1) := by decide +kernel
theorem dX3_cutSpans_29 : decode cX3_cutSpans 29 = .ok (.if_icmp .eq 12, 3) := by decide +kernel
theorem dX3_cutSpans_32 : decode cX3_cutSpans 32 = .ok (.aload_n 0, 1) := by decide +kernel
theorem dX3_cutSpans_33 : decode cX3_cutSpans 33 = .ok (.getfield 44, 3) := by decide +kernel
theorem dX3_cutSpans_36 : decode cX3_cutSpans 36 = .ok (.iload_n 1, 1) := by decide +kernel
theorem dX3_cutSpans_37 : decode cX3_cutSpans 37 = .ok (.iload_n 2, 1) := by decide +kernel
theorem dX3_cutSpans_38 : decode cX3_cutSpans 38 = .ok (.invokevirtual 206, 3) := by decide +kernel
theorem dX3_cutSpans_41 : decode cX3_cutSpans 41 = .ok (.iinc 1 1, 3) := by decide +kernel
theorem dX3_cutSpans_44 : decode cX3_cutSpans 44 = .ok (.goto (-34), 3) := by decide +kernel
theorem dX3_cutSpans_47 : decode cX3_cutSpans 47 = .ok (.return_, 1) := by decide +kernel
theorem dX3_found_0 : decode cX3_found 0 = .ok (.iload_n 1, 1) := by decide +kernel
theorem dX3_found_1 : decode cX3_found 1 = .ok (.ifCond .lt 8, 3) := by decide +kernel
theorem dX3_found_4 : decode cX3_found 4 = .ok (.iload_n 1, 1) := by decide +kernel
theorem dX3_found_5 : decode cX3_found 5 = .ok (.iconst 2, 1) := by decide +kernel
theorem dX3_found_6 : decode cX3_found 6 = .ok (.if_icmp .lt 7, 3) := by decide +kernel
theorem dX3_found_9 : decode cX3_found 9 = .ok (.sipush (-1002), 3) := by decide +kernel
theorem dX3_found_12 : decode cX3_found 12 = .ok (.ireturn, 1) := by decide +kernel
theorem dX3_found_13 : decode cX3_found 13 = .ok (.aload_n 0, 1) := by decide +kernel
theorem dX3_found_14 : decode cX3_found 14 = .ok (.invokevirtual 209, 3) := by decide +kernel
theorem dX3_found_17 : decode cX3_found 17 = .ok (.iload_n 1, 1) := by decide +kernel
theorem dX3_found_18 : decode cX3_found 18 = .ok (.ifCond .ne 10, 3) := by decide +kernel
theorem dX3_found_21 : decode cX3_found 21 = .ok (.aload_n 0, 1) := by decide +kernel
theorem dX3_found_22 : decode cX3_found 22 = .ok (.getfield 51, 3) := by decide +kernel
theorem dX3_found_25 : decode cX3_found 25 = .ok (.goto 7, 3) := by decide +kernel
theorem dX3_found_28 : decode cX3_found 28 = .ok (.aload_n 0, 1) := by decide +kernel
theorem dX3_found_29 : decode cX3_found 29 = .ok (.getfield 54, 3) := by decide +kernel
theorem dX3_found_32 : decode cX3_found 32 = .ok (.ireturn, 1) := by decide +kernel
theorem dX3_seekPage_0 : decode cX3_seekPage 0 = .ok (.aload_n 0, 1) := by decide +kernel
theorem dX3_seekPage_1 : decode cX3_seekPage 1 = .ok (.getfield 37, 3) := by decide +kernel
theorem dX3_seekPage_4 : decode cX3_seekPage 4 = .ok (.iconst 1, 1) := by decide +kernel
theorem dX3_seekPage_5 : decode cX3_seekPage 5 = .ok (.invokevirtual 137, 3) := by decide +kernel
theorem dX3_seekPage_8 : decode cX3_seekPage 8 = .ok (.istore_n 1, 1) := by decide +kernel
theorem dX3_seekPage_9 : decode cX3_seekPage 9 = .ok (.aload_n 0, 1) := by decide +kernel
theorem dX3_seekPage_10 : decode cX3_seekPage 10 = .ok (.getfield 37, 3) := by decide +kernel
theorem dX3_seekPage_13 : decode cX3_seekPage 13 = .ok (.iconst 0, 1) := by decide +kernel
theorem dX3_seekPage_14 : decode cX3_seekPage 14 = .ok (.invokevirtual 137, 3) := by decide +kernel
theorem dX3_seekPage_17 : decode cX3_seekPage 17 = .ok (.istore_n 2, 1) := by decide +kernel
theorem dX3_seekPage_18 : decode cX3_seekPage 18 = .ok (.aload_n 0, 1) := by decide +kernel
theorem dX3_seekPage_19 : decode cX3_seekPage 19 = .ok (.iconst 0, 1) := by decide +kernel
theorem dX3_seekPage_20 : decode cX3_seekPage 20 = .ok (.putfield 51, 3) := by decide +kernel
theorem dX3_seekPage_23 : decode cX3_seekPage 23 = .ok (.aload_n 0, 1) := by decide +kernel
theorem dX3_seekPage_24 : decode cX3_seekPage 24 = .ok (.iconst (-1), 1) := by decide +kernel
theorem dX3_seekPage_25 : decode cX3_seekPage 25 = .ok (.putfield 54, 3) := by decide +kernel
theorem dX3_seekPage_28 : decode cX3_seekPage 28 = .ok (.iconst 0, 1) := by decide +kernel
theorem dX3_seekPage_29 : decode cX3_seekPage 29 = .ok (.istore_n 3, 1) := by decide +kernel
theorem dX3_seekPage_30 : decode cX3_seekPage 30 = .ok (.iload_n 3, 1) := by decide +kernel
theorem dX3_seekPage_31 : decode cX3_seekPage 31 = .ok (.iload_n 2, 1) := by decide +kernel
theorem dX3_seekPage_32 : decode cX3_seekPage 32 = .ok (.if_icmp .gt 64, 3) := by decide +kernel
theorem dX3_seekPage_35 : decode cX3_seekPage 35 = .ok (.iload_n 3, 1) := by decide +kernel
theorem dX3_seekPage_36 : decode cX3_seekPage 36 = .ok (.iload_n 2, 1) := by decide +kernel
theorem dX3_seekPage_37 : decode cX3_seekPage 37 = .ok (.iconst (-1), 1) := by decide +kernel
theorem dX3_seekPage_38 : decode cX3_seekPage 38 = .ok (.ixor, 1) := by decide +kernel
theorem dX3_seekPage_39 : decode cX3_seekPage 39 = .ok (.iand, 1) := by decide +kernel
theorem dX3_seekPage_40 : decode cX3_seekPage 40 = .ok (.ifCond .ne 50, 3) := by decide +kernel
theorem dX3_seekPage_43 : decode cX3_seekPage 43 = .ok (.aload_n 0, 1) := by decide +kernel
theorem dX3_seekPage_44 : decode cX3_seekPage 44 = .ok (.iload_n 1, 1) := by decide +kernel
theorem dX3_seekPage_45 : decode cX3_seekPage 45 = .ok (.iload_n 3, 1) := by decide +kernel
theorem dX3_seekPage_46 : decode cX3_seekPage 46 = .ok (.ior, 1) := by decide +kernel
theorem dX3_seekPage_47 : decode cX3_seekPage 47 = .ok (.invokevirtual 212, 3) := by decide +kernel
theorem dX3_seekPage_50 : decode cX3_seekPage 50 = .ok (.ifCond .eq 40, 3) := by decide +kernel
theorem dX3_seekPage_53 : decode cX3_seekPage 53 = .ok (.aload_n 0, 1) := by decide +kernel
theorem dX3_seekPage_54 : decode cX3_seekPage 54 = .ok (.dup, 1) := by decide +kernel
theorem dX3_seekPage_55 : decode cX3_seekPage 55 = .ok (.getfield 51, 3) := by decide +kernel
theorem dX3_seekPage_58 : decode cX3_seekPage 58 = .ok (.iconst 1, 1) := by decide +kernel
theorem dX3_seekPage_59 : decode cX3_seekPage 59 = .ok (.iadd, 1) := by decide +kernel
theorem dX3_seekPage_60 : decode cX3_seekPage 60 = .ok (.putfield 51, 3) := by decide +kernel
theorem dX3_seekPage_63 : decode cX3_seekPage 63 = .ok (.aload_n 0, 1) := by decide +kernel
theorem dX3_seekPage_64 : decode cX3_seekPage 64 = .ok (.getfield 54, 3) := by decide +kernel
theorem dX3_seekPage_67 : decode cX3_seekPage 67 = .ok (.iconst (-1), 1) := by decide +kernel
theorem dX3_seekPage_68 : decode cX3_seekPage 68 = .ok (.if_icmp .eq 17, 3) := by decide +kernel
theorem dX3_seekPage_71 : decode cX3_seekPage 71 = .ok (.iload_n 3, 1) := by decide +kernel
theorem dX3_seekPage_72 : decode cX3_seekPage 72 = .ok (.invokestatic 215, 3) := by decide +kernel
theorem dX3_seekPage_75 : decode cX3_seekPage 75 = .ok (.aload_n 0, 1) := by decide +kernel
theorem dX3_seekPage_76 : decode cX3_seekPage 76 = .ok (.getfield 54, 3) := by decide +kernel
theorem dX3_seekPage_79 : decode cX3_seekPage 79 = .ok (.invokestatic 215, 3) := by decide +kernel
theorem dX3_seekPage_82 : decode cX3_seekPage 82 = .ok (.if_icmp .ge 8, 3) := by decide +kernel
theorem dX3_seekPage_85 : decode cX3_seekPage 85 = .ok (.aload_n 0, 1) := by decide +kernel
theorem dX3_seekPage_86 : decode cX3_seekPage 86 = .ok (.iload_n 3, 1) := by decide +kernel
theorem dX3_seekPage_87 : decode cX3_seekPage 87 = .ok (.putfield 54, 3) := by decide +kernel
theorem dX3_seekPage_90 : decode cX3_seekPage 90 = .ok (.iinc 3 1, 3) := by decide +kernel
theorem dX3_seekPage_93 : decode cX3_seekPage 93 = .ok (.goto (-63), 3) := by decide +kernel
theorem dX3_seekPage_96 : decode cX3_seekPage 96 = .ok (.return_, 1) := by decide +kernel
theorem dX3_count_0 : decode cX3_count 0 = .ok (.iload_n 1, 1) := by decide +kernel
theorem dX3_count_1 : decode cX3_count 1 = .ok (.tableswitch 138 0 8 #[51, 56, 61, 69, 77, 89, 101, 128, 133], 51) := by decide +kernel
theorem dX3_count_52 : decode cX3_count 52 = .ok (.aload_n 0, 1) := by decide +kernel
theorem dX3_count_53 : decode cX3_count 53 = .ok (.getfield 13, 3) := by decide +kernel
theorem dX3_count_56 : decode cX3_count 56 = .ok (.ireturn, 1) := by decide +kernel
theorem dX3_count_57 : decode cX3_count 57 = .ok (.aload_n 0, 1) := by decide +kernel
theorem dX3_count_58 : decode cX3_count 58 = .ok (.getfield 20, 3) := by decide +kernel
theorem dX3_count_61 : decode cX3_count 61 = .ok (.ireturn, 1) := by decide +kernel
theorem dX3_count_62 : decode cX3_count 62 = .ok (.aload_n 0, 1) := by decide +kernel
theorem dX3_count_63 : decode cX3_count 63 = .ok (.getfield 30, 3) := by decide +kernel
theorem dX3_count_66 : decode cX3_count 66 = .ok (.getfield 67, 3) := by decide +kernel
theorem dX3_count_69 : decode cX3_count 69 = .ok (.ireturn, 1) := by decide +kernel
theorem dX3_count_70 : decode cX3_count 70 = .ok (.aload_n 0, 1) := by decide +kernel
theorem dX3_count_71 : decode cX3_count 71 = .ok (.getfield 37, 3) := by decide +kernel
theorem dX3_count_74 : decode cX3_count 74 = .ok (.getfield 70, 3) := by decide +kernel
theorem dX3_count_77 : decode cX3_count 77 = .ok (.ireturn, 1) := by decide +kernel
theorem dX3_count_78 : decode cX3_count 78 = .ok (.aload_n 0, 1) := by decide +kernel
theorem dX3_count_79 : decode cX3_count 79 = .ok (.getfield 37, 3) := by decide +kernel
theorem dX3_count_82 : decode cX3_count 82 = .ok (.iconst 0, 1) := by decide +kernel
theorem dX3_count_83 : decode cX3_count 83 = .ok (.invokevirtual 137, 3) := by decide +kernel
theorem dX3_count_86 : decode cX3_count 86 = .ok (.invokestatic 215, 3) := by decide +kernel
theorem dX3_count_89 : decode cX3_count 89 = .ok (.ireturn, 1) := by decide +kernel
theorem dX3_count_90 : decode cX3_count 90 = .ok (.aload_n 0, 1) := by decide +kernel
theorem dX3_count_91 : decode cX3_count 91 = .ok (.getfield 37, 3) := by decide +kernel
theorem dX3_count_94 : decode cX3_count 94 = .ok (.iconst 1, 1) := by decide +kernel
theorem dX3_count_95 : decode cX3_count 95 = .ok (.invokevirtual 137, 3) := by decide +kernel
theorem dX3_count_98 : decode cX3_count 98 = .ok (.invokestatic 215, 3) := by decide +kernel
theorem dX3_count_101 : decode cX3_count 101 = .ok (.ireturn, 1) := by decide +kernel
theorem dX3_count_102 : decode cX3_count 102 = .ok (.aload_n 0, 1) := by decide +kernel
theorem dX3_count_103 : decode cX3_count 103 = .ok (.getfield 30, 3) := by decide +kernel
theorem dX3_count_106 : decode cX3_count 106 = .ok (.aload_n 0, 1) := by decide +kernel
theorem dX3_count_107 : decode cX3_count 107 = .ok (.getfield 37, 3) := by decide +kernel
theorem dX3_count_110 : decode cX3_count 110 = .ok (.iconst 0, 1) := by decide +kernel
theorem dX3_count_111 : decode cX3_count 111 = .ok (.invokevirtual 137, 3) := by decide +kernel
theorem dX3_count_114 : decode cX3_count 114 = .ok (.invokevirtual 219, 3) := by decide +kernel
theorem dX3_count_117 : decode cX3_count 117 = .ok (.aload_n 0, 1) := by decide +kernel
theorem dX3_count_118 : decode cX3_count 118 = .ok (.getfield 37, 3) := by decide +kernel
theorem dX3_count_121 : decode cX3_count 121 = .ok (.invokevirtual 222, 3) := by decide +kernel
theorem dX3_count_124 : decode cX3_count 124 = .ok (.lor, 1) := by decide +kernel
theorem dX3_count_125 : decode cX3_count 125 = .ok (.invokestatic 157, 3) := by decide +kernel
theorem dX3_count_128 : decode cX3_count 128 = .ok (.ireturn, 1) := by decide +kernel
theorem dX3_count_129 : decode cX3_count 129 = .ok (.aload_n 0, 1) := by decide +kernel
theorem dX3_count_130 : decode cX3_count 130 = .ok (.getfield 57, 3) := by decide +kernel
theorem dX3_count_133 : decode cX3_count 133 = .ok (.ireturn, 1) := by decide +kernel
theorem dX3_count_134 : decode cX3_count 134 = .ok (.aload_n 0, 1) := by decide +kernel
theorem dX3_count_135 : decode cX3_count 135 = .ok (.getfield 60, 3) := by decide +kernel
theorem dX3_count_138 : decode cX3_count 138 = .ok (.ireturn, 1) := by decide +kernel
theorem dX3_count_139 : decode cX3_count 139 = .ok (.sipush (-1002), 3) := by decide +kernel
theorem dX3_count_142 : decode cX3_count 142 = .ok (.ireturn, 1) := by decide +kernel
theorem dX3_digest_0 : decode cX3_digest 0 = .ok (.ldc2_w 226, 3) := by decide +kernel
theorem dX3_digest_3 : decode cX3_digest 3 = .ok (.lstore_n 1, 1) := by decide +kernel
theorem dX3_digest_4 : decode cX3_digest 4 = .ok (.iconst 0, 1) := by decide +kernel
theorem dX3_digest_5 : decode cX3_digest 5 = .ok (.istore_n 3, 1) := by decide +kernel
theorem dX3_digest_6 : decode cX3_digest 6 = .ok (.iload_n 3, 1) := by decide +kernel
theorem dX3_digest_7 : decode cX3_digest 7 = .ok (.bipush 6, 2) := by decide +kernel
theorem dX3_digest_9 : decode cX3_digest 9 = .ok (.if_icmp .ge 16, 3) := by decide +kernel
theorem dX3_digest_12 : decode cX3_digest 12 = .ok (.aload_n 0, 1) := by decide +kernel
theorem dX3_digest_13 : decode cX3_digest 13 = .ok (.lload_n 1, 1) := by decide +kernel
theorem dX3_digest_14 : decode cX3_digest 14 = .ok (.iload_n 3, 1) := by decide +kernel
theorem dX3_digest_15 : decode cX3_digest 15 = .ok (.invokevirtual 228, 3) := by decide +kernel
theorem dX3_digest_18 : decode cX3_digest 18 = .ok (.lstore_n 1, 1) := by decide +kernel
theorem dX3_digest_19 : decode cX3_digest 19 = .ok (.iinc 3 1, 3) := by decide +kernel
theorem dX3_digest_22 : decode cX3_digest 22 = .ok (.goto (-16), 3) := by decide +kernel
theorem dX3_digest_25 : decode cX3_digest 25 = .ok (.aload_n 0, 1) := by decide +kernel
theorem dX3_digest_26 : decode cX3_digest 26 = .ok (.lload_n 1, 1) := by decide +kernel
theorem dX3_digest_27 : decode cX3_digest 27 = .ok (.invokevirtual 232, 3) := by decide +kernel
theorem dX3_digest_30 : decode cX3_digest 30 = .ok (.lstore_n 1, 1) := by decide +kernel
theorem dX3_digest_31 : decode cX3_digest 31 = .ok (.aload_n 0, 1) := by decide +kernel
theorem dX3_digest_32 : decode cX3_digest 32 = .ok (.lload_n 1, 1) := by decide +kernel
theorem dX3_digest_33 : decode cX3_digest 33 = .ok (.invokevirtual 236, 3) := by decide +kernel
theorem dX3_digest_36 : decode cX3_digest 36 = .ok (.lstore_n 1, 1) := by decide +kernel
theorem dX3_digest_37 : decode cX3_digest 37 = .ok (.aload_n 0, 1) := by decide +kernel
theorem dX3_digest_38 : decode cX3_digest 38 = .ok (.lload_n 1, 1) := by decide +kernel
theorem dX3_digest_39 : decode cX3_digest 39 = .ok (.invokevirtual 239, 3) := by decide +kernel
theorem dX3_digest_42 : decode cX3_digest 42 = .ok (.lstore_n 1, 1) := by decide +kernel
theorem dX3_digest_43 : decode cX3_digest 43 = .ok (.aload_n 0, 1) := by decide +kernel
theorem dX3_digest_44 : decode cX3_digest 44 = .ok (.invokevirtual 209, 3) := by decide +kernel
theorem dX3_digest_47 : decode cX3_digest 47 = .ok (.lload_n 1, 1) := by decide +kernel
theorem dX3_digest_48 : decode cX3_digest 48 = .ok (.aload_n 0, 1) := by decide +kernel
theorem dX3_digest_49 : decode cX3_digest 49 = .ok (.getfield 51, 3) := by decide +kernel
theorem dX3_digest_52 : decode cX3_digest 52 = .ok (.invokestatic 242, 3) := by decide +kernel
theorem dX3_digest_55 : decode cX3_digest 55 = .ok (.lstore_n 1, 1) := by decide +kernel
theorem dX3_digest_56 : decode cX3_digest 56 = .ok (.lload_n 1, 1) := by decide +kernel
theorem dX3_digest_57 : decode cX3_digest 57 = .ok (.aload_n 0, 1) := by decide +kernel
theorem dX3_digest_58 : decode cX3_digest 58 = .ok (.getfield 54, 3) := by decide +kernel
theorem dX3_digest_61 : decode cX3_digest 61 = .ok (.invokestatic 242, 3) := by decide +kernel
theorem dX3_digest_64 : decode cX3_digest 64 = .ok (.lstore_n 1, 1) := by decide +kernel
theorem dX3_digest_65 : decode cX3_digest 65 = .ok (.iconst 0, 1) := by decide +kernel
theorem dX3_digest_66 : decode cX3_digest 66 = .ok (.istore_n 3, 1) := by decide +kernel
theorem dX3_digest_67 : decode cX3_digest 67 = .ok (.iload_n 3, 1) := by decide +kernel
theorem dX3_digest_68 : decode cX3_digest 68 = .ok (.aload_n 0, 1) := by decide +kernel
theorem dX3_digest_69 : decode cX3_digest 69 = .ok (.getfield 13, 3) := by decide +kernel
theorem dX3_digest_72 : decode cX3_digest 72 = .ok (.if_icmp .ge 20, 3) := by decide +kernel
theorem dX3_digest_75 : decode cX3_digest 75 = .ok (.lload_n 1, 1) := by decide +kernel
theorem dX3_digest_76 : decode cX3_digest 76 = .ok (.aload_n 0, 1) := by decide +kernel
theorem dX3_digest_77 : decode cX3_digest 77 = .ok (.getfield 9, 3) := by decide +kernel
theorem dX3_digest_80 : decode cX3_digest 80 = .ok (.iload_n 3, 1) := by decide +kernel
theorem dX3_digest_81 : decode cX3_digest 81 = .ok (.iaload, 1) := by decide +kernel
theorem dX3_digest_82 : decode cX3_digest 82 = .ok (.invokestatic 242, 3) := by decide +kernel
theorem dX3_digest_85 : decode cX3_digest 85 = .ok (.lstore_n 1, 1) := by decide +kernel
theorem dX3_digest_86 : decode cX3_digest 86 = .ok (.iinc 3 1, 3) := by decide +kernel
theorem dX3_digest_89 : decode cX3_digest 89 = .ok (.goto (-22), 3) := by decide +kernel
theorem dX3_digest_92 : decode cX3_digest 92 = .ok (.iconst 0, 1) := by decide +kernel
theorem dX3_digest_93 : decode cX3_digest 93 = .ok (.istore_n 3, 1) := by decide +kernel
theorem dX3_digest_94 : decode cX3_digest 94 = .ok (.iload_n 3, 1) := by decide +kernel
theorem dX3_digest_95 : decode cX3_digest 95 = .ok (.bipush 9, 2) := by decide +kernel
theorem dX3_digest_97 : decode cX3_digest 97 = .ok (.if_icmp .ge 19, 3) := by decide +kernel
theorem dX3_digest_100 : decode cX3_digest 100 = .ok (.lload_n 1, 1) := by decide +kernel
theorem dX3_digest_101 : decode cX3_digest 101 = .ok (.aload_n 0, 1) := by decide +kernel
theorem dX3_digest_102 : decode cX3_digest 102 = .ok (.iload_n 3, 1) := by decide +kernel
theorem dX3_digest_103 : decode cX3_digest 103 = .ok (.invokevirtual 245, 3) := by decide +kernel
theorem dX3_digest_106 : decode cX3_digest 106 = .ok (.invokestatic 242, 3) := by decide +kernel
theorem dX3_digest_109 : decode cX3_digest 109 = .ok (.lstore_n 1, 1) := by decide +kernel
theorem dX3_digest_110 : decode cX3_digest 110 = .ok (.iinc 3 1, 3) := by decide +kernel
theorem dX3_digest_113 : decode cX3_digest 113 = .ok (.goto (-19), 3) := by decide +kernel
theorem dX3_digest_116 : decode cX3_digest 116 = .ok (.lload_n 1, 1) := by decide +kernel
theorem dX3_digest_117 : decode cX3_digest 117 = .ok (.lreturn, 1) := by decide +kernel
theorem dX3_with_0 : decode cX3_with 0 = .ok (.ldc2_w 248, 3) := by decide +kernel
theorem dX3_with_3 : decode cX3_with 3 = .ok (.lload_n 0, 1) := by decide +kernel
theorem dX3_with_4 : decode cX3_with 4 = .ok (.lmul, 1) := by decide +kernel
theorem dX3_with_5 : decode cX3_with 5 = .ok (.iload_n 2, 1) := by decide +kernel
theorem dX3_with_6 : decode cX3_with 6 = .ok (.i2l, 1) := by decide +kernel
theorem dX3_with_7 : decode cX3_with 7 = .ok (.ladd, 1) := by decide +kernel
theorem dX3_with_8 : decode cX3_with 8 = .ok (.lreturn, 1) := by decide +kernel
theorem dX3_withView_0 : decode cX3_withView 0 = .ok (.aload_n 0, 1) := by decide +kernel
theorem dX3_withView_1 : decode cX3_withView 1 = .ok (.aload_n 0, 1) := by decide +kernel
theorem dX3_withView_2 : decode cX3_withView 2 = .ok (.iload_n 3, 1) := by decide +kernel
theorem dX3_withView_3 : decode cX3_withView 3 = .ok (.invokevirtual 93, 3) := by decide +kernel
theorem dX3_withView_6 : decode cX3_withView 6 = .ok (.invokevirtual 97, 3) := by decide +kernel
theorem dX3_withView_9 : decode cX3_withView 9 = .ok (.istore 4, 2) := by decide +kernel
theorem dX3_withView_11 : decode cX3_withView 11 = .ok (.lload_n 1, 1) := by decide +kernel
theorem dX3_withView_12 : decode cX3_withView 12 = .ok (.iload 4, 2) := by decide +kernel
theorem dX3_withView_14 : decode cX3_withView 14 = .ok (.invokestatic 242, 3) := by decide +kernel
theorem dX3_withView_17 : decode cX3_withView 17 = .ok (.lstore 5, 2) := by decide +kernel
theorem dX3_withView_19 : decode cX3_withView 19 = .ok (.iconst 0, 1) := by decide +kernel
theorem dX3_withView_20 : decode cX3_withView 20 = .ok (.istore 7, 2) := by decide +kernel
theorem dX3_withView_22 : decode cX3_withView 22 = .ok (.iload 7, 2) := by decide +kernel
theorem dX3_withView_24 : decode cX3_withView 24 = .ok (.iload 4, 2) := by decide +kernel
theorem dX3_withView_26 : decode cX3_withView 26 = .ok (.if_icmp .ge 45, 3) := by decide +kernel
theorem dX3_withView_29 : decode cX3_withView 29 = .ok (.iconst 0, 1) := by decide +kernel
theorem dX3_withView_30 : decode cX3_withView 30 = .ok (.istore 8, 2) := by decide +kernel
theorem dX3_withView_32 : decode cX3_withView 32 = .ok (.iload 8, 2) := by decide +kernel
theorem dX3_withView_34 : decode cX3_withView 34 = .ok (.bipush 6, 2) := by decide +kernel
theorem dX3_withView_36 : decode cX3_withView 36 = .ok (.if_icmp .ge 29, 3) := by decide +kernel
theorem dX3_withView_39 : decode cX3_withView 39 = .ok (.lload 5, 2) := by decide +kernel
theorem dX3_withView_41 : decode cX3_withView 41 = .ok (.aload_n 0, 1) := by decide +kernel
theorem dX3_withView_42 : decode cX3_withView 42 = .ok (.aload_n 0, 1) := by decide +kernel
theorem dX3_withView_43 : decode cX3_withView 43 = .ok (.getfield 48, 3) := by decide +kernel
theorem dX3_withView_46 : decode cX3_withView 46 = .ok (.iload 7, 2) := by decide +kernel
theorem dX3_withView_48 : decode cX3_withView 48 = .ok (.iaload, 1) := by decide +kernel
theorem dX3_withView_49 : decode cX3_withView 49 = .ok (.iload 8, 2) := by decide +kernel
theorem dX3_withView_51 : decode cX3_withView 51 = .ok (.invokevirtual 166, 3) := by decide +kernel
theorem dX3_withView_54 : decode cX3_withView 54 = .ok (.invokestatic 242, 3) := by decide +kernel
theorem dX3_withView_57 : decode cX3_withView 57 = .ok (.lstore 5, 2) := by decide +kernel
theorem dX3_withView_59 : decode cX3_withView 59 = .ok (.iinc 8 1, 3) := by decide +kernel
theorem dX3_withView_62 : decode cX3_withView 62 = .ok (.goto (-30), 3) := by decide +kernel
theorem dX3_withView_65 : decode cX3_withView 65 = .ok (.iinc 7 1, 3) := by decide +kernel
theorem dX3_withView_68 : decode cX3_withView 68 = .ok (.goto (-46), 3) := by decide +kernel
theorem dX3_withView_71 : decode cX3_withView 71 = .ok (.lload 5, 2) := by decide +kernel
theorem dX3_withView_73 : decode cX3_withView 73 = .ok (.lreturn, 1) := by decide +kernel
theorem dX3_withPlaces_0 : decode cX3_withPlaces 0 = .ok (.lload_n 1, 1) := by decide +kernel
theorem dX3_withPlaces_1 : decode cX3_withPlaces 1 = .ok (.lstore_n 3, 1) := by decide +kernel
theorem dX3_withPlaces_2 : decode cX3_withPlaces 2 = .ok (.iconst 0, 1) := by decide +kernel
theorem dX3_withPlaces_3 : decode cX3_withPlaces 3 = .ok (.istore 5, 2) := by decide +kernel
theorem dX3_withPlaces_5 : decode cX3_withPlaces 5 = .ok (.iload 5, 2) := by decide +kernel
theorem dX3_withPlaces_7 : decode cX3_withPlaces 7 = .ok (.aload_n 0, 1) := by decide +kernel
theorem dX3_withPlaces_8 : decode cX3_withPlaces 8 = .ok (.getfield 30, 3) := by decide +kernel
theorem dX3_withPlaces_11 : decode cX3_withPlaces 11 = .ok (.getfield 67, 3) := by decide +kernel
theorem dX3_withPlaces_14 : decode cX3_withPlaces 14 = .ok (.if_icmp .ge 37, 3) := by decide +kernel
theorem dX3_withPlaces_17 : decode cX3_withPlaces 17 = .ok (.iconst 0, 1) := by decide +kernel
theorem dX3_withPlaces_18 : decode cX3_withPlaces 18 = .ok (.istore 6, 2) := by decide +kernel
theorem dX3_withPlaces_20 : decode cX3_withPlaces 20 = .ok (.iload 6, 2) := by decide +kernel
theorem dX3_withPlaces_22 : decode cX3_withPlaces 22 = .ok (.iconst 4, 1) := by decide +kernel
theorem dX3_withPlaces_23 : decode cX3_withPlaces 23 = .ok (.if_icmp .ge 22, 3) := by decide +kernel
theorem dX3_withPlaces_26 : decode cX3_withPlaces 26 = .ok (.lload_n 3, 1) := by decide +kernel
theorem dX3_withPlaces_27 : decode cX3_withPlaces 27 = .ok (.aload_n 0, 1) := by decide +kernel
theorem dX3_withPlaces_28 : decode cX3_withPlaces 28 = .ok (.iload 5, 2) := by decide +kernel
theorem dX3_withPlaces_30 : decode cX3_withPlaces 30 = .ok (.iload 6, 2) := by decide +kernel
theorem dX3_withPlaces_32 : decode cX3_withPlaces 32 = .ok (.invokevirtual 175, 3) := by decide +kernel
theorem dX3_withPlaces_35 : decode cX3_withPlaces 35 = .ok (.invokestatic 242, 3) := by decide +kernel
theorem dX3_withPlaces_38 : decode cX3_withPlaces 38 = .ok (.lstore_n 3, 1) := by decide +kernel
theorem dX3_withPlaces_39 : decode cX3_withPlaces 39 = .ok (.iinc 6 1, 3) := by decide +kernel
theorem dX3_withPlaces_42 : decode cX3_withPlaces 42 = .ok (.goto (-22), 3) := by decide +kernel
theorem dX3_withPlaces_45 : decode cX3_withPlaces 45 = .ok (.iinc 5 1, 3) := by decide +kernel
theorem dX3_withPlaces_48 : decode cX3_withPlaces 48 = .ok (.goto (-43), 3) := by decide +kernel
theorem dX3_withPlaces_51 : decode cX3_withPlaces 51 = .ok (.lload_n 3, 1) := by decide +kernel
theorem dX3_withPlaces_52 : decode cX3_withPlaces 52 = .ok (.lreturn, 1) := by decide +kernel
theorem dX3_withChanges_0 : decode cX3_withChanges 0 = .ok (.lload_n 1, 1) := by decide +kernel
theorem dX3_withChanges_1 : decode cX3_withChanges 1 = .ok (.lstore_n 3, 1) := by decide +kernel
theorem dX3_withChanges_2 : decode cX3_withChanges 2 = .ok (.iconst 0, 1) := by decide +kernel
theorem dX3_withChanges_3 : decode cX3_withChanges 3 = .ok (.istore 5, 2) := by decide +kernel
theorem dX3_withChanges_5 : decode cX3_withChanges 5 = .ok (.iload 5, 2) := by decide +kernel
theorem dX3_withChanges_7 : decode cX3_withChanges 7 = .ok (.aload_n 0, 1) := by decide +kernel
theorem dX3_withChanges_8 : decode cX3_withChanges 8 = .ok (.getfield 37, 3) := by decide +kernel
theorem dX3_withChanges_11 : decode cX3_withChanges 11 = .ok (.getfield 70, 3) := by decide +kernel
theorem dX3_withChanges_14 : decode cX3_withChanges 14 = .ok (.if_icmp .ge 38, 3) := by decide +kernel
theorem dX3_withChanges_17 : decode cX3_withChanges 17 = .ok (.iconst 0, 1) := by decide +kernel
theorem dX3_withChanges_18 : decode cX3_withChanges 18 = .ok (.istore 6, 2) := by decide +kernel
theorem dX3_withChanges_20 : decode cX3_withChanges 20 = .ok (.iload 6, 2) := by decide +kernel
theorem dX3_withChanges_22 : decode cX3_withChanges 22 = .ok (.bipush 7, 2) := by decide +kernel
theorem dX3_withChanges_24 : decode cX3_withChanges 24 = .ok (.if_icmp .ge 22, 3) := by decide +kernel
theorem dX3_withChanges_27 : decode cX3_withChanges 27 = .ok (.lload_n 3, 1) := by decide +kernel
theorem dX3_withChanges_28 : decode cX3_withChanges 28 = .ok (.aload_n 0, 1) := by decide +kernel
theorem dX3_withChanges_29 : decode cX3_withChanges 29 = .ok (.iload 5, 2) := by decide +kernel
theorem dX3_withChanges_31 : decode cX3_withChanges 31 = .ok (.iload 6, 2) := by decide +kernel
theorem dX3_withChanges_33 : decode cX3_withChanges 33 = .ok (.invokevirtual 184, 3) := by decide +kernel
theorem dX3_withChanges_36 : decode cX3_withChanges 36 = .ok (.invokestatic 242, 3) := by decide +kernel
theorem dX3_withChanges_39 : decode cX3_withChanges 39 = .ok (.lstore_n 3, 1) := by decide +kernel
theorem dX3_withChanges_40 : decode cX3_withChanges 40 = .ok (.iinc 6 1, 3) := by decide +kernel
theorem dX3_withChanges_43 : decode cX3_withChanges 43 = .ok (.goto (-23), 3) := by decide +kernel
theorem dX3_withChanges_46 : decode cX3_withChanges 46 = .ok (.iinc 5 1, 3) := by decide +kernel
theorem dX3_withChanges_49 : decode cX3_withChanges 49 = .ok (.goto (-44), 3) := by decide +kernel
theorem dX3_withChanges_52 : decode cX3_withChanges 52 = .ok (.lload_n 3, 1) := by decide +kernel
theorem dX3_withChanges_53 : decode cX3_withChanges 53 = .ok (.lreturn, 1) := by decide +kernel
theorem dX3_withSpans_0 : decode cX3_withSpans 0 = .ok (.aload_n 0, 1) := by decide +kernel
theorem dX3_withSpans_1 : decode cX3_withSpans 1 = .ok (.invokevirtual 199, 3) := by decide +kernel
theorem dX3_withSpans_4 : decode cX3_withSpans 4 = .ok (.lload_n 1, 1) := by decide +kernel
theorem dX3_withSpans_5 : decode cX3_withSpans 5 = .ok (.aload_n 0, 1) := by decide +kernel
theorem dX3_withSpans_6 : decode cX3_withSpans 6 = .ok (.getfield 44, 3) := by decide +kernel
theorem dX3_withSpans_9 : decode cX3_withSpans 9 = .ok (.getfield 202, 3) := by decide +kernel
theorem dX3_withSpans_12 : decode cX3_withSpans 12 = .ok (.invokestatic 242, 3) := by decide +kernel
theorem dX3_withSpans_15 : decode cX3_withSpans 15 = .ok (.lstore_n 3, 1) := by decide +kernel
theorem dX3_withSpans_16 : decode cX3_withSpans 16 = .ok (.iconst 0, 1) := by decide +kernel
theorem dX3_withSpans_17 : decode cX3_withSpans 17 = .ok (.istore 5, 2) := by decide +kernel
theorem dX3_withSpans_19 : decode cX3_withSpans 19 = .ok (.iload 5, 2) := by decide +kernel
theorem dX3_withSpans_21 : decode cX3_withSpans 21 = .ok (.aload_n 0, 1) := by decide +kernel
theorem dX3_withSpans_22 : decode cX3_withSpans 22 = .ok (.getfield 44, 3) := by decide +kernel
theorem dX3_withSpans_25 : decode cX3_withSpans 25 = .ok (.getfield 202, 3) := by decide +kernel
theorem dX3_withSpans_28 : decode cX3_withSpans 28 = .ok (.if_icmp .ge 40, 3) := by decide +kernel
theorem dX3_withSpans_31 : decode cX3_withSpans 31 = .ok (.iconst 1, 1) := by decide +kernel
theorem dX3_withSpans_32 : decode cX3_withSpans 32 = .ok (.istore 6, 2) := by decide +kernel
theorem dX3_withSpans_34 : decode cX3_withSpans 34 = .ok (.iload 6, 2) := by decide +kernel
theorem dX3_withSpans_36 : decode cX3_withSpans 36 = .ok (.iconst 4, 1) := by decide +kernel
theorem dX3_withSpans_37 : decode cX3_withSpans 37 = .ok (.if_icmp .ge 25, 3) := by decide +kernel
theorem dX3_withSpans_40 : decode cX3_withSpans 40 = .ok (.lload_n 3, 1) := by decide +kernel
theorem dX3_withSpans_41 : decode cX3_withSpans 41 = .ok (.aload_n 0, 1) := by decide +kernel
theorem dX3_withSpans_42 : decode cX3_withSpans 42 = .ok (.getfield 44, 3) := by decide +kernel
theorem dX3_withSpans_45 : decode cX3_withSpans 45 = .ok (.iload 5, 2) := by decide +kernel
theorem dX3_withSpans_47 : decode cX3_withSpans 47 = .ok (.iload 6, 2) := by decide +kernel
theorem dX3_withSpans_49 : decode cX3_withSpans 49 = .ok (.invokevirtual 203, 3) := by decide +kernel
theorem dX3_withSpans_52 : decode cX3_withSpans 52 = .ok (.invokestatic 242, 3) := by decide +kernel
theorem dX3_withSpans_55 : decode cX3_withSpans 55 = .ok (.lstore_n 3, 1) := by decide +kernel
theorem dX3_withSpans_56 : decode cX3_withSpans 56 = .ok (.iinc 6 1, 3) := by decide +kernel
theorem dX3_withSpans_59 : decode cX3_withSpans 59 = .ok (.goto (-25), 3) := by decide +kernel
theorem dX3_withSpans_62 : decode cX3_withSpans 62 = .ok (.iinc 5 1, 3) := by decide +kernel
theorem dX3_withSpans_65 : decode cX3_withSpans 65 = .ok (.goto (-46), 3) := by decide +kernel
theorem dX3_withSpans_68 : decode cX3_withSpans 68 = .ok (.lload_n 3, 1) := by decide +kernel
theorem dX3_withSpans_69 : decode cX3_withSpans 69 = .ok (.lreturn, 1) := by decide +kernel
theorem dX4_init_0 : decode cX4_init 0 = .ok (.aload_n 0, 1) := by decide +kernel
theorem dX4_init_1 : decode cX4_init 1 = .ok (.invokespecial 1, 3) := by decide +kernel
theorem dX4_init_4 : decode cX4_init 4 = .ok (.aload_n 0, 1) := by decide +kernel
theorem dX4_init_5 : decode cX4_init 5 = .ok (.bipush 40, 2) := by decide +kernel
theorem dX4_init_7 : decode cX4_init 7 = .ok (.newarray .int, 2) := by decide +kernel
theorem dX4_init_9 : decode cX4_init 9 = .ok (.putfield 7, 3) := by decide +kernel
theorem dX4_init_12 : decode cX4_init 12 = .ok (.aload_n 0, 1) := by decide +kernel
theorem dX4_init_13 : decode cX4_init 13 = .ok (.bipush 64, 2) := by decide +kernel
theorem dX4_init_15 : decode cX4_init 15 = .ok (.newarray .int, 2) := by decide +kernel
theorem dX4_init_17 : decode cX4_init 17 = .ok (.putfield 13, 3) := by decide +kernel
theorem dX4_init_20 : decode cX4_init 20 = .ok (.aload_n 0, 1) := by decide +kernel
theorem dX4_init_21 : decode cX4_init 21 = .ok (.bipush 64, 2) := by decide +kernel
theorem dX4_init_23 : decode cX4_init 23 = .ok (.newarray .int, 2) := by decide +kernel
theorem dX4_init_25 : decode cX4_init 25 = .ok (.putfield 16, 3) := by decide +kernel
theorem dX4_init_28 : decode cX4_init 28 = .ok (.aload_n 0, 1) := by decide +kernel
theorem dX4_init_29 : decode cX4_init 29 = .ok (.bipush 64, 2) := by decide +kernel
theorem dX4_init_31 : decode cX4_init 31 = .ok (.newarray .int, 2) := by decide +kernel
theorem dX4_init_33 : decode cX4_init 33 = .ok (.putfield 19, 3) := by decide +kernel
theorem dX4_init_36 : decode cX4_init 36 = .ok (.aload_n 0, 1) := by decide +kernel
theorem dX4_init_37 : decode cX4_init 37 = .ok (.bipush 64, 2) := by decide +kernel
theorem dX4_init_39 : decode cX4_init 39 = .ok (.newarray .int, 2) := by decide +kernel
theorem dX4_init_41 : decode cX4_init 41 = .ok (.putfield 22, 3) := by decide +kernel
theorem dX4_init_44 : decode cX4_init 44 = .ok (.aload_n 0, 1) := by decide +kernel
theorem dX4_init_45 : decode cX4_init 45 = .ok (.bipush 12, 2) := by decide +kernel
theorem dX4_init_47 : decode cX4_init 47 = .ok (.newarray .int, 2) := by decide +kernel
theorem dX4_init_49 : decode cX4_init 49 = .ok (.putfield 25, 3) := by decide +kernel
theorem dX4_init_52 : decode cX4_init 52 = .ok (.aload_n 0, 1) := by decide +kernel
theorem dX4_init_53 : decode cX4_init 53 = .ok (.bipush 12, 2) := by decide +kernel
theorem dX4_init_55 : decode cX4_init 55 = .ok (.newarray .int, 2) := by decide +kernel
theorem dX4_init_57 : decode cX4_init 57 = .ok (.putfield 28, 3) := by decide +kernel
theorem dX4_init_60 : decode cX4_init 60 = .ok (.aload_n 0, 1) := by decide +kernel
theorem dX4_init_61 : decode cX4_init 61 = .ok (.bipush 12, 2) := by decide +kernel
theorem dX4_init_63 : decode cX4_init 63 = .ok (.newarray .int, 2) := by decide +kernel
theorem dX4_init_65 : decode cX4_init 65 = .ok (.putfield 31, 3) := by decide +kernel
theorem dX4_init_68 : decode cX4_init 68 = .ok (.aload_n 0, 1) := by decide +kernel
theorem dX4_init_69 : decode cX4_init 69 = .ok (.bipush 12, 2) := by decide +kernel
theorem dX4_init_71 : decode cX4_init 71 = .ok (.newarray .boolean, 2) := by decide +kernel
theorem dX4_init_73 : decode cX4_init 73 = .ok (.putfield 34, 3) := by decide +kernel
theorem dX4_init_76 : decode cX4_init 76 = .ok (.aload_n 0, 1) := by decide +kernel
theorem dX4_init_77 : decode cX4_init 77 = .ok (.bipush 90, 2) := by decide +kernel
theorem dX4_init_79 : decode cX4_init 79 = .ok (.newarray .int, 2) := by decide +kernel
theorem dX4_init_81 : decode cX4_init 81 = .ok (.putfield 38, 3) := by decide +kernel
theorem dX4_init_84 : decode cX4_init 84 = .ok (.aload_n 0, 1) := by decide +kernel
theorem dX4_init_85 : decode cX4_init 85 = .ok (.bipush 90, 2) := by decide +kernel
theorem dX4_init_87 : decode cX4_init 87 = .ok (.newarray .int, 2) := by decide +kernel
theorem dX4_init_89 : decode cX4_init 89 = .ok (.putfield 41, 3) := by decide +kernel
theorem dX4_init_92 : decode cX4_init 92 = .ok (.aload_n 0, 1) := by decide +kernel
theorem dX4_init_93 : decode cX4_init 93 = .ok (.bipush 90, 2) := by decide +kernel
theorem dX4_init_95 : decode cX4_init 95 = .ok (.newarray .int, 2) := by decide +kernel
theorem dX4_init_97 : decode cX4_init 97 = .ok (.putfield 44, 3) := by decide +kernel
theorem dX4_init_100 : decode cX4_init 100 = .ok (.aload_n 0, 1) := by decide +kernel
theorem dX4_init_101 : decode cX4_init 101 = .ok (.bipush 90, 2) := by decide +kernel
theorem dX4_init_103 : decode cX4_init 103 = .ok (.newarray .int, 2) := by decide +kernel
theorem dX4_init_105 : decode cX4_init 105 = .ok (.putfield 47, 3) := by decide +kernel
theorem dX4_init_108 : decode cX4_init 108 = .ok (.aload_n 0, 1) := by decide +kernel
theorem dX4_init_109 : decode cX4_init 109 = .ok (.bipush 90, 2) := by decide +kernel
theorem dX4_init_111 : decode cX4_init 111 = .ok (.newarray .int, 2) := by decide +kernel
theorem dX4_init_113 : decode cX4_init 113 = .ok (.putfield 50, 3) := by decide +kernel
theorem dX4_init_116 : decode cX4_init 116 = .ok (.aload_n 0, 1) := by decide +kernel
theorem dX4_init_117 : decode cX4_init 117 = .ok (.bipush 90, 2) := by decide +kernel
theorem dX4_init_119 : decode cX4_init 119 = .ok (.newarray .int, 2) := by decide +kernel
theorem dX4_init_121 : decode cX4_init 121 = .ok (.putfield 53, 3) := by decide +kernel
theorem dX4_init_124 : decode cX4_init 124 = .ok (.aload_n 0, 1) := by decide +kernel
theorem dX4_init_125 : decode cX4_init 125 = .ok (.bipush 64, 2) := by decide +kernel
theorem dX4_init_127 : decode cX4_init 127 = .ok (.newarray .int, 2) := by decide +kernel
theorem dX4_init_129 : decode cX4_init 129 = .ok (.putfield 56, 3) := by decide +kernel
theorem dX4_init_132 : decode cX4_init 132 = .ok (.aload_n 0, 1) := by decide +kernel
theorem dX4_init_133 : decode cX4_init 133 = .ok (.bipush 90, 2) := by decide +kernel
theorem dX4_init_135 : decode cX4_init 135 = .ok (.newarray .boolean, 2) := by decide +kernel
theorem dX4_init_137 : decode cX4_init 137 = .ok (.putfield 59, 3) := by decide +kernel
theorem dX4_init_140 : decode cX4_init 140 = .ok (.aload_n 0, 1) := by decide +kernel
theorem dX4_init_141 : decode cX4_init 141 = .ok (.bipush 64, 2) := by decide +kernel
theorem dX4_init_143 : decode cX4_init 143 = .ok (.newarray .int, 2) := by decide +kernel
theorem dX4_init_145 : decode cX4_init 145 = .ok (.putfield 62, 3) := by decide +kernel
theorem dX4_init_148 : decode cX4_init 148 = .ok (.aload_n 0, 1) := by decide +kernel
theorem dX4_init_149 : decode cX4_init 149 = .ok (.bipush 90, 2) := by decide +kernel
theorem dX4_init_151 : decode cX4_init 151 = .ok (.newarray .int, 2) := by decide +kernel
theorem dX4_init_153 : decode cX4_init 153 = .ok (.putfield 65, 3) := by decide +kernel
theorem dX4_init_156 : decode cX4_init 156 = .ok (.aload_n 0, 1) := by decide +kernel
theorem dX4_init_157 : decode cX4_init 157 = .ok (.bipush 90, 2) := by decide +kernel
theorem dX4_init_159 : decode cX4_init 159 = .ok (.newarray .int, 2) := by decide +kernel
theorem dX4_init_161 : decode cX4_init 161 = .ok (.putfield 68, 3) := by decide +kernel
theorem dX4_init_164 : decode cX4_init 164 = .ok (.aload_n 0, 1) := by decide +kernel
theorem dX4_init_165 : decode cX4_init 165 = .ok (.bipush 90, 2) := by decide +kernel
theorem dX4_init_167 : decode cX4_init 167 = .ok (.newarray .int, 2) := by decide +kernel
theorem dX4_init_169 : decode cX4_init 169 = .ok (.putfield 71, 3) := by decide +kernel
theorem dX4_init_172 : decode cX4_init 172 = .ok (.return_, 1) := by decide +kernel
theorem dX4_within_0 : decode cX4_within 0 = .ok (.iload_n 0, 1) := by decide +kernel
theorem dX4_within_1 : decode cX4_within 1 = .ok (.iload_n 1, 1) := by decide +kernel
theorem dX4_within_2 : decode cX4_within 2 = .ok (.if_icmp .lt 12, 3) := by decide +kernel
theorem dX4_within_5 : decode cX4_within 5 = .ok (.iload_n 0, 1) := by decide +kernel
theorem dX4_within_6 : decode cX4_within 6 = .ok (.iload_n 2, 1) := by decide +kernel
theorem dX4_within_7 : decode cX4_within 7 = .ok (.if_icmp .gt 7, 3) := by decide +kernel
theorem dX4_within_10 : decode cX4_within 10 = .ok (.iconst 1, 1) := by decide +kernel
theorem dX4_within_11 : decode cX4_within 11 = .ok (.goto 4, 3) := by decide +kernel
theorem dX4_within_14 : decode cX4_within 14 = .ok (.iconst 0, 1) := by decide +kernel
theorem dX4_within_15 : decode cX4_within 15 = .ok (.ireturn, 1) := by decide +kernel
theorem dX4_has_0 : decode cX4_has 0 = .ok (.iload_n 0, 1) := by decide +kernel
theorem dX4_has_1 : decode cX4_has 1 = .ok (.iload_n 1, 1) := by decide +kernel
theorem dX4_has_2 : decode cX4_has 2 = .ok (.ishr, 1) := by decide +kernel
theorem dX4_has_3 : decode cX4_has 3 = .ok (.iconst 1, 1) := by decide +kernel
theorem dX4_has_4 : decode cX4_has 4 = .ok (.iand, 1) := by decide +kernel
theorem dX4_has_5 : decode cX4_has 5 = .ok (.iconst 1, 1) := by decide +kernel
theorem dX4_has_6 : decode cX4_has 6 = .ok (.if_icmp .ne 7, 3) := by decide +kernel
theorem dX4_has_9 : decode cX4_has 9 = .ok (.iconst 1, 1) := by decide +kernel
theorem dX4_has_10 : decode cX4_has 10 = .ok (.goto 4, 3) := by decide +kernel
theorem dX4_has_13 : decode cX4_has 13 = .ok (.iconst 0, 1) := by decide +kernel
theorem dX4_has_14 : decode cX4_has 14 = .ok (.ireturn, 1) := by decide +kernel
theorem dX4_letter_0 : decode cX4_letter 0 = .ok (.iload_n 1, 1) := by decide +kernel
theorem dX4_letter_1 : decode cX4_letter 1 = .ok (.bipush 32, 2) := by decide +kernel
theorem dX4_letter_3 : decode cX4_letter 3 = .ok (.bipush 126, 2) := by decide +kernel
theorem dX4_letter_5 : decode cX4_letter 5 = .ok (.invokestatic 74, 3) := by decide +kernel
theorem dX4_letter_8 : decode cX4_letter 8 = .ok (.ifCond .ne 7, 3) := by decide +kernel
theorem dX4_letter_11 : decode cX4_letter 11 = .ok (.sipush (-1002), 3) := by decide +kernel
theorem dX4_letter_14 : decode cX4_letter 14 = .ok (.ireturn, 1) := by decide +kernel
theorem dX4_letter_15 : decode cX4_letter 15 = .ok (.aload_n 0, 1) := by decide +kernel
theorem dX4_letter_16 : decode cX4_letter 16 = .ok (.getfield 78, 3) := by decide +kernel
theorem dX4_letter_19 : decode cX4_letter 19 = .ok (.bipush 40, 2) := by decide +kernel
theorem dX4_letter_21 : decode cX4_letter 21 = .ok (.if_icmp .ne 7, 3) := by decide +kernel
theorem dX4_letter_24 : decode cX4_letter 24 = .ok (.sipush (-1004), 3) := by decide +kernel
theorem dX4_letter_27 : decode cX4_letter 27 = .ok (.ireturn, 1) := by decide +kernel
theorem dX4_letter_28 : decode cX4_letter 28 = .ok (.aload_n 0, 1) := by decide +kernel
theorem dX4_letter_29 : decode cX4_letter 29 = .ok (.getfield 7, 3) := by decide +kernel
theorem dX4_letter_32 : decode cX4_letter 32 = .ok (.aload_n 0, 1) := by decide +kernel
theorem dX4_letter_33 : decode cX4_letter 33 = .ok (.getfield 78, 3) := by decide +kernel
theorem dX4_letter_36 : decode cX4_letter 36 = .ok (.iload_n 1, 1) := by decide +kernel
theorem dX4_letter_37 : decode cX4_letter 37 = .ok (.iastore, 1) := by decide +kernel
theorem dX4_letter_38 : decode cX4_letter 38 = .ok (.aload_n 0, 1) := by decide +kernel
theorem dX4_letter_39 : decode cX4_letter 39 = .ok (.dup, 1) := by decide +kernel
theorem dX4_letter_40 : decode cX4_letter 40 = .ok (.getfield 78, 3) := by decide +kernel
theorem dX4_letter_43 : decode cX4_letter 43 = .ok (.iconst 1, 1) := by decide +kernel
theorem dX4_letter_44 : decode cX4_letter 44 = .ok (.iadd, 1) := by decide +kernel
theorem dX4_letter_45 : decode cX4_letter 45 = .ok (.putfield 78, 3) := by decide +kernel
theorem dX4_letter_48 : decode cX4_letter 48 = .ok (.aload_n 0, 1) := by decide +kernel
theorem dX4_letter_49 : decode cX4_letter 49 = .ok (.getfield 78, 3) := by decide +kernel
theorem dX4_letter_52 : decode cX4_letter 52 = .ok (.ireturn, 1) := by decide +kernel
theorem dX4_blank_0 : decode cX4_blank 0 = .ok (.aload_n 0, 1) := by decide +kernel
theorem dX4_blank_1 : decode cX4_blank 1 = .ok (.getfield 78, 3) := by decide +kernel
theorem dX4_blank_4 : decode cX4_blank 4 = .ok (.istore_n 1, 1) := by decide +kernel
theorem dX4_blank_5 : decode cX4_blank 5 = .ok (.aload_n 0, 1) := by decide +kernel
theorem dX4_blank_6 : decode cX4_blank 6 = .ok (.iconst 0, 1) := by decide +kernel
theorem dX4_blank_7 : decode cX4_blank 7 = .ok (.putfield 78, 3) := by decide +kernel
theorem dX4_blank_10 : decode cX4_blank 10 = .ok (.iload_n 1, 1) := by decide +kernel
theorem dX4_blank_11 : decode cX4_blank 11 = .ok (.ireturn, 1) := by decide +kernel
theorem dX4_comes_0 : decode cX4_comes 0 = .ok (.aload_n 0, 1) := by decide +kernel
theorem dX4_comes_1 : decode cX4_comes 1 = .ok (.getfield 13, 3) := by decide +kernel
theorem dX4_comes_4 : decode cX4_comes 4 = .ok (.aload_n 0, 1) := by decide +kernel
theorem dX4_comes_5 : decode cX4_comes 5 = .ok (.getfield 82, 3) := by decide +kernel
theorem dX4_comes_8 : decode cX4_comes 8 = .ok (.iload_n 1, 1) := by decide +kernel
theorem dX4_comes_9 : decode cX4_comes 9 = .ok (.iastore, 1) := by decide +kernel
theorem dX4_comes_10 : decode cX4_comes 10 = .ok (.aload_n 0, 1) := by decide +kernel
theorem dX4_comes_11 : decode cX4_comes 11 = .ok (.getfield 16, 3) := by decide +kernel
theorem dX4_comes_14 : decode cX4_comes 14 = .ok (.aload_n 0, 1) := by decide +kernel
theorem dX4_comes_15 : decode cX4_comes 15 = .ok (.getfield 82, 3) := by decide +kernel
theorem dX4_comes_18 : decode cX4_comes 18 = .ok (.iload_n 2, 1) := by decide +kernel
theorem dX4_comes_19 : decode cX4_comes 19 = .ok (.iastore, 1) := by decide +kernel
theorem dX4_comes_20 : decode cX4_comes 20 = .ok (.aload_n 0, 1) := by decide +kernel
theorem dX4_comes_21 : decode cX4_comes 21 = .ok (.getfield 22, 3) := by decide +kernel
theorem dX4_comes_24 : decode cX4_comes 24 = .ok (.aload_n 0, 1) := by decide +kernel
theorem dX4_comes_25 : decode cX4_comes 25 = .ok (.getfield 82, 3) := by decide +kernel
theorem dX4_comes_28 : decode cX4_comes 28 = .ok (.iconst 0, 1) := by decide +kernel
theorem dX4_comes_29 : decode cX4_comes 29 = .ok (.iastore, 1) := by decide +kernel
theorem dX4_comes_30 : decode cX4_comes 30 = .ok (.aload_n 0, 1) := by decide +kernel
theorem dX4_comes_31 : decode cX4_comes 31 = .ok (.getfield 19, 3) := by decide +kernel
theorem dX4_comes_34 : decode cX4_comes 34 = .ok (.aload_n 0, 1) := by decide +kernel
theorem dX4_comes_35 : decode cX4_comes 35 = .ok (.getfield 82, 3) := by decide +kernel
theorem dX4_comes_38 : decode cX4_comes 38 = .ok (.aload_n 0, 1) := by decide +kernel
theorem dX4_comes_39 : decode cX4_comes 39 = .ok (.getfield 85, 3) := by decide +kernel
theorem dX4_comes_42 : decode cX4_comes 42 = .ok (.iastore, 1) := by decide +kernel
theorem dX4_comes_43 : decode cX4_comes 43 = .ok (.aload_n 0, 1) := by decide +kernel
theorem dX4_comes_44 : decode cX4_comes 44 = .ok (.aload_n 0, 1) := by decide +kernel
theorem dX4_comes_45 : decode cX4_comes 45 = .ok (.getfield 82, 3) := by decide +kernel
theorem dX4_comes_48 : decode cX4_comes 48 = .ok (.iconst (-1), 1) := by decide +kernel
theorem dX4_comes_49 : decode cX4_comes 49 = .ok (.iload_n 2, 1) := by decide +kernel
theorem dX4_comes_50 : decode cX4_comes 50 = .ok (.iload_n 3, 1) := by decide +kernel
theorem dX4_comes_51 : decode cX4_comes 51 = .ok (.invokevirtual 88, 3) := by decide +kernel
theorem dX4_comes_54 : decode cX4_comes 54 = .ok (.aload_n 0, 1) := by decide +kernel
theorem dX4_comes_55 : decode cX4_comes 55 = .ok (.dup, 1) := by decide +kernel
theorem dX4_comes_56 : decode cX4_comes 56 = .ok (.getfield 82, 3) := by decide +kernel
theorem dX4_comes_59 : decode cX4_comes 59 = .ok (.iconst 1, 1) := by decide +kernel
theorem dX4_comes_60 : decode cX4_comes 60 = .ok (.iadd, 1) := by decide +kernel
theorem dX4_comes_61 : decode cX4_comes 61 = .ok (.putfield 82, 3) := by decide +kernel
theorem dX4_comes_64 : decode cX4_comes 64 = .ok (.return_, 1) := by decide +kernel
theorem dX4_layPlace_0 : decode cX4_layPlace 0 = .ok (.aload_n 0, 1) := by decide +kernel
theorem dX4_layPlace_1 : decode cX4_layPlace 1 = .ok (.getfield 85, 3) := by decide +kernel
theorem dX4_layPlace_4 : decode cX4_layPlace 4 = .ok (.istore 5, 2) := by decide +kernel
theorem dX4_layPlace_6 : decode cX4_layPlace 6 = .ok (.iload 5, 2) := by decide +kernel
theorem dX4_layPlace_8 : decode cX4_layPlace 8 = .ok (.iload 4, 2) := by decide +kernel
theorem dX4_layPlace_10 : decode cX4_layPlace 10 = .ok (.if_icmp .le 25, 3) := by decide +kernel
theorem dX4_layPlace_13 : decode cX4_layPlace 13 = .ok (.aload_n 0, 1) := by decide +kernel
theorem dX4_layPlace_14 : decode cX4_layPlace 14 = .ok (.getfield 47, 3) := by decide +kernel
theorem dX4_layPlace_17 : decode cX4_layPlace 17 = .ok (.iload 5, 2) := by decide +kernel
theorem dX4_layPlace_19 : decode cX4_layPlace 19 = .ok (.aload_n 0, 1) := by decide +kernel
theorem dX4_layPlace_20 : decode cX4_layPlace 20 = .ok (.getfield 47, 3) := by decide +kernel
theorem dX4_layPlace_23 : decode cX4_layPlace 23 = .ok (.iload 5, 2) := by decide +kernel
theorem dX4_layPlace_25 : decode cX4_layPlace 25 = .ok (.iconst 1, 1) := by decide +kernel
theorem dX4_layPlace_26 : decode cX4_layPlace 26 = .ok (.isub, 1) := by decide +kernel
theorem dX4_layPlace_27 : decode cX4_layPlace 27 = .ok (.iaload, 1) := by decide +kernel
theorem dX4_layPlace_28 : decode cX4_layPlace 28 = .ok (.iastore, 1) := by decide +kernel
theorem dX4_layPlace_29 : decode cX4_layPlace 29 = .ok (.iinc 5 (-1), 3) := by decide +kernel
theorem dX4_layPlace_32 : decode cX4_layPlace 32 = .ok (.goto (-26), 3) := by decide +kernel
theorem dX4_layPlace_35 : decode cX4_layPlace 35 = .ok (.aload_n 0, 1) := by decide +kernel
theorem dX4_layPlace_36 : decode cX4_layPlace 36 = .ok (.getfield 47, 3) := by decide +kernel
theorem dX4_layPlace_39 : decode cX4_layPlace 39 = .ok (.iload 4, 2) := by decide +kernel
theorem dX4_layPlace_41 : decode cX4_layPlace 41 = .ok (.aload_n 0, 1) := by decide +kernel
theorem dX4_layPlace_42 : decode cX4_layPlace 42 = .ok (.getfield 85, 3) := by decide +kernel
theorem dX4_layPlace_45 : decode cX4_layPlace 45 = .ok (.iastore, 1) := by decide +kernel
theorem dX4_layPlace_46 : decode cX4_layPlace 46 = .ok (.aload_n 0, 1) := by decide +kernel
theorem dX4_layPlace_47 : decode cX4_layPlace 47 = .ok (.getfield 38, 3) := by decide +kernel
theorem dX4_layPlace_50 : decode cX4_layPlace 50 = .ok (.aload_n 0, 1) := by decide +kernel
theorem dX4_layPlace_51 : decode cX4_layPlace 51 = .ok (.getfield 85, 3) := by decide +kernel
theorem dX4_layPlace_54 : decode cX4_layPlace 54 = .ok (.iload_n 1, 1) := by decide +kernel
theorem dX4_layPlace_55 : decode cX4_layPlace 55 = .ok (.iastore, 1) := by decide +kernel
theorem dX4_layPlace_56 : decode cX4_layPlace 56 = .ok (.aload_n 0, 1) := by decide +kernel
theorem dX4_layPlace_57 : decode cX4_layPlace 57 = .ok (.getfield 41, 3) := by decide +kernel
theorem dX4_layPlace_60 : decode cX4_layPlace 60 = .ok (.aload_n 0, 1) := by decide +kernel
theorem dX4_layPlace_61 : decode cX4_layPlace 61 = .ok (.getfield 85, 3) := by decide +kernel
theorem dX4_layPlace_64 : decode cX4_layPlace 64 = .ok (.iload_n 2, 1) := by decide +kernel
theorem dX4_layPlace_65 : decode cX4_layPlace 65 = .ok (.iastore, 1) := by decide +kernel
theorem dX4_layPlace_66 : decode cX4_layPlace 66 = .ok (.aload_n 0, 1) := by decide +kernel
theorem dX4_layPlace_67 : decode cX4_layPlace 67 = .ok (.getfield 44, 3) := by decide +kernel
theorem dX4_layPlace_70 : decode cX4_layPlace 70 = .ok (.aload_n 0, 1) := by decide +kernel
theorem dX4_layPlace_71 : decode cX4_layPlace 71 = .ok (.getfield 85, 3) := by decide +kernel
theorem dX4_layPlace_74 : decode cX4_layPlace 74 = .ok (.iload_n 3, 1) := by decide +kernel
theorem dX4_layPlace_75 : decode cX4_layPlace 75 = .ok (.iastore, 1) := by decide +kernel
theorem dX4_layPlace_76 : decode cX4_layPlace 76 = .ok (.aload_n 0, 1) := by decide +kernel
theorem dX4_layPlace_77 : decode cX4_layPlace 77 = .ok (.getfield 50, 3) := by decide +kernel
theorem dX4_layPlace_80 : decode cX4_layPlace 80 = .ok (.aload_n 0, 1) := by decide +kernel
theorem dX4_layPlace_81 : decode cX4_layPlace 81 = .ok (.getfield 85, 3) := by decide +kernel
theorem dX4_layPlace_84 : decode cX4_layPlace 84 = .ok (.iconst (-1), 1) := by decide +kernel
theorem dX4_layPlace_85 : decode cX4_layPlace 85 = .ok (.iastore, 1) := by decide +kernel
theorem dX4_layPlace_86 : decode cX4_layPlace 86 = .ok (.aload_n 0, 1) := by decide +kernel
theorem dX4_layPlace_87 : decode cX4_layPlace 87 = .ok (.getfield 53, 3) := by decide +kernel
theorem dX4_layPlace_90 : decode cX4_layPlace 90 = .ok (.aload_n 0, 1) := by decide +kernel
theorem dX4_layPlace_91 : decode cX4_layPlace 91 = .ok (.getfield 85, 3) := by decide +kernel
theorem dX4_layPlace_94 : decode cX4_layPlace 94 = .ok (.iconst (-1), 1) := by decide +kernel
theorem dX4_layPlace_95 : decode cX4_layPlace 95 = .ok (.iastore, 1) := by decide +kernel
theorem dX4_layPlace_96 : decode cX4_layPlace 96 = .ok (.iload_n 2, 1) := by decide +kernel
theorem dX4_layPlace_97 : decode cX4_layPlace 97 = .ok (.iconst (-1), 1) := by decide +kernel
theorem dX4_layPlace_98 : decode cX4_layPlace 98 = .ok (.if_icmp .eq 12, 3) := by decide +kernel
theorem dX4_layPlace_101 : decode cX4_layPlace 101 = .ok (.aload_n 0, 1) := by decide +kernel
theorem dX4_layPlace_102 : decode cX4_layPlace 102 = .ok (.iload_n 2, 1) := by decide +kernel
