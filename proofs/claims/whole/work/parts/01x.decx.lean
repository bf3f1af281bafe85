theorem dX0_init_0 : decode cX0_init 0 = .ok (.aload_n 0, 1) := by decide +kernel
theorem dX0_init_1 : decode cX0_init 1 = .ok (.invokespecial 3, 3) := by decide +kernel
theorem dX0_init_4 : decode cX0_init 4 = .ok (.aload_n 0, 1) := by decide +kernel
theorem dX0_init_5 : decode cX0_init 5 = .ok (.sipush 839, 3) := by decide +kernel
theorem dX0_init_8 : decode cX0_init 8 = .ok (.newarray .long, 2) := by decide +kernel
theorem dX0_init_10 : decode cX0_init 10 = .ok (.putfield 11, 3) := by decide +kernel
theorem dX0_init_13 : decode cX0_init 13 = .ok (.aload_n 0, 1) := by decide +kernel
theorem dX0_init_14 : decode cX0_init 14 = .ok (.iconst 0, 1) := by decide +kernel
theorem dX0_init_15 : decode cX0_init 15 = .ok (.putfield 15, 3) := by decide +kernel
theorem dX0_init_18 : decode cX0_init 18 = .ok (.bipush 32, 2) := by decide +kernel
theorem dX0_init_20 : decode cX0_init 20 = .ok (.newarray .int, 2) := by decide +kernel
theorem dX0_init_22 : decode cX0_init 22 = .ok (.astore_n 1, 1) := by decide +kernel
theorem dX0_init_23 : decode cX0_init 23 = .ok (.aload_n 0, 1) := by decide +kernel
theorem dX0_init_24 : decode cX0_init 24 = .ok (.lconst 0, 1) := by decide +kernel
theorem dX0_init_25 : decode cX0_init 25 = .ok (.iconst 0, 1) := by decide +kernel
theorem dX0_init_26 : decode cX0_init 26 = .ok (.iconst 0, 1) := by decide +kernel
theorem dX0_init_27 : decode cX0_init 27 = .ok (.invokevirtual 19, 3) := by decide +kernel
theorem dX0_init_30 : decode cX0_init 30 = .ok (.aload_n 0, 1) := by decide +kernel
theorem dX0_init_31 : decode cX0_init 31 = .ok (.ldc2_w 23, 3) := by decide +kernel
theorem dX0_init_34 : decode cX0_init 34 = .ok (.iconst 0, 1) := by decide +kernel
theorem dX0_init_35 : decode cX0_init 35 = .ok (.iconst 0, 1) := by decide +kernel
theorem dX0_init_36 : decode cX0_init 36 = .ok (.invokevirtual 19, 3) := by decide +kernel
theorem dX0_init_39 : decode cX0_init 39 = .ok (.iconst 1, 1) := by decide +kernel
theorem dX0_init_40 : decode cX0_init 40 = .ok (.istore_n 2, 1) := by decide +kernel
theorem dX0_init_41 : decode cX0_init 41 = .ok (.iload_n 2, 1) := by decide +kernel
theorem dX0_init_42 : decode cX0_init 42 = .ok (.bipush 32, 2) := by decide +kernel
theorem dX0_init_44 : decode cX0_init 44 = .ok (.if_icmp .ge 22, 3) := by decide +kernel
theorem dX0_init_47 : decode cX0_init 47 = .ok (.aload_n 1, 1) := by decide +kernel
theorem dX0_init_48 : decode cX0_init 48 = .ok (.iload_n 2, 1) := by decide +kernel
theorem dX0_init_49 : decode cX0_init 49 = .ok (.aload_n 0, 1) := by decide +kernel
theorem dX0_init_50 : decode cX0_init 50 = .ok (.getfield 15, 3) := by decide +kernel
theorem dX0_init_53 : decode cX0_init 53 = .ok (.iastore, 1) := by decide +kernel
theorem dX0_init_54 : decode cX0_init 54 = .ok (.aload_n 0, 1) := by decide +kernel
theorem dX0_init_55 : decode cX0_init 55 = .ok (.iload_n 2, 1) := by decide +kernel
theorem dX0_init_56 : decode cX0_init 56 = .ok (.aload_n 1, 1) := by decide +kernel
theorem dX0_init_57 : decode cX0_init 57 = .ok (.invokevirtual 25, 3) := by decide +kernel
theorem dX0_init_60 : decode cX0_init 60 = .ok (.iinc 2 1, 3) := by decide +kernel
theorem dX0_init_63 : decode cX0_init 63 = .ok (.goto (-22), 3) := by decide +kernel
theorem dX0_init_66 : decode cX0_init 66 = .ok (.aload_n 0, 1) := by decide +kernel
theorem dX0_init_67 : decode cX0_init 67 = .ok (.invokevirtual 29, 3) := by decide +kernel
theorem dX0_init_70 : decode cX0_init 70 = .ok (.return_, 1) := by decide +kernel
theorem dX0_tableAt_0 : decode cX0_tableAt 0 = .ok (.iload_n 1, 1) := by decide +kernel
theorem dX0_tableAt_1 : decode cX0_tableAt 1 = .ok (.aload_n 0, 1) := by decide +kernel
theorem dX0_tableAt_2 : decode cX0_tableAt 2 = .ok (.getfield 15, 3) := by decide +kernel
theorem dX0_tableAt_5 : decode cX0_tableAt 5 = .ok (.invokestatic 32, 3) := by decide +kernel
theorem dX0_tableAt_8 : decode cX0_tableAt 8 = .ok (.ifCond .eq 15, 3) := by decide +kernel
theorem dX0_tableAt_11 : decode cX0_tableAt 11 = .ok (.aload_n 0, 1) := by decide +kernel
theorem dX0_tableAt_12 : decode cX0_tableAt 12 = .ok (.getfield 11, 3) := by decide +kernel
theorem dX0_tableAt_15 : decode cX0_tableAt 15 = .ok (.iload_n 1, 1) := by decide +kernel
theorem dX0_tableAt_16 : decode cX0_tableAt 16 = .ok (.laload, 1) := by decide +kernel
theorem dX0_tableAt_17 : decode cX0_tableAt 17 = .ok (.bipush 7, 2) := by decide +kernel
theorem dX0_tableAt_19 : decode cX0_tableAt 19 = .ok (.lushr, 1) := by decide +kernel
theorem dX0_tableAt_20 : decode cX0_tableAt 20 = .ok (.goto 6, 3) := by decide +kernel
theorem dX0_tableAt_23 : decode cX0_tableAt 23 = .ok (.ldc2_w 36, 3) := by decide +kernel
theorem dX0_tableAt_26 : decode cX0_tableAt 26 = .ok (.lreturn, 1) := by decide +kernel
theorem dX0_supportAt_0 : decode cX0_supportAt 0 = .ok (.iload_n 1, 1) := by decide +kernel
theorem dX0_supportAt_1 : decode cX0_supportAt 1 = .ok (.aload_n 0, 1) := by decide +kernel
theorem dX0_supportAt_2 : decode cX0_supportAt 2 = .ok (.getfield 15, 3) := by decide +kernel
theorem dX0_supportAt_5 : decode cX0_supportAt 5 = .ok (.invokestatic 32, 3) := by decide +kernel
theorem dX0_supportAt_8 : decode cX0_supportAt 8 = .ok (.ifCond .eq 18, 3) := by decide +kernel
theorem dX0_supportAt_11 : decode cX0_supportAt 11 = .ok (.aload_n 0, 1) := by decide +kernel
theorem dX0_supportAt_12 : decode cX0_supportAt 12 = .ok (.getfield 11, 3) := by decide +kernel
theorem dX0_supportAt_15 : decode cX0_supportAt 15 = .ok (.iload_n 1, 1) := by decide +kernel
theorem dX0_supportAt_16 : decode cX0_supportAt 16 = .ok (.laload, 1) := by decide +kernel
theorem dX0_supportAt_17 : decode cX0_supportAt 17 = .ok (.iconst 2, 1) := by decide +kernel
theorem dX0_supportAt_18 : decode cX0_supportAt 18 = .ok (.lushr, 1) := by decide +kernel
theorem dX0_supportAt_19 : decode cX0_supportAt 19 = .ok (.l2i, 1) := by decide +kernel
theorem dX0_supportAt_20 : decode cX0_supportAt 20 = .ok (.bipush 31, 2) := by decide +kernel
theorem dX0_supportAt_22 : decode cX0_supportAt 22 = .ok (.iand, 1) := by decide +kernel
theorem dX0_supportAt_23 : decode cX0_supportAt 23 = .ok (.goto 4, 3) := by decide +kernel
theorem dX0_supportAt_26 : decode cX0_supportAt 26 = .ok (.iconst (-1), 1) := by decide +kernel
theorem dX0_supportAt_27 : decode cX0_supportAt 27 = .ok (.ireturn, 1) := by decide +kernel
theorem dX0_rootAt_0 : decode cX0_rootAt 0 = .ok (.iload_n 1, 1) := by decide +kernel
theorem dX0_rootAt_1 : decode cX0_rootAt 1 = .ok (.aload_n 0, 1) := by decide +kernel
theorem dX0_rootAt_2 : decode cX0_rootAt 2 = .ok (.getfield 15, 3) := by decide +kernel
theorem dX0_rootAt_5 : decode cX0_rootAt 5 = .ok (.invokestatic 32, 3) := by decide +kernel
theorem dX0_rootAt_8 : decode cX0_rootAt 8 = .ok (.ifCond .eq 15, 3) := by decide +kernel
theorem dX0_rootAt_11 : decode cX0_rootAt 11 = .ok (.aload_n 0, 1) := by decide +kernel
theorem dX0_rootAt_12 : decode cX0_rootAt 12 = .ok (.getfield 11, 3) := by decide +kernel
theorem dX0_rootAt_15 : decode cX0_rootAt 15 = .ok (.iload_n 1, 1) := by decide +kernel
theorem dX0_rootAt_16 : decode cX0_rootAt 16 = .ok (.laload, 1) := by decide +kernel
theorem dX0_rootAt_17 : decode cX0_rootAt 17 = .ok (.l2i, 1) := by decide +kernel
theorem dX0_rootAt_18 : decode cX0_rootAt 18 = .ok (.iconst 3, 1) := by decide +kernel
theorem dX0_rootAt_19 : decode cX0_rootAt 19 = .ok (.iand, 1) := by decide +kernel
theorem dX0_rootAt_20 : decode cX0_rootAt 20 = .ok (.goto 4, 3) := by decide +kernel
theorem dX0_rootAt_23 : decode cX0_rootAt 23 = .ok (.iconst (-1), 1) := by decide +kernel
theorem dX0_rootAt_24 : decode cX0_rootAt 24 = .ok (.ireturn, 1) := by decide +kernel
theorem dX0_enter_0 : decode cX0_enter 0 = .ok (.aload_n 0, 1) := by decide +kernel
theorem dX0_enter_1 : decode cX0_enter 1 = .ok (.getfield 15, 3) := by decide +kernel
theorem dX0_enter_4 : decode cX0_enter 4 = .ok (.sipush 839, 3) := by decide +kernel
theorem dX0_enter_7 : decode cX0_enter 7 = .ok (.if_icmp .ge 35, 3) := by decide +kernel
theorem dX0_enter_10 : decode cX0_enter 10 = .ok (.aload_n 0, 1) := by decide +kernel
theorem dX0_enter_11 : decode cX0_enter 11 = .ok (.getfield 11, 3) := by decide +kernel
theorem dX0_enter_14 : decode cX0_enter 14 = .ok (.aload_n 0, 1) := by decide +kernel
theorem dX0_enter_15 : decode cX0_enter 15 = .ok (.getfield 15, 3) := by decide +kernel
theorem dX0_enter_18 : decode cX0_enter 18 = .ok (.lload_n 1, 1) := by decide +kernel
theorem dX0_enter_19 : decode cX0_enter 19 = .ok (.bipush 7, 2) := by decide +kernel
theorem dX0_enter_21 : decode cX0_enter 21 = .ok (.lshl, 1) := by decide +kernel
theorem dX0_enter_22 : decode cX0_enter 22 = .ok (.iload_n 3, 1) := by decide +kernel
theorem dX0_enter_23 : decode cX0_enter 23 = .ok (.i2l, 1) := by decide +kernel
theorem dX0_enter_24 : decode cX0_enter 24 = .ok (.iconst 2, 1) := by decide +kernel
theorem dX0_enter_25 : decode cX0_enter 25 = .ok (.lshl, 1) := by decide +kernel
theorem dX0_enter_26 : decode cX0_enter 26 = .ok (.lor, 1) := by decide +kernel
theorem dX0_enter_27 : decode cX0_enter 27 = .ok (.iload 4, 2) := by decide +kernel
theorem dX0_enter_29 : decode cX0_enter 29 = .ok (.i2l, 1) := by decide +kernel
theorem dX0_enter_30 : decode cX0_enter 30 = .ok (.lor, 1) := by decide +kernel
theorem dX0_enter_31 : decode cX0_enter 31 = .ok (.lastore, 1) := by decide +kernel
theorem dX0_enter_32 : decode cX0_enter 32 = .ok (.aload_n 0, 1) := by decide +kernel
theorem dX0_enter_33 : decode cX0_enter 33 = .ok (.dup, 1) := by decide +kernel
theorem dX0_enter_34 : decode cX0_enter 34 = .ok (.getfield 15, 3) := by decide +kernel
theorem dX0_enter_37 : decode cX0_enter 37 = .ok (.iconst 1, 1) := by decide +kernel
theorem dX0_enter_38 : decode cX0_enter 38 = .ok (.iadd, 1) := by decide +kernel
theorem dX0_enter_39 : decode cX0_enter 39 = .ok (.putfield 15, 3) := by decide +kernel
theorem dX0_enter_42 : decode cX0_enter 42 = .ok (.return_, 1) := by decide +kernel
theorem dX0_enterAll_0 : decode cX0_enterAll 0 = .ok (.iload_n 1, 1) := by decide +kernel
theorem dX0_enterAll_1 : decode cX0_enterAll 1 = .ok (.invokestatic 38, 3) := by decide +kernel
theorem dX0_enterAll_4 : decode cX0_enterAll 4 = .ok (.istore_n 3, 1) := by decide +kernel
theorem dX0_enterAll_5 : decode cX0_enterAll 5 = .ok (.iload_n 3, 1) := by decide +kernel
theorem dX0_enterAll_6 : decode cX0_enterAll 6 = .ok (.iconst (-1), 1) := by decide +kernel
theorem dX0_enterAll_7 : decode cX0_enterAll 7 = .ok (.if_icmp .ne 4, 3) := by decide +kernel
theorem dX0_enterAll_10 : decode cX0_enterAll 10 = .ok (.return_, 1) := by decide +kernel
theorem dX0_enterAll_11 : decode cX0_enterAll 11 = .ok (.iload_n 1, 1) := by decide +kernel
theorem dX0_enterAll_12 : decode cX0_enterAll 12 = .ok (.iconst 1, 1) := by decide +kernel
theorem dX0_enterAll_13 : decode cX0_enterAll 13 = .ok (.iload_n 3, 1) := by decide +kernel
theorem dX0_enterAll_14 : decode cX0_enterAll 14 = .ok (.ishl, 1) := by decide +kernel
theorem dX0_enterAll_15 : decode cX0_enterAll 15 = .ok (.if_icmp .ne 15, 3) := by decide +kernel
theorem dX0_enterAll_18 : decode cX0_enterAll 18 = .ok (.aload_n 0, 1) := by decide +kernel
theorem dX0_enterAll_19 : decode cX0_enterAll 19 = .ok (.getstatic 42, 3) := by decide +kernel
theorem dX0_enterAll_22 : decode cX0_enterAll 22 = .ok (.iload_n 3, 1) := by decide +kernel
theorem dX0_enterAll_23 : decode cX0_enterAll 23 = .ok (.laload, 1) := by decide +kernel
theorem dX0_enterAll_24 : decode cX0_enterAll 24 = .ok (.iload_n 1, 1) := by decide +kernel
theorem dX0_enterAll_25 : decode cX0_enterAll 25 = .ok (.iconst 0, 1) := by decide +kernel
theorem dX0_enterAll_26 : decode cX0_enterAll 26 = .ok (.invokevirtual 19, 3) := by decide +kernel
theorem dX0_enterAll_29 : decode cX0_enterAll 29 = .ok (.return_, 1) := by decide +kernel
theorem dX0_enterAll_30 : decode cX0_enterAll 30 = .ok (.iconst 1, 1) := by decide +kernel
theorem dX0_enterAll_31 : decode cX0_enterAll 31 = .ok (.istore 4, 2) := by decide +kernel
theorem dX0_enterAll_33 : decode cX0_enterAll 33 = .ok (.iload 4, 2) := by decide +kernel
theorem dX0_enterAll_35 : decode cX0_enterAll 35 = .ok (.iload_n 1, 1) := by decide +kernel
theorem dX0_enterAll_36 : decode cX0_enterAll 36 = .ok (.if_icmp .ge 40, 3) := by decide +kernel
theorem dX0_enterAll_39 : decode cX0_enterAll 39 = .ok (.iload 4, 2) := by decide +kernel
theorem dX0_enterAll_41 : decode cX0_enterAll 41 = .ok (.iload_n 1, 1) := by decide +kernel
theorem dX0_enterAll_42 : decode cX0_enterAll 42 = .ok (.iconst (-1), 1) := by decide +kernel
theorem dX0_enterAll_43 : decode cX0_enterAll 43 = .ok (.ixor, 1) := by decide +kernel
theorem dX0_enterAll_44 : decode cX0_enterAll 44 = .ok (.iand, 1) := by decide +kernel
theorem dX0_enterAll_45 : decode cX0_enterAll 45 = .ok (.ifCond .ne 25, 3) := by decide +kernel
theorem dX0_enterAll_48 : decode cX0_enterAll 48 = .ok (.iload 4, 2) := by decide +kernel
theorem dX0_enterAll_50 : decode cX0_enterAll 50 = .ok (.iload_n 3, 1) := by decide +kernel
theorem dX0_enterAll_51 : decode cX0_enterAll 51 = .ok (.invokestatic 45, 3) := by decide +kernel
theorem dX0_enterAll_54 : decode cX0_enterAll 54 = .ok (.ifCond .eq 16, 3) := by decide +kernel
theorem dX0_enterAll_57 : decode cX0_enterAll 57 = .ok (.aload_n 0, 1) := by decide +kernel
theorem dX0_enterAll_58 : decode cX0_enterAll 58 = .ok (.iload 4, 2) := by decide +kernel
theorem dX0_enterAll_60 : decode cX0_enterAll 60 = .ok (.iload_n 1, 1) := by decide +kernel
theorem dX0_enterAll_61 : decode cX0_enterAll 61 = .ok (.iload 4, 2) := by decide +kernel
theorem dX0_enterAll_63 : decode cX0_enterAll 63 = .ok (.iconst (-1), 1) := by decide +kernel
theorem dX0_enterAll_64 : decode cX0_enterAll 64 = .ok (.ixor, 1) := by decide +kernel
theorem dX0_enterAll_65 : decode cX0_enterAll 65 = .ok (.iand, 1) := by decide +kernel
theorem dX0_enterAll_66 : decode cX0_enterAll 66 = .ok (.aload_n 2, 1) := by decide +kernel
theorem dX0_enterAll_67 : decode cX0_enterAll 67 = .ok (.invokevirtual 48, 3) := by decide +kernel
theorem dX0_enterAll_70 : decode cX0_enterAll 70 = .ok (.iinc 4 1, 3) := by decide +kernel
theorem dX0_enterAll_73 : decode cX0_enterAll 73 = .ok (.goto (-40), 3) := by decide +kernel
theorem dX0_enterAll_76 : decode cX0_enterAll 76 = .ok (.return_, 1) := by decide +kernel
theorem dX0_enterSplit_0 : decode cX0_enterSplit 0 = .ok (.aload_n 3, 1) := by decide +kernel
theorem dX0_enterSplit_1 : decode cX0_enterSplit 1 = .ok (.iload_n 1, 1) := by decide +kernel
theorem dX0_enterSplit_2 : decode cX0_enterSplit 2 = .ok (.iaload, 1) := by decide +kernel
theorem dX0_enterSplit_3 : decode cX0_enterSplit 3 = .ok (.istore 4, 2) := by decide +kernel
theorem dX0_enterSplit_5 : decode cX0_enterSplit 5 = .ok (.iload 4, 2) := by decide +kernel
theorem dX0_enterSplit_7 : decode cX0_enterSplit 7 = .ok (.aload_n 3, 1) := by decide +kernel
theorem dX0_enterSplit_8 : decode cX0_enterSplit 8 = .ok (.iload_n 1, 1) := by decide +kernel
theorem dX0_enterSplit_9 : decode cX0_enterSplit 9 = .ok (.iconst 1, 1) := by decide +kernel
theorem dX0_enterSplit_10 : decode cX0_enterSplit 10 = .ok (.iadd, 1) := by decide +kernel
theorem dX0_enterSplit_11 : decode cX0_enterSplit 11 = .ok (.iaload, 1) := by decide +kernel
theorem dX0_enterSplit_12 : decode cX0_enterSplit 12 = .ok (.if_icmp .ge 55, 3) := by decide +kernel
theorem dX0_enterSplit_15 : decode cX0_enterSplit 15 = .ok (.aload_n 3, 1) := by decide +kernel
theorem dX0_enterSplit_16 : decode cX0_enterSplit 16 = .ok (.iload_n 2, 1) := by decide +kernel
theorem dX0_enterSplit_17 : decode cX0_enterSplit 17 = .ok (.iaload, 1) := by decide +kernel
theorem dX0_enterSplit_18 : decode cX0_enterSplit 18 = .ok (.istore 5, 2) := by decide +kernel
theorem dX0_enterSplit_20 : decode cX0_enterSplit 20 = .ok (.iload 5, 2) := by decide +kernel
theorem dX0_enterSplit_22 : decode cX0_enterSplit 22 = .ok (.aload_n 3, 1) := by decide +kernel
theorem dX0_enterSplit_23 : decode cX0_enterSplit 23 = .ok (.iload_n 2, 1) := by decide +kernel
theorem dX0_enterSplit_24 : decode cX0_enterSplit 24 = .ok (.iconst 1, 1) := by decide +kernel
theorem dX0_enterSplit_25 : decode cX0_enterSplit 25 = .ok (.iadd, 1) := by decide +kernel
theorem dX0_enterSplit_26 : decode cX0_enterSplit 26 = .ok (.iaload, 1) := by decide +kernel
theorem dX0_enterSplit_27 : decode cX0_enterSplit 27 = .ok (.if_icmp .ge 34, 3) := by decide +kernel
theorem dX0_enterSplit_30 : decode cX0_enterSplit 30 = .ok (.aload_n 0, 1) := by decide +kernel
theorem dX0_enterSplit_31 : decode cX0_enterSplit 31 = .ok (.aload_n 0, 1) := by decide +kernel
theorem dX0_enterSplit_32 : decode cX0_enterSplit 32 = .ok (.iload 4, 2) := by decide +kernel
theorem dX0_enterSplit_34 : decode cX0_enterSplit 34 = .ok (.invokevirtual 52, 3) := by decide +kernel
theorem dX0_enterSplit_37 : decode cX0_enterSplit 37 = .ok (.aload_n 0, 1) := by decide +kernel
theorem dX0_enterSplit_38 : decode cX0_enterSplit 38 = .ok (.iload 4, 2) := by decide +kernel
theorem dX0_enterSplit_40 : decode cX0_enterSplit 40 = .ok (.invokevirtual 56, 3) := by decide +kernel
theorem dX0_enterSplit_43 : decode cX0_enterSplit 43 = .ok (.aload_n 0, 1) := by decide +kernel
theorem dX0_enterSplit_44 : decode cX0_enterSplit 44 = .ok (.iload 5, 2) := by decide +kernel
theorem dX0_enterSplit_46 : decode cX0_enterSplit 46 = .ok (.invokevirtual 52, 3) := by decide +kernel
theorem dX0_enterSplit_49 : decode cX0_enterSplit 49 = .ok (.iload_n 1, 1) := by decide +kernel
theorem dX0_enterSplit_50 : decode cX0_enterSplit 50 = .ok (.iload_n 2, 1) := by decide +kernel
theorem dX0_enterSplit_51 : decode cX0_enterSplit 51 = .ok (.ior, 1) := by decide +kernel
theorem dX0_enterSplit_52 : decode cX0_enterSplit 52 = .ok (.invokevirtual 59, 3) := by decide +kernel
theorem dX0_enterSplit_55 : decode cX0_enterSplit 55 = .ok (.iinc 5 1, 3) := by decide +kernel
theorem dX0_enterSplit_58 : decode cX0_enterSplit 58 = .ok (.goto (-38), 3) := by decide +kernel
theorem dX0_enterSplit_61 : decode cX0_enterSplit 61 = .ok (.iinc 4 1, 3) := by decide +kernel
theorem dX0_enterSplit_64 : decode cX0_enterSplit 64 = .ok (.goto (-59), 3) := by decide +kernel
theorem dX0_enterSplit_67 : decode cX0_enterSplit 67 = .ok (.return_, 1) := by decide +kernel
theorem dX0_enterJoined_0 : decode cX0_enterJoined 0 = .ok (.iload_n 3, 1) := by decide +kernel
theorem dX0_enterJoined_1 : decode cX0_enterJoined 1 = .ok (.iconst 1, 1) := by decide +kernel
theorem dX0_enterJoined_2 : decode cX0_enterJoined 2 = .ok (.if_icmp .eq 14, 3) := by decide +kernel
theorem dX0_enterJoined_5 : decode cX0_enterJoined 5 = .ok (.aload_n 0, 1) := by decide +kernel
theorem dX0_enterJoined_6 : decode cX0_enterJoined 6 = .ok (.lload_n 1, 1) := by decide +kernel
theorem dX0_enterJoined_7 : decode cX0_enterJoined 7 = .ok (.lload 4, 2) := by decide +kernel
theorem dX0_enterJoined_9 : decode cX0_enterJoined 9 = .ok (.land, 1) := by decide +kernel
theorem dX0_enterJoined_10 : decode cX0_enterJoined 10 = .ok (.iload 6, 2) := by decide +kernel
theorem dX0_enterJoined_12 : decode cX0_enterJoined 12 = .ok (.iconst 1, 1) := by decide +kernel
theorem dX0_enterJoined_13 : decode cX0_enterJoined 13 = .ok (.invokevirtual 19, 3) := by decide +kernel
theorem dX0_enterJoined_16 : decode cX0_enterJoined 16 = .ok (.iload_n 3, 1) := by decide +kernel
theorem dX0_enterJoined_17 : decode cX0_enterJoined 17 = .ok (.iconst 2, 1) := by decide +kernel
theorem dX0_enterJoined_18 : decode cX0_enterJoined 18 = .ok (.if_icmp .eq 14, 3) := by decide +kernel
theorem dX0_enterJoined_21 : decode cX0_enterJoined 21 = .ok (.aload_n 0, 1) := by decide +kernel
theorem dX0_enterJoined_22 : decode cX0_enterJoined 22 = .ok (.lload_n 1, 1) := by decide +kernel
theorem dX0_enterJoined_23 : decode cX0_enterJoined 23 = .ok (.lload 4, 2) := by decide +kernel
theorem dX0_enterJoined_25 : decode cX0_enterJoined 25 = .ok (.lor, 1) := by decide +kernel
theorem dX0_enterJoined_26 : decode cX0_enterJoined 26 = .ok (.iload 6, 2) := by decide +kernel
theorem dX0_enterJoined_28 : decode cX0_enterJoined 28 = .ok (.iconst 2, 1) := by decide +kernel
theorem dX0_enterJoined_29 : decode cX0_enterJoined 29 = .ok (.invokevirtual 19, 3) := by decide +kernel
theorem dX0_enterJoined_32 : decode cX0_enterJoined 32 = .ok (.return_, 1) := by decide +kernel
theorem dX0_sort_0 : decode cX0_sort 0 = .ok (.getstatic 63, 3) := by decide +kernel
theorem dX0_sort_3 : decode cX0_sort 3 = .ok (.astore_n 1, 1) := by decide +kernel
theorem dX0_sort_4 : decode cX0_sort 4 = .ok (.aload_n 1, 1) := by decide +kernel
theorem dX0_sort_5 : decode cX0_sort 5 = .ok (.arraylength, 1) := by decide +kernel
theorem dX0_sort_6 : decode cX0_sort 6 = .ok (.istore_n 2, 1) := by decide +kernel
theorem dX0_sort_7 : decode cX0_sort 7 = .ok (.iconst 0, 1) := by decide +kernel
theorem dX0_sort_8 : decode cX0_sort 8 = .ok (.istore_n 3, 1) := by decide +kernel
theorem dX0_sort_9 : decode cX0_sort 9 = .ok (.iload_n 3, 1) := by decide +kernel
theorem dX0_sort_10 : decode cX0_sort 10 = .ok (.iload_n 2, 1) := by decide +kernel
theorem dX0_sort_11 : decode cX0_sort 11 = .ok (.if_icmp .ge 41, 3) := by decide +kernel
theorem dX0_sort_14 : decode cX0_sort 14 = .ok (.aload_n 1, 1) := by decide +kernel
theorem dX0_sort_15 : decode cX0_sort 15 = .ok (.iload_n 3, 1) := by decide +kernel
theorem dX0_sort_16 : decode cX0_sort 16 = .ok (.iaload, 1) := by decide +kernel
theorem dX0_sort_17 : decode cX0_sort 17 = .ok (.istore 4, 2) := by decide +kernel
theorem dX0_sort_19 : decode cX0_sort 19 = .ok (.iload 4, 2) := by decide +kernel
theorem dX0_sort_21 : decode cX0_sort 21 = .ok (.istore 5, 2) := by decide +kernel
theorem dX0_sort_23 : decode cX0_sort 23 = .ok (.iload 5, 2) := by decide +kernel
theorem dX0_sort_25 : decode cX0_sort 25 = .ok (.aload_n 0, 1) := by decide +kernel
theorem dX0_sort_26 : decode cX0_sort 26 = .ok (.getfield 15, 3) := by decide +kernel
theorem dX0_sort_29 : decode cX0_sort 29 = .ok (.if_icmp .ge 17, 3) := by decide +kernel
theorem dX0_sort_32 : decode cX0_sort 32 = .ok (.aload_n 0, 1) := by decide +kernel
theorem dX0_sort_33 : decode cX0_sort 33 = .ok (.iload 5, 2) := by decide +kernel
theorem dX0_sort_35 : decode cX0_sort 35 = .ok (.iload 4, 2) := by decide +kernel
theorem dX0_sort_37 : decode cX0_sort 37 = .ok (.invokevirtual 67, 3) := by decide +kernel
theorem dX0_sort_40 : decode cX0_sort 40 = .ok (.iinc 5 1, 3) := by decide +kernel
theorem dX0_sort_43 : decode cX0_sort 43 = .ok (.goto (-20), 3) := by decide +kernel
theorem dX0_sort_46 : decode cX0_sort 46 = .ok (.iinc 3 1, 3) := by decide +kernel
theorem dX0_sort_49 : decode cX0_sort 49 = .ok (.goto (-40), 3) := by decide +kernel
theorem dX0_sort_52 : decode cX0_sort 52 = .ok (.return_, 1) := by decide +kernel
theorem dX0_sink_0 : decode cX0_sink 0 = .ok (.iload_n 2, 1) := by decide +kernel
theorem dX0_sink_1 : decode cX0_sink 1 = .ok (.iconst 1, 1) := by decide +kernel
theorem dX0_sink_2 : decode cX0_sink 2 = .ok (.if_icmp .lt 14, 3) := by decide +kernel
theorem dX0_sink_5 : decode cX0_sink 5 = .ok (.iload_n 1, 1) := by decide +kernel
theorem dX0_sink_6 : decode cX0_sink 6 = .ok (.aload_n 0, 1) := by decide +kernel
theorem dX0_sink_7 : decode cX0_sink 7 = .ok (.getfield 15, 3) := by decide +kernel
theorem dX0_sink_10 : decode cX0_sink 10 = .ok (.invokestatic 32, 3) := by decide +kernel
theorem dX0_sink_13 : decode cX0_sink 13 = .ok (.ifCond .ne 4, 3) := by decide +kernel
theorem dX0_sink_16 : decode cX0_sink 16 = .ok (.return_, 1) := by decide +kernel
theorem dX0_sink_17 : decode cX0_sink 17 = .ok (.aload_n 0, 1) := by decide +kernel
theorem dX0_sink_18 : decode cX0_sink 18 = .ok (.getfield 11, 3) := by decide +kernel
theorem dX0_sink_21 : decode cX0_sink 21 = .ok (.iload_n 1, 1) := by decide +kernel
theorem dX0_sink_22 : decode cX0_sink 22 = .ok (.laload, 1) := by decide +kernel
theorem dX0_sink_23 : decode cX0_sink 23 = .ok (.lstore_n 3, 1) := by decide +kernel
theorem dX0_sink_24 : decode cX0_sink 24 = .ok (.iload_n 1, 1) := by decide +kernel
theorem dX0_sink_25 : decode cX0_sink 25 = .ok (.istore 5, 2) := by decide +kernel
theorem dX0_sink_27 : decode cX0_sink 27 = .ok (.iload 5, 2) := by decide +kernel
theorem dX0_sink_29 : decode cX0_sink 29 = .ok (.iload_n 2, 1) := by decide +kernel
theorem dX0_sink_30 : decode cX0_sink 30 = .ok (.if_icmp .lt 42, 3) := by decide +kernel
theorem dX0_sink_33 : decode cX0_sink 33 = .ok (.aload_n 0, 1) := by decide +kernel
theorem dX0_sink_34 : decode cX0_sink 34 = .ok (.getfield 11, 3) := by decide +kernel
theorem dX0_sink_37 : decode cX0_sink 37 = .ok (.iload 5, 2) := by decide +kernel
theorem dX0_sink_39 : decode cX0_sink 39 = .ok (.iload_n 2, 1) := by decide +kernel
theorem dX0_sink_40 : decode cX0_sink 40 = .ok (.isub, 1) := by decide +kernel
theorem dX0_sink_41 : decode cX0_sink 41 = .ok (.laload, 1) := by decide +kernel
theorem dX0_sink_42 : decode cX0_sink 42 = .ok (.lload_n 3, 1) := by decide +kernel
theorem dX0_sink_43 : decode cX0_sink 43 = .ok (.lcmp, 1) := by decide +kernel
theorem dX0_sink_44 : decode cX0_sink 44 = .ok (.ifCond .le 28, 3) := by decide +kernel
theorem dX0_sink_47 : decode cX0_sink 47 = .ok (.aload_n 0, 1) := by decide +kernel
theorem dX0_sink_48 : decode cX0_sink 48 = .ok (.getfield 11, 3) := by decide +kernel
theorem dX0_sink_51 : decode cX0_sink 51 = .ok (.iload 5, 2) := by decide +kernel
theorem dX0_sink_53 : decode cX0_sink 53 = .ok (.aload_n 0, 1) := by decide +kernel
theorem dX0_sink_54 : decode cX0_sink 54 = .ok (.getfield 11, 3) := by decide +kernel
theorem dX0_sink_57 : decode cX0_sink 57 = .ok (.iload 5, 2) := by decide +kernel
theorem dX0_sink_59 : decode cX0_sink 59 = .ok (.iload_n 2, 1) := by decide +kernel
theorem dX0_sink_60 : decode cX0_sink 60 = .ok (.isub, 1) := by decide +kernel
theorem dX0_sink_61 : decode cX0_sink 61 = .ok (.laload, 1) := by decide +kernel
theorem dX0_sink_62 : decode cX0_sink 62 = .ok (.lastore, 1) := by decide +kernel
theorem dX0_sink_63 : decode cX0_sink 63 = .ok (.iload 5, 2) := by decide +kernel
theorem dX0_sink_65 : decode cX0_sink 65 = .ok (.iload_n 2, 1) := by decide +kernel
theorem dX0_sink_66 : decode cX0_sink 66 = .ok (.isub, 1) := by decide +kernel
theorem dX0_sink_67 : decode cX0_sink 67 = .ok (.istore 5, 2) := by decide +kernel
theorem dX0_sink_69 : decode cX0_sink 69 = .ok (.goto (-42), 3) := by decide +kernel
theorem dX0_sink_72 : decode cX0_sink 72 = .ok (.aload_n 0, 1) := by decide +kernel
theorem dX0_sink_73 : decode cX0_sink 73 = .ok (.getfield 11, 3) := by decide +kernel
theorem dX0_sink_76 : decode cX0_sink 76 = .ok (.iload 5, 2) := by decide +kernel
theorem dX0_sink_78 : decode cX0_sink 78 = .ok (.lload_n 3, 1) := by decide +kernel
theorem dX0_sink_79 : decode cX0_sink 79 = .ok (.lastore, 1) := by decide +kernel
theorem dX0_sink_80 : decode cX0_sink 80 = .ok (.return_, 1) := by decide +kernel
theorem dX1_init_0 : decode cX1_init 0 = .ok (.aload_n 0, 1) := by decide +kernel
theorem dX1_init_1 : decode cX1_init 1 = .ok (.invokespecial 3, 3) := by decide +kernel
theorem dX1_init_4 : decode cX1_init 4 = .ok (.aload_n 0, 1) := by decide +kernel
theorem dX1_init_5 : decode cX1_init 5 = .ok (.bipush 9, 2) := by decide +kernel
theorem dX1_init_7 : decode cX1_init 7 = .ok (.newarray .int, 2) := by decide +kernel
theorem dX1_init_9 : decode cX1_init 9 = .ok (.putfield 11, 3) := by decide +kernel
theorem dX1_init_12 : decode cX1_init 12 = .ok (.aload_n 0, 1) := by decide +kernel
theorem dX1_init_13 : decode cX1_init 13 = .ok (.bipush 9, 2) := by decide +kernel
theorem dX1_init_15 : decode cX1_init 15 = .ok (.newarray .int, 2) := by decide +kernel
theorem dX1_init_17 : decode cX1_init 17 = .ok (.putfield 15, 3) := by decide +kernel
theorem dX1_init_20 : decode cX1_init 20 = .ok (.aload_n 0, 1) := by decide +kernel
theorem dX1_init_21 : decode cX1_init 21 = .ok (.iconst 0, 1) := by decide +kernel
theorem dX1_init_22 : decode cX1_init 22 = .ok (.putfield 18, 3) := by decide +kernel
theorem dX1_init_25 : decode cX1_init 25 = .ok (.return_, 1) := by decide +kernel
theorem dX1_fill_0 : decode cX1_fill 0 = .ok (.aload_n 0, 1) := by decide +kernel
theorem dX1_fill_1 : decode cX1_fill 1 = .ok (.iconst 0, 1) := by decide +kernel
theorem dX1_fill_2 : decode cX1_fill 2 = .ok (.putfield 18, 3) := by decide +kernel
theorem dX1_fill_5 : decode cX1_fill 5 = .ok (.aload_n 1, 1) := by decide +kernel
theorem dX1_fill_6 : decode cX1_fill 6 = .ok (.getfield 22, 3) := by decide +kernel
theorem dX1_fill_9 : decode cX1_fill 9 = .ok (.ifCond .eq 14, 3) := by decide +kernel
theorem dX1_fill_12 : decode cX1_fill 12 = .ok (.aload_n 0, 1) := by decide +kernel
theorem dX1_fill_13 : decode cX1_fill 13 = .ok (.aload_n 1, 1) := by decide +kernel
theorem dX1_fill_14 : decode cX1_fill 14 = .ok (.aload_n 1, 1) := by decide +kernel
theorem dX1_fill_15 : decode cX1_fill 15 = .ok (.getfield 22, 3) := by decide +kernel
theorem dX1_fill_18 : decode cX1_fill 18 = .ok (.iconst (-1), 1) := by decide +kernel
theorem dX1_fill_19 : decode cX1_fill 19 = .ok (.iconst 1, 1) := by decide +kernel
theorem dX1_fill_20 : decode cX1_fill 20 = .ok (.invokevirtual 27, 3) := by decide +kernel
theorem dX1_fill_23 : decode cX1_fill 23 = .ok (.return_, 1) := by decide +kernel
theorem dX1_grow_0 : decode cX1_grow 0 = .ok (.iload 4, 2) := by decide +kernel
theorem dX1_grow_2 : decode cX1_grow 2 = .ok (.iconst 5, 1) := by decide +kernel
theorem dX1_grow_3 : decode cX1_grow 3 = .ok (.if_icmp .gt 12, 3) := by decide +kernel
theorem dX1_grow_6 : decode cX1_grow 6 = .ok (.aload_n 0, 1) := by decide +kernel
theorem dX1_grow_7 : decode cX1_grow 7 = .ok (.getfield 18, 3) := by decide +kernel
theorem dX1_grow_10 : decode cX1_grow 10 = .ok (.bipush 9, 2) := by decide +kernel
theorem dX1_grow_12 : decode cX1_grow 12 = .ok (.if_icmp .lt 4, 3) := by decide +kernel
theorem dX1_grow_15 : decode cX1_grow 15 = .ok (.return_, 1) := by decide +kernel
theorem dX1_grow_16 : decode cX1_grow 16 = .ok (.aload_n 0, 1) := by decide +kernel
theorem dX1_grow_17 : decode cX1_grow 17 = .ok (.getfield 18, 3) := by decide +kernel
theorem dX1_grow_20 : decode cX1_grow 20 = .ok (.istore 5, 2) := by decide +kernel
theorem dX1_grow_22 : decode cX1_grow 22 = .ok (.aload_n 0, 1) := by decide +kernel
theorem dX1_grow_23 : decode cX1_grow 23 = .ok (.dup, 1) := by decide +kernel
theorem dX1_grow_24 : decode cX1_grow 24 = .ok (.getfield 18, 3) := by decide +kernel
theorem dX1_grow_27 : decode cX1_grow 27 = .ok (.iconst 1, 1) := by decide +kernel
theorem dX1_grow_28 : decode cX1_grow 28 = .ok (.iadd, 1) := by decide +kernel
theorem dX1_grow_29 : decode cX1_grow 29 = .ok (.putfield 18, 3) := by decide +kernel
theorem dX1_grow_32 : decode cX1_grow 32 = .ok (.aload_n 0, 1) := by decide +kernel
theorem dX1_grow_33 : decode cX1_grow 33 = .ok (.getfield 15, 3) := by decide +kernel
theorem dX1_grow_36 : decode cX1_grow 36 = .ok (.iload 5, 2) := by decide +kernel
theorem dX1_grow_38 : decode cX1_grow 38 = .ok (.iload_n 3, 1) := by decide +kernel
theorem dX1_grow_39 : decode cX1_grow 39 = .ok (.iastore, 1) := by decide +kernel
theorem dX1_grow_40 : decode cX1_grow 40 = .ok (.iload_n 2, 1) := by decide +kernel
theorem dX1_grow_41 : decode cX1_grow 41 = .ok (.invokestatic 31, 3) := by decide +kernel
theorem dX1_grow_44 : decode cX1_grow 44 = .ok (.iconst 1, 1) := by decide +kernel
theorem dX1_grow_45 : decode cX1_grow 45 = .ok (.if_icmp .ne 15, 3) := by decide +kernel
theorem dX1_grow_48 : decode cX1_grow 48 = .ok (.aload_n 0, 1) := by decide +kernel
theorem dX1_grow_49 : decode cX1_grow 49 = .ok (.getfield 11, 3) := by decide +kernel
theorem dX1_grow_52 : decode cX1_grow 52 = .ok (.iload 5, 2) := by decide +kernel
theorem dX1_grow_54 : decode cX1_grow 54 = .ok (.iload_n 2, 1) := by decide +kernel
theorem dX1_grow_55 : decode cX1_grow 55 = .ok (.invokestatic 37, 3) := by decide +kernel
theorem dX1_grow_58 : decode cX1_grow 58 = .ok (.iastore, 1) := by decide +kernel
theorem dX1_grow_59 : decode cX1_grow 59 = .ok (.return_, 1) := by decide +kernel
theorem dX1_grow_60 : decode cX1_grow 60 = .ok (.aload_n 1, 1) := by decide +kernel
theorem dX1_grow_61 : decode cX1_grow 61 = .ok (.iload_n 2, 1) := by decide +kernel
theorem dX1_grow_62 : decode cX1_grow 62 = .ok (.iload_n 2, 1) := by decide +kernel
theorem dX1_grow_63 : decode cX1_grow 63 = .ok (.iconst 0, 1) := by decide +kernel
theorem dX1_grow_64 : decode cX1_grow 64 = .ok (.invokestatic 40, 3) := by decide +kernel
theorem dX1_grow_67 : decode cX1_grow 67 = .ok (.iload_n 2, 1) := by decide +kernel
theorem dX1_grow_68 : decode cX1_grow 68 = .ok (.if_icmp .ne 7, 3) := by decide +kernel
theorem dX1_grow_71 : decode cX1_grow 71 = .ok (.iconst 1, 1) := by decide +kernel
theorem dX1_grow_72 : decode cX1_grow 72 = .ok (.goto 4, 3) := by decide +kernel
theorem dX1_grow_75 : decode cX1_grow 75 = .ok (.iconst 0, 1) := by decide +kernel
theorem dX1_grow_76 : decode cX1_grow 76 = .ok (.istore 6, 2) := by decide +kernel
theorem dX1_grow_78 : decode cX1_grow 78 = .ok (.aload_n 0, 1) := by decide +kernel
theorem dX1_grow_79 : decode cX1_grow 79 = .ok (.getfield 11, 3) := by decide +kernel
theorem dX1_grow_82 : decode cX1_grow 82 = .ok (.iload 5, 2) := by decide +kernel
theorem dX1_grow_84 : decode cX1_grow 84 = .ok (.iload 6, 2) := by decide +kernel
theorem dX1_grow_86 : decode cX1_grow 86 = .ok (.ifCond .eq 8, 3) := by decide +kernel
theorem dX1_grow_89 : decode cX1_grow 89 = .ok (.bipush 10, 2) := by decide +kernel
theorem dX1_grow_91 : decode cX1_grow 91 = .ok (.goto 5, 3) := by decide +kernel
theorem dX1_grow_94 : decode cX1_grow 94 = .ok (.bipush 11, 2) := by decide +kernel
theorem dX1_grow_96 : decode cX1_grow 96 = .ok (.iastore, 1) := by decide +kernel
theorem dX1_grow_97 : decode cX1_grow 97 = .ok (.aload_n 0, 1) := by decide +kernel
theorem dX1_grow_98 : decode cX1_grow 98 = .ok (.aload_n 1, 1) := by decide +kernel
theorem dX1_grow_99 : decode cX1_grow 99 = .ok (.iload_n 2, 1) := by decide +kernel
theorem dX1_grow_100 : decode cX1_grow 100 = .ok (.iload 5, 2) := by decide +kernel
theorem dX1_grow_102 : decode cX1_grow 102 = .ok (.iload 4, 2) := by decide +kernel
theorem dX1_grow_104 : decode cX1_grow 104 = .ok (.iconst 1, 1) := by decide +kernel
theorem dX1_grow_105 : decode cX1_grow 105 = .ok (.iadd, 1) := by decide +kernel
theorem dX1_grow_106 : decode cX1_grow 106 = .ok (.invokevirtual 44, 3) := by decide +kernel
theorem dX1_grow_109 : decode cX1_grow 109 = .ok (.return_, 1) := by decide +kernel
theorem dX1_growChildren_0 : decode cX1_growChildren 0 = .ok (.iload_n 2, 1) := by decide +kernel
theorem dX1_growChildren_1 : decode cX1_growChildren 1 = .ok (.istore 5, 2) := by decide +kernel
theorem dX1_growChildren_3 : decode cX1_growChildren 3 = .ok (.iconst 0, 1) := by decide +kernel
theorem dX1_growChildren_4 : decode cX1_growChildren 4 = .ok (.istore 6, 2) := by decide +kernel
theorem dX1_growChildren_6 : decode cX1_growChildren 6 = .ok (.iload 6, 2) := by decide +kernel
theorem dX1_growChildren_8 : decode cX1_growChildren 8 = .ok (.iconst 5, 1) := by decide +kernel
theorem dX1_growChildren_9 : decode cX1_growChildren 9 = .ok (.if_icmp .ge 58, 3) := by decide +kernel
theorem dX1_growChildren_12 : decode cX1_growChildren 12 = .ok (.iload 5, 2) := by decide +kernel
theorem dX1_growChildren_14 : decode cX1_growChildren 14 = .ok (.ifCond .eq 53, 3) := by decide +kernel
theorem dX1_growChildren_17 : decode cX1_growChildren 17 = .ok (.aload_n 1, 1) := by decide +kernel
theorem dX1_growChildren_18 : decode cX1_growChildren 18 = .ok (.iload_n 2, 1) := by decide +kernel
theorem dX1_growChildren_19 : decode cX1_growChildren 19 = .ok (.iload 5, 2) := by decide +kernel
theorem dX1_growChildren_21 : decode cX1_growChildren 21 = .ok (.aload_n 0, 1) := by decide +kernel
theorem dX1_growChildren_22 : decode cX1_growChildren 22 = .ok (.getfield 11, 3) := by decide +kernel
theorem dX1_growChildren_25 : decode cX1_growChildren 25 = .ok (.iload_n 3, 1) := by decide +kernel
theorem dX1_growChildren_26 : decode cX1_growChildren 26 = .ok (.iaload, 1) := by decide +kernel
theorem dX1_growChildren_27 : decode cX1_growChildren 27 = .ok (.bipush 10, 2) := by decide +kernel
theorem dX1_growChildren_29 : decode cX1_growChildren 29 = .ok (.if_icmp .ne 7, 3) := by decide +kernel
theorem dX1_growChildren_32 : decode cX1_growChildren 32 = .ok (.iconst 1, 1) := by decide +kernel
theorem dX1_growChildren_33 : decode cX1_growChildren 33 = .ok (.goto 4, 3) := by decide +kernel
theorem dX1_growChildren_36 : decode cX1_growChildren 36 = .ok (.iconst 0, 1) := by decide +kernel
theorem dX1_growChildren_37 : decode cX1_growChildren 37 = .ok (.invokestatic 40, 3) := by decide +kernel
theorem dX1_growChildren_40 : decode cX1_growChildren 40 = .ok (.istore 7, 2) := by decide +kernel
theorem dX1_growChildren_42 : decode cX1_growChildren 42 = .ok (.aload_n 0, 1) := by decide +kernel
theorem dX1_growChildren_43 : decode cX1_growChildren 43 = .ok (.aload_n 1, 1) := by decide +kernel
theorem dX1_growChildren_44 : decode cX1_growChildren 44 = .ok (.iload 7, 2) := by decide +kernel
theorem dX1_growChildren_46 : decode cX1_growChildren 46 = .ok (.iload_n 3, 1) := by decide +kernel
theorem dX1_growChildren_47 : decode cX1_growChildren 47 = .ok (.iload 4, 2) := by decide +kernel
theorem dX1_growChildren_49 : decode cX1_growChildren 49 = .ok (.invokevirtual 27, 3) := by decide +kernel
theorem dX1_growChildren_52 : decode cX1_growChildren 52 = .ok (.iload 5, 2) := by decide +kernel
theorem dX1_growChildren_54 : decode cX1_growChildren 54 = .ok (.iload 7, 2) := by decide +kernel
theorem dX1_growChildren_56 : decode cX1_growChildren 56 = .ok (.iconst (-1), 1) := by decide +kernel
theorem dX1_growChildren_57 : decode cX1_growChildren 57 = .ok (.ixor, 1) := by decide +kernel
theorem dX1_growChildren_58 : decode cX1_growChildren 58 = .ok (.iand, 1) := by decide +kernel
theorem dX1_growChildren_59 : decode cX1_growChildren 59 = .ok (.istore 5, 2) := by decide +kernel
theorem dX1_growChildren_61 : decode cX1_growChildren 61 = .ok (.iinc 6 1, 3) := by decide +kernel
theorem dX1_growChildren_64 : decode cX1_growChildren 64 = .ok (.goto (-58), 3) := by decide +kernel
theorem dX1_growChildren_67 : decode cX1_growChildren 67 = .ok (.return_, 1) := by decide +kernel
theorem dX1_component_0 : decode cX1_component 0 = .ok (.iload_n 2, 1) := by decide +kernel
theorem dX1_component_1 : decode cX1_component 1 = .ok (.iload_n 2, 1) := by decide +kernel
theorem dX1_component_2 : decode cX1_component 2 = .ok (.ineg, 1) := by decide +kernel
theorem dX1_component_3 : decode cX1_component 3 = .ok (.iand, 1) := by decide +kernel
theorem dX1_component_4 : decode cX1_component 4 = .ok (.istore 4, 2) := by decide +kernel
theorem dX1_component_6 : decode cX1_component 6 = .ok (.iconst 0, 1) := by decide +kernel
theorem dX1_component_7 : decode cX1_component 7 = .ok (.istore 5, 2) := by decide +kernel
theorem dX1_component_9 : decode cX1_component 9 = .ok (.iload 5, 2) := by decide +kernel
theorem dX1_component_11 : decode cX1_component 11 = .ok (.iconst 5, 1) := by decide +kernel
theorem dX1_component_12 : decode cX1_component 12 = .ok (.if_icmp .ge 63, 3) := by decide +kernel
theorem dX1_component_15 : decode cX1_component 15 = .ok (.iconst 0, 1) := by decide +kernel
theorem dX1_component_16 : decode cX1_component 16 = .ok (.istore 6, 2) := by decide +kernel
theorem dX1_component_18 : decode cX1_component 18 = .ok (.iload 6, 2) := by decide +kernel
theorem dX1_component_20 : decode cX1_component 20 = .ok (.iconst 5, 1) := by decide +kernel
theorem dX1_component_21 : decode cX1_component 21 = .ok (.if_icmp .ge 48, 3) := by decide +kernel
theorem dX1_component_24 : decode cX1_component 24 = .ok (.iload 4, 2) := by decide +kernel
theorem dX1_component_26 : decode cX1_component 26 = .ok (.iload 6, 2) := by decide +kernel
theorem dX1_component_28 : decode cX1_component 28 = .ok (.invokestatic 47, 3) := by decide +kernel
theorem dX1_component_31 : decode cX1_component 31 = .ok (.ifCond .eq 32, 3) := by decide +kernel
theorem dX1_component_34 : decode cX1_component 34 = .ok (.aload_n 0, 1) := by decide +kernel
theorem dX1_component_35 : decode cX1_component 35 = .ok (.getfield 51, 3) := by decide +kernel
theorem dX1_component_38 : decode cX1_component 38 = .ok (.iload 6, 2) := by decide +kernel
theorem dX1_component_40 : decode cX1_component 40 = .ok (.iaload, 1) := by decide +kernel
theorem dX1_component_41 : decode cX1_component 41 = .ok (.istore 7, 2) := by decide +kernel
theorem dX1_component_43 : decode cX1_component 43 = .ok (.iload 4, 2) := by decide +kernel
theorem dX1_component_45 : decode cX1_component 45 = .ok (.iload_n 1, 1) := by decide +kernel
theorem dX1_component_46 : decode cX1_component 46 = .ok (.iload_n 3, 1) := by decide +kernel
theorem dX1_component_47 : decode cX1_component 47 = .ok (.ifCond .eq 10, 3) := by decide +kernel
theorem dX1_component_50 : decode cX1_component 50 = .ok (.iload 7, 2) := by decide +kernel
theorem dX1_component_52 : decode cX1_component 52 = .ok (.iconst (-1), 1) := by decide +kernel
theorem dX1_component_53 : decode cX1_component 53 = .ok (.ixor, 1) := by decide +kernel
theorem dX1_component_54 : decode cX1_component 54 = .ok (.goto 5, 3) := by decide +kernel
theorem dX1_component_57 : decode cX1_component 57 = .ok (.iload 7, 2) := by decide +kernel
theorem dX1_component_59 : decode cX1_component 59 = .ok (.iand, 1) := by decide +kernel
theorem dX1_component_60 : decode cX1_component 60 = .ok (.ior, 1) := by decide +kernel
theorem dX1_component_61 : decode cX1_component 61 = .ok (.istore 4, 2) := by decide +kernel
theorem dX1_component_63 : decode cX1_component 63 = .ok (.iinc 6 1, 3) := by decide +kernel
theorem dX1_component_66 : decode cX1_component 66 = .ok (.goto (-48), 3) := by decide +kernel
theorem dX1_component_69 : decode cX1_component 69 = .ok (.iinc 5 1, 3) := by decide +kernel
theorem dX1_component_72 : decode cX1_component 72 = .ok (.goto (-63), 3) := by decide +kernel
theorem dX1_component_75 : decode cX1_component 75 = .ok (.iload 4, 2) := by decide +kernel
theorem dX1_component_77 : decode cX1_component 77 = .ok (.ireturn, 1) := by decide +kernel
theorem dX1_has_0 : decode cX1_has 0 = .ok (.iload_n 1, 1) := by decide +kernel
theorem dX1_has_1 : decode cX1_has 1 = .ok (.aload_n 0, 1) := by decide +kernel
theorem dX1_has_2 : decode cX1_has 2 = .ok (.getfield 18, 3) := by decide +kernel
theorem dX1_has_5 : decode cX1_has 5 = .ok (.invokestatic 54, 3) := by decide +kernel
theorem dX1_has_8 : decode cX1_has 8 = .ok (.ireturn, 1) := by decide +kernel
theorem dX1_depthOfLeaf_0 : decode cX1_depthOfLeaf 0 = .ok (.iconst 0, 1) := by decide +kernel
theorem dX1_depthOfLeaf_1 : decode cX1_depthOfLeaf 1 = .ok (.istore_n 2, 1) := by decide +kernel
theorem dX1_depthOfLeaf_2 : decode cX1_depthOfLeaf 2 = .ok (.iload_n 2, 1) := by decide +kernel
theorem dX1_depthOfLeaf_3 : decode cX1_depthOfLeaf 3 = .ok (.aload_n 0, 1) := by decide +kernel
theorem dX1_depthOfLeaf_4 : decode cX1_depthOfLeaf 4 = .ok (.getfield 18, 3) := by decide +kernel
theorem dX1_depthOfLeaf_7 : decode cX1_depthOfLeaf 7 = .ok (.if_icmp .ge 25, 3) := by decide +kernel
theorem dX1_depthOfLeaf_10 : decode cX1_depthOfLeaf 10 = .ok (.aload_n 0, 1) := by decide +kernel
theorem dX1_depthOfLeaf_11 : decode cX1_depthOfLeaf 11 = .ok (.getfield 11, 3) := by decide +kernel
theorem dX1_depthOfLeaf_14 : decode cX1_depthOfLeaf 14 = .ok (.iload_n 2, 1) := by decide +kernel
theorem dX1_depthOfLeaf_15 : decode cX1_depthOfLeaf 15 = .ok (.iaload, 1) := by decide +kernel
theorem dX1_depthOfLeaf_16 : decode cX1_depthOfLeaf 16 = .ok (.iload_n 1, 1) := by decide +kernel
theorem dX1_depthOfLeaf_17 : decode cX1_depthOfLeaf 17 = .ok (.if_icmp .ne 9, 3) := by decide +kernel
theorem dX1_depthOfLeaf_20 : decode cX1_depthOfLeaf 20 = .ok (.aload_n 0, 1) := by decide +kernel
theorem dX1_depthOfLeaf_21 : decode cX1_depthOfLeaf 21 = .ok (.iload_n 2, 1) := by decide +kernel
theorem dX1_depthOfLeaf_22 : decode cX1_depthOfLeaf 22 = .ok (.invokevirtual 57, 3) := by decide +kernel
theorem dX1_depthOfLeaf_25 : decode cX1_depthOfLeaf 25 = .ok (.ireturn, 1) := by decide +kernel
theorem dX1_depthOfLeaf_26 : decode cX1_depthOfLeaf 26 = .ok (.iinc 2 1, 3) := by decide +kernel
theorem dX1_depthOfLeaf_29 : decode cX1_depthOfLeaf 29 = .ok (.goto (-27), 3) := by decide +kernel
theorem dX1_depthOfLeaf_32 : decode cX1_depthOfLeaf 32 = .ok (.iconst (-1), 1) := by decide +kernel
theorem dX1_depthOfLeaf_33 : decode cX1_depthOfLeaf 33 = .ok (.ireturn, 1) := by decide +kernel
theorem dX1_depthOfNode_0 : decode cX1_depthOfNode 0 = .ok (.iconst 0, 1) := by decide +kernel
theorem dX1_depthOfNode_1 : decode cX1_depthOfNode 1 = .ok (.istore_n 2, 1) := by decide +kernel
theorem dX1_depthOfNode_2 : decode cX1_depthOfNode 2 = .ok (.iload_n 1, 1) := by decide +kernel
theorem dX1_depthOfNode_3 : decode cX1_depthOfNode 3 = .ok (.istore_n 3, 1) := by decide +kernel
theorem dX1_depthOfNode_4 : decode cX1_depthOfNode 4 = .ok (.iload_n 2, 1) := by decide +kernel
theorem dX1_depthOfNode_5 : decode cX1_depthOfNode 5 = .ok (.bipush 9, 2) := by decide +kernel
theorem dX1_depthOfNode_7 : decode cX1_depthOfNode 7 = .ok (.if_icmp .ge 24, 3) := by decide +kernel
theorem dX1_depthOfNode_10 : decode cX1_depthOfNode 10 = .ok (.aload_n 0, 1) := by decide +kernel
theorem dX1_depthOfNode_11 : decode cX1_depthOfNode 11 = .ok (.iload_n 3, 1) := by decide +kernel
theorem dX1_depthOfNode_12 : decode cX1_depthOfNode 12 = .ok (.invokevirtual 60, 3) := by decide +kernel
theorem dX1_depthOfNode_15 : decode cX1_depthOfNode 15 = .ok (.ifCond .eq 16, 3) := by decide +kernel
theorem dX1_depthOfNode_18 : decode cX1_depthOfNode 18 = .ok (.iinc 2 1, 3) := by decide +kernel
theorem dX1_depthOfNode_21 : decode cX1_depthOfNode 21 = .ok (.aload_n 0, 1) := by decide +kernel
theorem dX1_depthOfNode_22 : decode cX1_depthOfNode 22 = .ok (.getfield 15, 3) := by decide +kernel
theorem dX1_depthOfNode_25 : decode cX1_depthOfNode 25 = .ok (.iload_n 3, 1) := by decide +kernel
theorem dX1_depthOfNode_26 : decode cX1_depthOfNode 26 = .ok (.iaload, 1) := by decide +kernel
theorem dX1_depthOfNode_27 : decode cX1_depthOfNode 27 = .ok (.istore_n 3, 1) := by decide +kernel
theorem dX1_depthOfNode_28 : decode cX1_depthOfNode 28 = .ok (.goto (-24), 3) := by decide +kernel
theorem dX1_depthOfNode_31 : decode cX1_depthOfNode 31 = .ok (.iload_n 2, 1) := by decide +kernel
theorem dX1_depthOfNode_32 : decode cX1_depthOfNode 32 = .ok (.ireturn, 1) := by decide +kernel
theorem dX2_init_0 : decode cX2_init 0 = .ok (.aload_n 0, 1) := by decide +kernel
theorem dX2_init_1 : decode cX2_init 1 = .ok (.invokespecial 3, 3) := by decide +kernel
theorem dX2_init_4 : decode cX2_init 4 = .ok (.aload_n 0, 1) := by decide +kernel
theorem dX2_init_5 : decode cX2_init 5 = .ok (.bipush 16, 2) := by decide +kernel
theorem dX2_init_7 : decode cX2_init 7 = .ok (.newarray .int, 2) := by decide +kernel
theorem dX2_init_9 : decode cX2_init 9 = .ok (.putfield 11, 3) := by decide +kernel
theorem dX2_init_12 : decode cX2_init 12 = .ok (.aload_n 0, 1) := by decide +kernel
theorem dX2_init_13 : decode cX2_init 13 = .ok (.iconst 0, 1) := by decide +kernel
theorem dX2_init_14 : decode cX2_init 14 = .ok (.putfield 15, 3) := by decide +kernel
theorem dX2_init_17 : decode cX2_init 17 = .ok (.return_, 1) := by decide +kernel
theorem dX2_put_0 : decode cX2_put 0 = .ok (.aload_n 0, 1) := by decide +kernel
theorem dX2_put_1 : decode cX2_put 1 = .ok (.getfield 15, 3) := by decide +kernel
theorem dX2_put_4 : decode cX2_put 4 = .ok (.bipush 16, 2) := by decide +kernel
theorem dX2_put_6 : decode cX2_put 6 = .ok (.if_icmp .ge 23, 3) := by decide +kernel
theorem dX2_put_9 : decode cX2_put 9 = .ok (.aload_n 0, 1) := by decide +kernel
theorem dX2_put_10 : decode cX2_put 10 = .ok (.getfield 11, 3) := by decide +kernel
theorem dX2_put_13 : decode cX2_put 13 = .ok (.aload_n 0, 1) := by decide +kernel
theorem dX2_put_14 : decode cX2_put 14 = .ok (.getfield 15, 3) := by decide +kernel
theorem dX2_put_17 : decode cX2_put 17 = .ok (.iload_n 1, 1) := by decide +kernel
theorem dX2_put_18 : decode cX2_put 18 = .ok (.iastore, 1) := by decide +kernel
theorem dX2_put_19 : decode cX2_put 19 = .ok (.aload_n 0, 1) := by decide +kernel
theorem dX2_put_20 : decode cX2_put 20 = .ok (.dup, 1) := by decide +kernel
theorem dX2_put_21 : decode cX2_put 21 = .ok (.getfield 15, 3) := by decide +kernel
theorem dX2_put_24 : decode cX2_put 24 = .ok (.iconst 1, 1) := by decide +kernel
theorem dX2_put_25 : decode cX2_put 25 = .ok (.iadd, 1) := by decide +kernel
theorem dX2_put_26 : decode cX2_put 26 = .ok (.putfield 15, 3) := by decide +kernel
theorem dX2_put_29 : decode cX2_put 29 = .ok (.return_, 1) := by decide +kernel
theorem dX2_putTree_0 : decode cX2_putTree 0 = .ok (.aload_n 0, 1) := by decide +kernel
theorem dX2_putTree_1 : decode cX2_putTree 1 = .ok (.aload_n 1, 1) := by decide +kernel
theorem dX2_putTree_2 : decode cX2_putTree 2 = .ok (.iconst 0, 1) := by decide +kernel
theorem dX2_putTree_3 : decode cX2_putTree 3 = .ok (.iconst 1, 1) := by decide +kernel
theorem dX2_putTree_4 : decode cX2_putTree 4 = .ok (.invokevirtual 19, 3) := by decide +kernel
theorem dX2_putTree_7 : decode cX2_putTree 7 = .ok (.return_, 1) := by decide +kernel
theorem dX2_putNode_0 : decode cX2_putNode 0 = .ok (.iload_n 3, 1) := by decide +kernel
theorem dX2_putNode_1 : decode cX2_putNode 1 = .ok (.iconst 5, 1) := by decide +kernel
theorem dX2_putNode_2 : decode cX2_putNode 2 = .ok (.if_icmp .gt 11, 3) := by decide +kernel
theorem dX2_putNode_5 : decode cX2_putNode 5 = .ok (.aload_n 1, 1) := by decide +kernel
theorem dX2_putNode_6 : decode cX2_putNode 6 = .ok (.iload_n 2, 1) := by decide +kernel
theorem dX2_putNode_7 : decode cX2_putNode 7 = .ok (.invokevirtual 23, 3) := by decide +kernel
theorem dX2_putNode_10 : decode cX2_putNode 10 = .ok (.ifCond .ne 4, 3) := by decide +kernel
theorem dX2_putNode_13 : decode cX2_putNode 13 = .ok (.return_, 1) := by decide +kernel
theorem dX2_putNode_14 : decode cX2_putNode 14 = .ok (.aload_n 1, 1) := by decide +kernel
theorem dX2_putNode_15 : decode cX2_putNode 15 = .ok (.getfield 29, 3) := by decide +kernel
theorem dX2_putNode_18 : decode cX2_putNode 18 = .ok (.iload_n 2, 1) := by decide +kernel
theorem dX2_putNode_19 : decode cX2_putNode 19 = .ok (.iaload, 1) := by decide +kernel
theorem dX2_putNode_20 : decode cX2_putNode 20 = .ok (.istore 4, 2) := by decide +kernel
theorem dX2_putNode_22 : decode cX2_putNode 22 = .ok (.iload 4, 2) := by decide +kernel
theorem dX2_putNode_24 : decode cX2_putNode 24 = .ok (.bipush 10, 2) := by decide +kernel
theorem dX2_putNode_26 : decode cX2_putNode 26 = .ok (.if_icmp .ge 13, 3) := by decide +kernel
theorem dX2_putNode_29 : decode cX2_putNode 29 = .ok (.aload_n 0, 1) := by decide +kernel
theorem dX2_putNode_30 : decode cX2_putNode 30 = .ok (.bipush 97, 2) := by decide +kernel
theorem dX2_putNode_32 : decode cX2_putNode 32 = .ok (.iload 4, 2) := by decide +kernel
theorem dX2_putNode_34 : decode cX2_putNode 34 = .ok (.iadd, 1) := by decide +kernel
theorem dX2_putNode_35 : decode cX2_putNode 35 = .ok (.invokevirtual 32, 3) := by decide +kernel
theorem dX2_putNode_38 : decode cX2_putNode 38 = .ok (.return_, 1) := by decide +kernel
theorem dX2_putNode_39 : decode cX2_putNode 39 = .ok (.iconst 1, 1) := by decide +kernel
theorem dX2_putNode_40 : decode cX2_putNode 40 = .ok (.istore 5, 2) := by decide +kernel
theorem dX2_putNode_42 : decode cX2_putNode 42 = .ok (.iload_n 2, 1) := by decide +kernel
theorem dX2_putNode_43 : decode cX2_putNode 43 = .ok (.iconst 1, 1) := by decide +kernel
theorem dX2_putNode_44 : decode cX2_putNode 44 = .ok (.iadd, 1) := by decide +kernel
theorem dX2_putNode_45 : decode cX2_putNode 45 = .ok (.istore 6, 2) := by decide +kernel
theorem dX2_putNode_47 : decode cX2_putNode 47 = .ok (.iload 6, 2) := by decide +kernel
theorem dX2_putNode_49 : decode cX2_putNode 49 = .ok (.aload_n 1, 1) := by decide +kernel
theorem dX2_putNode_50 : decode cX2_putNode 50 = .ok (.getfield 36, 3) := by decide +kernel
theorem dX2_putNode_53 : decode cX2_putNode 53 = .ok (.if_icmp .ge 56, 3) := by decide +kernel
theorem dX2_putNode_56 : decode cX2_putNode 56 = .ok (.aload_n 1, 1) := by decide +kernel
theorem dX2_putNode_57 : decode cX2_putNode 57 = .ok (.getfield 39, 3) := by decide +kernel
theorem dX2_putNode_60 : decode cX2_putNode 60 = .ok (.iload 6, 2) := by decide +kernel
theorem dX2_putNode_62 : decode cX2_putNode 62 = .ok (.iaload, 1) := by decide +kernel
theorem dX2_putNode_63 : decode cX2_putNode 63 = .ok (.iload_n 2, 1) := by decide +kernel
theorem dX2_putNode_64 : decode cX2_putNode 64 = .ok (.if_icmp .ne 39, 3) := by decide +kernel
theorem dX2_putNode_67 : decode cX2_putNode 67 = .ok (.iload 5, 2) := by decide +kernel
theorem dX2_putNode_69 : decode cX2_putNode 69 = .ok (.ifCond .ne 21, 3) := by decide +kernel
theorem dX2_putNode_72 : decode cX2_putNode 72 = .ok (.aload_n 0, 1) := by decide +kernel
theorem dX2_putNode_73 : decode cX2_putNode 73 = .ok (.iload 4, 2) := by decide +kernel
theorem dX2_putNode_75 : decode cX2_putNode 75 = .ok (.bipush 10, 2) := by decide +kernel
theorem dX2_putNode_77 : decode cX2_putNode 77 = .ok (.if_icmp .ne 8, 3) := by decide +kernel
theorem dX2_putNode_80 : decode cX2_putNode 80 = .ok (.bipush 42, 2) := by decide +kernel
theorem dX2_putNode_82 : decode cX2_putNode 82 = .ok (.goto 5, 3) := by decide +kernel
theorem dX2_putNode_85 : decode cX2_putNode 85 = .ok (.bipush 43, 2) := by decide +kernel
theorem dX2_putNode_87 : decode cX2_putNode 87 = .ok (.invokevirtual 32, 3) := by decide +kernel
theorem dX2_putNode_90 : decode cX2_putNode 90 = .ok (.iconst 0, 1) := by decide +kernel
theorem dX2_putNode_91 : decode cX2_putNode 91 = .ok (.istore 5, 2) := by decide +kernel
theorem dX2_putNode_93 : decode cX2_putNode 93 = .ok (.aload_n 0, 1) := by decide +kernel
theorem dX2_putNode_94 : decode cX2_putNode 94 = .ok (.aload_n 1, 1) := by decide +kernel
theorem dX2_putNode_95 : decode cX2_putNode 95 = .ok (.iload 6, 2) := by decide +kernel
theorem dX2_putNode_97 : decode cX2_putNode 97 = .ok (.iload_n 3, 1) := by decide +kernel
theorem dX2_putNode_98 : decode cX2_putNode 98 = .ok (.iconst 1, 1) := by decide +kernel
theorem dX2_putNode_99 : decode cX2_putNode 99 = .ok (.iadd, 1) := by decide +kernel
theorem dX2_putNode_100 : decode cX2_putNode 100 = .ok (.invokevirtual 42, 3) := by decide +kernel
theorem dX2_putNode_103 : decode cX2_putNode 103 = .ok (.iinc 6 1, 3) := by decide +kernel
theorem dX2_putNode_106 : decode cX2_putNode 106 = .ok (.goto (-59), 3) := by decide +kernel
theorem dX2_putNode_109 : decode cX2_putNode 109 = .ok (.return_, 1) := by decide +kernel
theorem dX2_putChild_0 : decode cX2_putChild 0 = .ok (.aload_n 1, 1) := by decide +kernel
theorem dX2_putChild_1 : decode cX2_putChild 1 = .ok (.getfield 29, 3) := by decide +kernel
theorem dX2_putChild_4 : decode cX2_putChild 4 = .ok (.iload_n 2, 1) := by decide +kernel
theorem dX2_putChild_5 : decode cX2_putChild 5 = .ok (.iaload, 1) := by decide +kernel
theorem dX2_putChild_6 : decode cX2_putChild 6 = .ok (.bipush 11, 2) := by decide +kernel
theorem dX2_putChild_8 : decode cX2_putChild 8 = .ok (.if_icmp .ne 7, 3) := by decide +kernel
theorem dX2_putChild_11 : decode cX2_putChild 11 = .ok (.iconst 1, 1) := by decide +kernel
theorem dX2_putChild_12 : decode cX2_putChild 12 = .ok (.goto 4, 3) := by decide +kernel
theorem dX2_putChild_15 : decode cX2_putChild 15 = .ok (.iconst 0, 1) := by decide +kernel
theorem dX2_putChild_16 : decode cX2_putChild 16 = .ok (.istore 4, 2) := by decide +kernel
theorem dX2_putChild_18 : decode cX2_putChild 18 = .ok (.iload 4, 2) := by decide +kernel
theorem dX2_putChild_20 : decode cX2_putChild 20 = .ok (.ifCond .eq 9, 3) := by decide +kernel
theorem dX2_putChild_23 : decode cX2_putChild 23 = .ok (.aload_n 0, 1) := by decide +kernel
theorem dX2_putChild_24 : decode cX2_putChild 24 = .ok (.bipush 40, 2) := by decide +kernel
theorem dX2_putChild_26 : decode cX2_putChild 26 = .ok (.invokevirtual 32, 3) := by decide +kernel
theorem dX2_putChild_29 : decode cX2_putChild 29 = .ok (.aload_n 0, 1) := by decide +kernel
theorem dX2_putChild_30 : decode cX2_putChild 30 = .ok (.aload_n 1, 1) := by decide +kernel
theorem dX2_putChild_31 : decode cX2_putChild 31 = .ok (.iload_n 2, 1) := by decide +kernel
theorem dX2_putChild_32 : decode cX2_putChild 32 = .ok (.iload_n 3, 1) := by decide +kernel
theorem dX2_putChild_33 : decode cX2_putChild 33 = .ok (.invokevirtual 19, 3) := by decide +kernel
theorem dX2_putChild_36 : decode cX2_putChild 36 = .ok (.iload 4, 2) := by decide +kernel
theorem dX2_putChild_38 : decode cX2_putChild 38 = .ok (.ifCond .eq 9, 3) := by decide +kernel
theorem dX2_putChild_41 : decode cX2_putChild 41 = .ok (.aload_n 0, 1) := by decide +kernel
theorem dX2_putChild_42 : decode cX2_putChild 42 = .ok (.bipush 41, 2) := by decide +kernel
theorem dX2_putChild_44 : decode cX2_putChild 44 = .ok (.invokevirtual 32, 3) := by decide +kernel
theorem dX2_putChild_47 : decode cX2_putChild 47 = .ok (.return_, 1) := by decide +kernel
theorem dX3_init_0 : decode cX3_init 0 = .ok (.aload_n 0, 1) := by decide +kernel
theorem dX3_init_1 : decode cX3_init 1 = .ok (.invokespecial 3, 3) := by decide +kernel
theorem dX3_init_4 : decode cX3_init 4 = .ok (.aload_n 0, 1) := by decide +kernel
theorem dX3_init_5 : decode cX3_init 5 = .ok (.bipush 32, 2) := by decide +kernel
theorem dX3_init_7 : decode cX3_init 7 = .ok (.newarray .int, 2) := by decide +kernel
theorem dX3_init_9 : decode cX3_init 9 = .ok (.putfield 9, 3) := by decide +kernel
theorem dX3_init_12 : decode cX3_init 12 = .ok (.aload_n 0, 1) := by decide +kernel
theorem dX3_init_13 : decode cX3_init 13 = .ok (.iconst 0, 1) := by decide +kernel
theorem dX3_init_14 : decode cX3_init 14 = .ok (.putfield 15, 3) := by decide +kernel
theorem dX3_init_17 : decode cX3_init 17 = .ok (.aload_n 0, 1) := by decide +kernel
theorem dX3_init_18 : decode cX3_init 18 = .ok (.iconst 0, 1) := by decide +kernel
theorem dX3_init_19 : decode cX3_init 19 = .ok (.putfield 19, 3) := by decide +kernel
theorem dX3_init_22 : decode cX3_init 22 = .ok (.aload_n 0, 1) := by decide +kernel
theorem dX3_init_23 : decode cX3_init 23 = .ok (.iconst 5, 1) := by decide +kernel
theorem dX3_init_24 : decode cX3_init 24 = .ok (.newarray .int, 2) := by decide +kernel
theorem dX3_init_26 : decode cX3_init 26 = .ok (.putfield 22, 3) := by decide +kernel
theorem dX3_init_29 : decode cX3_init 29 = .ok (.aload_n 0, 1) := by decide +kernel
theorem dX3_init_30 : decode cX3_init 30 = .ok (.iconst 4, 1) := by decide +kernel
theorem dX3_init_31 : decode cX3_init 31 = .ok (.newarray .int, 2) := by decide +kernel
theorem dX3_init_33 : decode cX3_init 33 = .ok (.putfield 25, 3) := by decide +kernel
theorem dX3_init_36 : decode cX3_init 36 = .ok (.return_, 1) := by decide +kernel
theorem dX3_fill_0 : decode cX3_fill 0 = .ok (.aload_n 0, 1) := by decide +kernel
theorem dX3_fill_1 : decode cX3_fill 1 = .ok (.iconst 0, 1) := by decide +kernel
theorem dX3_fill_2 : decode cX3_fill 2 = .ok (.putfield 15, 3) := by decide +kernel
theorem dX3_fill_5 : decode cX3_fill 5 = .ok (.aload_n 0, 1) := by decide +kernel
theorem dX3_fill_6 : decode cX3_fill 6 = .ok (.iconst 0, 1) := by decide +kernel
theorem dX3_fill_7 : decode cX3_fill 7 = .ok (.putfield 19, 3) := by decide +kernel
theorem dX3_fill_10 : decode cX3_fill 10 = .ok (.aload_n 0, 1) := by decide +kernel
theorem dX3_fill_11 : decode cX3_fill 11 = .ok (.getfield 22, 3) := by decide +kernel
theorem dX3_fill_14 : decode cX3_fill 14 = .ok (.iconst 0, 1) := by decide +kernel
theorem dX3_fill_15 : decode cX3_fill 15 = .ok (.invokestatic 28, 3) := by decide +kernel
theorem dX3_fill_18 : decode cX3_fill 18 = .ok (.iconst 0, 1) := by decide +kernel
theorem dX3_fill_19 : decode cX3_fill 19 = .ok (.istore 4, 2) := by decide +kernel
theorem dX3_fill_21 : decode cX3_fill 21 = .ok (.iload 4, 2) := by decide +kernel
theorem dX3_fill_23 : decode cX3_fill 23 = .ok (.iload_n 1, 1) := by decide +kernel
theorem dX3_fill_24 : decode cX3_fill 24 = .ok (.invokestatic 34, 3) := by decide +kernel
theorem dX3_fill_27 : decode cX3_fill 27 = .ok (.if_icmp .ge 35, 3) := by decide +kernel
theorem dX3_fill_30 : decode cX3_fill 30 = .ok (.lload_n 2, 1) := by decide +kernel
theorem dX3_fill_31 : decode cX3_fill 31 = .ok (.iload 4, 2) := by decide +kernel
theorem dX3_fill_33 : decode cX3_fill 33 = .ok (.invokestatic 38, 3) := by decide +kernel
theorem dX3_fill_36 : decode cX3_fill 36 = .ok (.iconst 1, 1) := by decide +kernel
theorem dX3_fill_37 : decode cX3_fill 37 = .ok (.if_icmp .ne 19, 3) := by decide +kernel
theorem dX3_fill_40 : decode cX3_fill 40 = .ok (.iload_n 1, 1) := by decide +kernel
theorem dX3_fill_41 : decode cX3_fill 41 = .ok (.lload_n 2, 1) := by decide +kernel
theorem dX3_fill_42 : decode cX3_fill 42 = .ok (.iload 4, 2) := by decide +kernel
theorem dX3_fill_44 : decode cX3_fill 44 = .ok (.invokestatic 42, 3) := by decide +kernel
theorem dX3_fill_47 : decode cX3_fill 47 = .ok (.ifCond .eq 9, 3) := by decide +kernel
theorem dX3_fill_50 : decode cX3_fill 50 = .ok (.aload_n 0, 1) := by decide +kernel
theorem dX3_fill_51 : decode cX3_fill 51 = .ok (.iload 4, 2) := by decide +kernel
theorem dX3_fill_53 : decode cX3_fill 53 = .ok (.invokevirtual 46, 3) := by decide +kernel
theorem dX3_fill_56 : decode cX3_fill 56 = .ok (.iinc 4 1, 3) := by decide +kernel
theorem dX3_fill_59 : decode cX3_fill 59 = .ok (.goto (-38), 3) := by decide +kernel
theorem dX3_fill_62 : decode cX3_fill 62 = .ok (.return_, 1) := by decide +kernel
theorem dX3_isMinimal_0 : decode cX3_isMinimal 0 = .ok (.iconst 0, 1) := by decide +kernel
theorem dX3_isMinimal_1 : decode cX3_isMinimal 1 = .ok (.istore 4, 2) := by decide +kernel
theorem dX3_isMinimal_3 : decode cX3_isMinimal 3 = .ok (.iload 4, 2) := by decide +kernel
theorem dX3_isMinimal_5 : decode cX3_isMinimal 5 = .ok (.iload_n 0, 1) := by decide +kernel
theorem dX3_isMinimal_6 : decode cX3_isMinimal 6 = .ok (.if_icmp .ge 37, 3) := by decide +kernel
theorem dX3_isMinimal_9 : decode cX3_isMinimal 9 = .ok (.iload_n 3, 1) := by decide +kernel
theorem dX3_isMinimal_10 : decode cX3_isMinimal 10 = .ok (.iconst 1, 1) := by decide +kernel
theorem dX3_isMinimal_11 : decode cX3_isMinimal 11 = .ok (.iload 4, 2) := by decide +kernel
theorem dX3_isMinimal_13 : decode cX3_isMinimal 13 = .ok (.ishl, 1) := by decide +kernel
theorem dX3_isMinimal_14 : decode cX3_isMinimal 14 = .ok (.iconst (-1), 1) := by decide +kernel
theorem dX3_isMinimal_15 : decode cX3_isMinimal 15 = .ok (.ixor, 1) := by decide +kernel
theorem dX3_isMinimal_16 : decode cX3_isMinimal 16 = .ok (.iand, 1) := by decide +kernel
theorem dX3_isMinimal_17 : decode cX3_isMinimal 17 = .ok (.istore 5, 2) := by decide +kernel
theorem dX3_isMinimal_19 : decode cX3_isMinimal 19 = .ok (.iload 5, 2) := by decide +kernel
theorem dX3_isMinimal_21 : decode cX3_isMinimal 21 = .ok (.iload_n 3, 1) := by decide +kernel
theorem dX3_isMinimal_22 : decode cX3_isMinimal 22 = .ok (.if_icmp .eq 15, 3) := by decide +kernel
theorem dX3_isMinimal_25 : decode cX3_isMinimal 25 = .ok (.lload_n 1, 1) := by decide +kernel
theorem dX3_isMinimal_26 : decode cX3_isMinimal 26 = .ok (.iload 5, 2) := by decide +kernel
theorem dX3_isMinimal_28 : decode cX3_isMinimal 28 = .ok (.invokestatic 38, 3) := by decide +kernel
theorem dX3_isMinimal_31 : decode cX3_isMinimal 31 = .ok (.iconst 1, 1) := by decide +kernel
theorem dX3_isMinimal_32 : decode cX3_isMinimal 32 = .ok (.if_icmp .ne 5, 3) := by decide +kernel
theorem dX3_isMinimal_35 : decode cX3_isMinimal 35 = .ok (.iconst 0, 1) := by decide +kernel
theorem dX3_isMinimal_36 : decode cX3_isMinimal 36 = .ok (.ireturn, 1) := by decide +kernel
theorem dX3_isMinimal_37 : decode cX3_isMinimal 37 = .ok (.iinc 4 1, 3) := by decide +kernel
theorem dX3_isMinimal_40 : decode cX3_isMinimal 40 = .ok (.goto (-37), 3) := by decide +kernel
theorem dX3_isMinimal_43 : decode cX3_isMinimal 43 = .ok (.iconst 1, 1) := by decide +kernel
theorem dX3_isMinimal_44 : decode cX3_isMinimal 44 = .ok (.ireturn, 1) := by decide +kernel
theorem dX3_addPrime_0 : decode cX3_addPrime 0 = .ok (.aload_n 0, 1) := by decide +kernel
theorem dX3_addPrime_1 : decode cX3_addPrime 1 = .ok (.getfield 15, 3) := by decide +kernel
theorem dX3_addPrime_4 : decode cX3_addPrime 4 = .ok (.bipush 32, 2) := by decide +kernel
theorem dX3_addPrime_6 : decode cX3_addPrime 6 = .ok (.if_icmp .ge 23, 3) := by decide +kernel
theorem dX3_addPrime_9 : decode cX3_addPrime 9 = .ok (.aload_n 0, 1) := by decide +kernel
theorem dX3_addPrime_10 : decode cX3_addPrime 10 = .ok (.getfield 9, 3) := by decide +kernel
theorem dX3_addPrime_13 : decode cX3_addPrime 13 = .ok (.aload_n 0, 1) := by decide +kernel
theorem dX3_addPrime_14 : decode cX3_addPrime 14 = .ok (.getfield 15, 3) := by decide +kernel
theorem dX3_addPrime_17 : decode cX3_addPrime 17 = .ok (.iload_n 1, 1) := by decide +kernel
theorem dX3_addPrime_18 : decode cX3_addPrime 18 = .ok (.iastore, 1) := by decide +kernel
theorem dX3_addPrime_19 : decode cX3_addPrime 19 = .ok (.aload_n 0, 1) := by decide +kernel
theorem dX3_addPrime_20 : decode cX3_addPrime 20 = .ok (.dup, 1) := by decide +kernel
theorem dX3_addPrime_21 : decode cX3_addPrime 21 = .ok (.getfield 15, 3) := by decide +kernel
theorem dX3_addPrime_24 : decode cX3_addPrime 24 = .ok (.iconst 1, 1) := by decide +kernel
theorem dX3_addPrime_25 : decode cX3_addPrime 25 = .ok (.iadd, 1) := by decide +kernel
theorem dX3_addPrime_26 : decode cX3_addPrime 26 = .ok (.putfield 15, 3) := by decide +kernel
theorem dX3_addPrime_29 : decode cX3_addPrime 29 = .ok (.aload_n 0, 1) := by decide +kernel
theorem dX3_addPrime_30 : decode cX3_addPrime 30 = .ok (.dup, 1) := by decide +kernel
theorem dX3_addPrime_31 : decode cX3_addPrime 31 = .ok (.getfield 19, 3) := by decide +kernel
theorem dX3_addPrime_34 : decode cX3_addPrime 34 = .ok (.iload_n 1, 1) := by decide +kernel
theorem dX3_addPrime_35 : decode cX3_addPrime 35 = .ok (.ior, 1) := by decide +kernel
theorem dX3_addPrime_36 : decode cX3_addPrime 36 = .ok (.putfield 19, 3) := by decide +kernel
theorem dX3_addPrime_39 : decode cX3_addPrime 39 = .ok (.iconst 0, 1) := by decide +kernel
theorem dX3_addPrime_40 : decode cX3_addPrime 40 = .ok (.istore_n 2, 1) := by decide +kernel
theorem dX3_addPrime_41 : decode cX3_addPrime 41 = .ok (.iload_n 2, 1) := by decide +kernel
theorem dX3_addPrime_42 : decode cX3_addPrime 42 = .ok (.iconst 5, 1) := by decide +kernel
theorem dX3_addPrime_43 : decode cX3_addPrime 43 = .ok (.if_icmp .ge 33, 3) := by decide +kernel
theorem dX3_addPrime_46 : decode cX3_addPrime 46 = .ok (.iload_n 1, 1) := by decide +kernel
theorem dX3_addPrime_47 : decode cX3_addPrime 47 = .ok (.iload_n 2, 1) := by decide +kernel
theorem dX3_addPrime_48 : decode cX3_addPrime 48 = .ok (.invokestatic 50, 3) := by decide +kernel
theorem dX3_addPrime_51 : decode cX3_addPrime 51 = .ok (.ifCond .eq 19, 3) := by decide +kernel
theorem dX3_addPrime_54 : decode cX3_addPrime 54 = .ok (.aload_n 0, 1) := by decide +kernel
theorem dX3_addPrime_55 : decode cX3_addPrime 55 = .ok (.getfield 22, 3) := by decide +kernel
theorem dX3_addPrime_58 : decode cX3_addPrime 58 = .ok (.iload_n 2, 1) := by decide +kernel
theorem dX3_addPrime_59 : decode cX3_addPrime 59 = .ok (.dup2, 1) := by decide +kernel
theorem dX3_addPrime_60 : decode cX3_addPrime 60 = .ok (.iaload, 1) := by decide +kernel
theorem dX3_addPrime_61 : decode cX3_addPrime 61 = .ok (.iload_n 1, 1) := by decide +kernel
theorem dX3_addPrime_62 : decode cX3_addPrime 62 = .ok (.iconst 1, 1) := by decide +kernel
theorem dX3_addPrime_63 : decode cX3_addPrime 63 = .ok (.iload_n 2, 1) := by decide +kernel
theorem dX3_addPrime_64 : decode cX3_addPrime 64 = .ok (.ishl, 1) := by decide +kernel
theorem dX3_addPrime_65 : decode cX3_addPrime 65 = .ok (.iconst (-1), 1) := by decide +kernel
theorem dX3_addPrime_66 : decode cX3_addPrime 66 = .ok (.ixor, 1) := by decide +kernel
theorem dX3_addPrime_67 : decode cX3_addPrime 67 = .ok (.iand, 1) := by decide +kernel
theorem dX3_addPrime_68 : decode cX3_addPrime 68 = .ok (.ior, 1) := by decide +kernel
theorem dX3_addPrime_69 : decode cX3_addPrime 69 = .ok (.iastore, 1) := by decide +kernel
theorem dX3_addPrime_70 : decode cX3_addPrime 70 = .ok (.iinc 2 1, 3) := by decide +kernel
theorem dX3_addPrime_73 : decode cX3_addPrime 73 = .ok (.goto (-32), 3) := by decide +kernel
theorem dX3_addPrime_76 : decode cX3_addPrime 76 = .ok (.return_, 1) := by decide +kernel
theorem dX3_primeAt_0 : decode cX3_primeAt 0 = .ok (.iload_n 1, 1) := by decide +kernel
theorem dX3_primeAt_1 : decode cX3_primeAt 1 = .ok (.aload_n 0, 1) := by decide +kernel
theorem dX3_primeAt_2 : decode cX3_primeAt 2 = .ok (.getfield 15, 3) := by decide +kernel
theorem dX3_primeAt_5 : decode cX3_primeAt 5 = .ok (.invokestatic 54, 3) := by decide +kernel
theorem dX3_primeAt_8 : decode cX3_primeAt 8 = .ok (.ifCond .eq 12, 3) := by decide +kernel
theorem dX3_primeAt_11 : decode cX3_primeAt 11 = .ok (.aload_n 0, 1) := by decide +kernel
theorem dX3_primeAt_12 : decode cX3_primeAt 12 = .ok (.getfield 9, 3) := by decide +kernel
theorem dX3_primeAt_15 : decode cX3_primeAt 15 = .ok (.iload_n 1, 1) := by decide +kernel
theorem dX3_primeAt_16 : decode cX3_primeAt 16 = .ok (.iaload, 1) := by decide +kernel
theorem dX3_primeAt_17 : decode cX3_primeAt 17 = .ok (.goto 4, 3) := by decide +kernel
theorem dX3_primeAt_20 : decode cX3_primeAt 20 = .ok (.iconst (-1), 1) := by decide +kernel
theorem dX3_primeAt_21 : decode cX3_primeAt 21 = .ok (.ireturn, 1) := by decide +kernel
theorem dX3_areAdjacent_0 : decode cX3_areAdjacent 0 = .ok (.aload_n 0, 1) := by decide +kernel
theorem dX3_areAdjacent_1 : decode cX3_areAdjacent 1 = .ok (.getfield 22, 3) := by decide +kernel
theorem dX3_areAdjacent_4 : decode cX3_areAdjacent 4 = .ok (.iload_n 1, 1) := by decide +kernel
theorem dX3_areAdjacent_5 : decode cX3_areAdjacent 5 = .ok (.iaload, 1) := by decide +kernel
theorem dX3_areAdjacent_6 : decode cX3_areAdjacent 6 = .ok (.iload_n 2, 1) := by decide +kernel
theorem dX3_areAdjacent_7 : decode cX3_areAdjacent 7 = .ok (.invokestatic 50, 3) := by decide +kernel
theorem dX3_areAdjacent_10 : decode cX3_areAdjacent 10 = .ok (.ireturn, 1) := by decide +kernel
theorem dX3_findPath_0 : decode cX3_findPath 0 = .ok (.iconst 0, 1) := by decide +kernel
theorem dX3_findPath_1 : decode cX3_findPath 1 = .ok (.istore_n 1, 1) := by decide +kernel
theorem dX3_findPath_2 : decode cX3_findPath 2 = .ok (.iload_n 1, 1) := by decide +kernel
theorem dX3_findPath_3 : decode cX3_findPath 3 = .ok (.iconst 5, 1) := by decide +kernel
theorem dX3_findPath_4 : decode cX3_findPath 4 = .ok (.if_icmp .ge 42, 3) := by decide +kernel
theorem dX3_findPath_7 : decode cX3_findPath 7 = .ok (.iconst 0, 1) := by decide +kernel
theorem dX3_findPath_8 : decode cX3_findPath 8 = .ok (.istore_n 2, 1) := by decide +kernel
theorem dX3_findPath_9 : decode cX3_findPath 9 = .ok (.iload_n 2, 1) := by decide +kernel
theorem dX3_findPath_10 : decode cX3_findPath 10 = .ok (.iconst 5, 1) := by decide +kernel
theorem dX3_findPath_11 : decode cX3_findPath 11 = .ok (.if_icmp .ge 29, 3) := by decide +kernel
theorem dX3_findPath_14 : decode cX3_findPath 14 = .ok (.aload_n 0, 1) := by decide +kernel
theorem dX3_findPath_15 : decode cX3_findPath 15 = .ok (.iload_n 1, 1) := by decide +kernel
theorem dX3_findPath_16 : decode cX3_findPath 16 = .ok (.iload_n 2, 1) := by decide +kernel
theorem dX3_findPath_17 : decode cX3_findPath 17 = .ok (.invokevirtual 57, 3) := by decide +kernel
theorem dX3_findPath_20 : decode cX3_findPath 20 = .ok (.ifCond .eq 14, 3) := by decide +kernel
theorem dX3_findPath_23 : decode cX3_findPath 23 = .ok (.aload_n 0, 1) := by decide +kernel
theorem dX3_findPath_24 : decode cX3_findPath 24 = .ok (.iload_n 1, 1) := by decide +kernel
theorem dX3_findPath_25 : decode cX3_findPath 25 = .ok (.iload_n 2, 1) := by decide +kernel
theorem dX3_findPath_26 : decode cX3_findPath 26 = .ok (.invokevirtual 60, 3) := by decide +kernel
theorem dX3_findPath_29 : decode cX3_findPath 29 = .ok (.ifCond .eq 5, 3) := by decide +kernel
theorem dX3_findPath_32 : decode cX3_findPath 32 = .ok (.iconst 1, 1) := by decide +kernel
theorem dX3_findPath_33 : decode cX3_findPath 33 = .ok (.ireturn, 1) := by decide +kernel
theorem dX3_findPath_34 : decode cX3_findPath 34 = .ok (.iinc 2 1, 3) := by decide +kernel
theorem dX3_findPath_37 : decode cX3_findPath 37 = .ok (.goto (-28), 3) := by decide +kernel
theorem dX3_findPath_40 : decode cX3_findPath 40 = .ok (.iinc 1 1, 3) := by decide +kernel
theorem dX3_findPath_43 : decode cX3_findPath 43 = .ok (.goto (-41), 3) := by decide +kernel
theorem dX3_findPath_46 : decode cX3_findPath 46 = .ok (.iconst 0, 1) := by decide +kernel
theorem dX3_findPath_47 : decode cX3_findPath 47 = .ok (.ireturn, 1) := by decide +kernel
theorem dX3_findPathFrom_0 : decode cX3_findPathFrom 0 = .ok (.iconst 0, 1) := by decide +kernel
theorem dX3_findPathFrom_1 : decode cX3_findPathFrom 1 = .ok (.istore_n 3, 1) := by decide +kernel
theorem dX3_findPathFrom_2 : decode cX3_findPathFrom 2 = .ok (.iload_n 3, 1) := by decide +kernel
theorem dX3_findPathFrom_3 : decode cX3_findPathFrom 3 = .ok (.iconst 5, 1) := by decide +kernel
theorem dX3_findPathFrom_4 : decode cX3_findPathFrom 4 = .ok (.if_icmp .ge 101, 3) := by decide +kernel
theorem dX3_findPathFrom_7 : decode cX3_findPathFrom 7 = .ok (.iload_n 3, 1) := by decide +kernel
theorem dX3_findPathFrom_8 : decode cX3_findPathFrom 8 = .ok (.iload_n 1, 1) := by decide +kernel
theorem dX3_findPathFrom_9 : decode cX3_findPathFrom 9 = .ok (.if_icmp .eq 90, 3) := by decide +kernel
theorem dX3_findPathFrom_12 : decode cX3_findPathFrom 12 = .ok (.aload_n 0, 1) := by decide +kernel
theorem dX3_findPathFrom_13 : decode cX3_findPathFrom 13 = .ok (.iload_n 2, 1) := by decide +kernel
theorem dX3_findPathFrom_14 : decode cX3_findPathFrom 14 = .ok (.iload_n 3, 1) := by decide +kernel
theorem dX3_findPathFrom_15 : decode cX3_findPathFrom 15 = .ok (.invokevirtual 57, 3) := by decide +kernel
theorem dX3_findPathFrom_18 : decode cX3_findPathFrom 18 = .ok (.ifCond .eq 81, 3) := by decide +kernel
theorem dX3_findPathFrom_21 : decode cX3_findPathFrom 21 = .ok (.aload_n 0, 1) := by decide +kernel
theorem dX3_findPathFrom_22 : decode cX3_findPathFrom 22 = .ok (.iload_n 1, 1) := by decide +kernel
theorem dX3_findPathFrom_23 : decode cX3_findPathFrom 23 = .ok (.iload_n 3, 1) := by decide +kernel
theorem dX3_findPathFrom_24 : decode cX3_findPathFrom 24 = .ok (.invokevirtual 57, 3) := by decide +kernel
theorem dX3_findPathFrom_27 : decode cX3_findPathFrom 27 = .ok (.ifCond .eq 6, 3) := by decide +kernel
theorem dX3_findPathFrom_30 : decode cX3_findPathFrom 30 = .ok (.goto 69, 3) := by decide +kernel
theorem dX3_findPathFrom_33 : decode cX3_findPathFrom 33 = .ok (.aload_n 0, 1) := by decide +kernel
theorem dX3_findPathFrom_34 : decode cX3_findPathFrom 34 = .ok (.getfield 22, 3) := by decide +kernel
theorem dX3_findPathFrom_37 : decode cX3_findPathFrom 37 = .ok (.iload_n 3, 1) := by decide +kernel
theorem dX3_findPathFrom_38 : decode cX3_findPathFrom 38 = .ok (.iaload, 1) := by decide +kernel
theorem dX3_findPathFrom_39 : decode cX3_findPathFrom 39 = .ok (.aload_n 0, 1) := by decide +kernel
theorem dX3_findPathFrom_40 : decode cX3_findPathFrom 40 = .ok (.getfield 22, 3) := by decide +kernel
theorem dX3_findPathFrom_43 : decode cX3_findPathFrom 43 = .ok (.iload_n 1, 1) := by decide +kernel
theorem dX3_findPathFrom_44 : decode cX3_findPathFrom 44 = .ok (.iaload, 1) := by decide +kernel
theorem dX3_findPathFrom_45 : decode cX3_findPathFrom 45 = .ok (.iconst (-1), 1) := by decide +kernel
theorem dX3_findPathFrom_46 : decode cX3_findPathFrom 46 = .ok (.ixor, 1) := by decide +kernel
theorem dX3_findPathFrom_47 : decode cX3_findPathFrom 47 = .ok (.iand, 1) := by decide +kernel
theorem dX3_findPathFrom_48 : decode cX3_findPathFrom 48 = .ok (.aload_n 0, 1) := by decide +kernel
theorem dX3_findPathFrom_49 : decode cX3_findPathFrom 49 = .ok (.getfield 22, 3) := by decide +kernel
theorem dX3_findPathFrom_52 : decode cX3_findPathFrom 52 = .ok (.iload_n 2, 1) := by decide +kernel
theorem dX3_findPathFrom_53 : decode cX3_findPathFrom 53 = .ok (.iaload, 1) := by decide +kernel
theorem dX3_findPathFrom_54 : decode cX3_findPathFrom 54 = .ok (.iconst (-1), 1) := by decide +kernel
theorem dX3_findPathFrom_55 : decode cX3_findPathFrom 55 = .ok (.ixor, 1) := by decide +kernel
theorem dX3_findPathFrom_56 : decode cX3_findPathFrom 56 = .ok (.iand, 1) := by decide +kernel
theorem dX3_findPathFrom_57 : decode cX3_findPathFrom 57 = .ok (.invokestatic 63, 3) := by decide +kernel
theorem dX3_findPathFrom_60 : decode cX3_findPathFrom 60 = .ok (.istore 4, 2) := by decide +kernel
theorem dX3_findPathFrom_62 : decode cX3_findPathFrom 62 = .ok (.iload 4, 2) := by decide +kernel
theorem dX3_findPathFrom_64 : decode cX3_findPathFrom 64 = .ok (.iconst (-1), 1) := by decide +kernel
theorem dX3_findPathFrom_65 : decode cX3_findPathFrom 65 = .ok (.if_icmp .eq 34, 3) := by decide +kernel
theorem dX3_findPathFrom_68 : decode cX3_findPathFrom 68 = .ok (.aload_n 0, 1) := by decide +kernel
theorem dX3_findPathFrom_69 : decode cX3_findPathFrom 69 = .ok (.getfield 25, 3) := by decide +kernel
theorem dX3_findPathFrom_72 : decode cX3_findPathFrom 72 = .ok (.iconst 0, 1) := by decide +kernel
theorem dX3_findPathFrom_73 : decode cX3_findPathFrom 73 = .ok (.iload_n 1, 1) := by decide +kernel
theorem dX3_findPathFrom_74 : decode cX3_findPathFrom 74 = .ok (.iastore, 1) := by decide +kernel
theorem dX3_findPathFrom_75 : decode cX3_findPathFrom 75 = .ok (.aload_n 0, 1) := by decide +kernel
theorem dX3_findPathFrom_76 : decode cX3_findPathFrom 76 = .ok (.getfield 25, 3) := by decide +kernel
theorem dX3_findPathFrom_79 : decode cX3_findPathFrom 79 = .ok (.iconst 1, 1) := by decide +kernel
theorem dX3_findPathFrom_80 : decode cX3_findPathFrom 80 = .ok (.iload_n 2, 1) := by decide +kernel
theorem dX3_findPathFrom_81 : decode cX3_findPathFrom 81 = .ok (.iastore, 1) := by decide +kernel
theorem dX3_findPathFrom_82 : decode cX3_findPathFrom 82 = .ok (.aload_n 0, 1) := by decide +kernel
theorem dX3_findPathFrom_83 : decode cX3_findPathFrom 83 = .ok (.getfield 25, 3) := by decide +kernel
theorem dX3_findPathFrom_86 : decode cX3_findPathFrom 86 = .ok (.iconst 2, 1) := by decide +kernel
theorem dX3_findPathFrom_87 : decode cX3_findPathFrom 87 = .ok (.iload_n 3, 1) := by decide +kernel
theorem dX3_findPathFrom_88 : decode cX3_findPathFrom 88 = .ok (.iastore, 1) := by decide +kernel
theorem dX3_findPathFrom_89 : decode cX3_findPathFrom 89 = .ok (.aload_n 0, 1) := by decide +kernel
theorem dX3_findPathFrom_90 : decode cX3_findPathFrom 90 = .ok (.getfield 25, 3) := by decide +kernel
theorem dX3_findPathFrom_93 : decode cX3_findPathFrom 93 = .ok (.iconst 3, 1) := by decide +kernel
theorem dX3_findPathFrom_94 : decode cX3_findPathFrom 94 = .ok (.iload 4, 2) := by decide +kernel
theorem dX3_findPathFrom_96 : decode cX3_findPathFrom 96 = .ok (.iastore, 1) := by decide +kernel
theorem dX3_findPathFrom_97 : decode cX3_findPathFrom 97 = .ok (.iconst 1, 1) := by decide +kernel
theorem dX3_findPathFrom_98 : decode cX3_findPathFrom 98 = .ok (.ireturn, 1) := by decide +kernel
theorem dX3_findPathFrom_99 : decode cX3_findPathFrom 99 = .ok (.iinc 3 1, 3) := by decide +kernel
theorem dX3_findPathFrom_102 : decode cX3_findPathFrom 102 = .ok (.goto (-100), 3) := by decide +kernel
theorem dX3_findPathFrom_105 : decode cX3_findPathFrom 105 = .ok (.iconst 0, 1) := by decide +kernel
theorem dX3_findPathFrom_106 : decode cX3_findPathFrom 106 = .ok (.ireturn, 1) := by decide +kernel
theorem dX3_lowestBadClique_0 : decode cX3_lowestBadClique 0 = .ok (.iconst 1, 1) := by decide +kernel
theorem dX3_lowestBadClique_1 : decode cX3_lowestBadClique 1 = .ok (.istore_n 1, 1) := by decide +kernel
theorem dX3_lowestBadClique_2 : decode cX3_lowestBadClique 2 = .ok (.iload_n 1, 1) := by decide +kernel
theorem dX3_lowestBadClique_3 : decode cX3_lowestBadClique 3 = .ok (.aload_n 0, 1) := by decide +kernel
theorem dX3_lowestBadClique_4 : decode cX3_lowestBadClique 4 = .ok (.getfield 19, 3) := by decide +kernel
theorem dX3_lowestBadClique_7 : decode cX3_lowestBadClique 7 = .ok (.if_icmp .gt 38, 3) := by decide +kernel
theorem dX3_lowestBadClique_10 : decode cX3_lowestBadClique 10 = .ok (.iload_n 1, 1) := by decide +kernel
theorem dX3_lowestBadClique_11 : decode cX3_lowestBadClique 11 = .ok (.aload_n 0, 1) := by decide +kernel
theorem dX3_lowestBadClique_12 : decode cX3_lowestBadClique 12 = .ok (.getfield 19, 3) := by decide +kernel
theorem dX3_lowestBadClique_15 : decode cX3_lowestBadClique 15 = .ok (.iconst (-1), 1) := by decide +kernel
theorem dX3_lowestBadClique_16 : decode cX3_lowestBadClique 16 = .ok (.ixor, 1) := by decide +kernel
theorem dX3_lowestBadClique_17 : decode cX3_lowestBadClique 17 = .ok (.iand, 1) := by decide +kernel
theorem dX3_lowestBadClique_18 : decode cX3_lowestBadClique 18 = .ok (.ifCond .ne 21, 3) := by decide +kernel
theorem dX3_lowestBadClique_21 : decode cX3_lowestBadClique 21 = .ok (.aload_n 0, 1) := by decide +kernel
theorem dX3_lowestBadClique_22 : decode cX3_lowestBadClique 22 = .ok (.iload_n 1, 1) := by decide +kernel
theorem dX3_lowestBadClique_23 : decode cX3_lowestBadClique 23 = .ok (.invokevirtual 66, 3) := by decide +kernel
theorem dX3_lowestBadClique_26 : decode cX3_lowestBadClique 26 = .ok (.ifCond .eq 13, 3) := by decide +kernel
theorem dX3_lowestBadClique_29 : decode cX3_lowestBadClique 29 = .ok (.aload_n 0, 1) := by decide +kernel
theorem dX3_lowestBadClique_30 : decode cX3_lowestBadClique 30 = .ok (.iload_n 1, 1) := by decide +kernel
theorem dX3_lowestBadClique_31 : decode cX3_lowestBadClique 31 = .ok (.invokevirtual 70, 3) := by decide +kernel
theorem dX3_lowestBadClique_34 : decode cX3_lowestBadClique 34 = .ok (.ifCond .ne 5, 3) := by decide +kernel
theorem dX3_lowestBadClique_37 : decode cX3_lowestBadClique 37 = .ok (.iload_n 1, 1) := by decide +kernel
theorem dX3_lowestBadClique_38 : decode cX3_lowestBadClique 38 = .ok (.ireturn, 1) := by decide +kernel
theorem dX3_lowestBadClique_39 : decode cX3_lowestBadClique 39 = .ok (.iinc 1 1, 3) := by decide +kernel
theorem dX3_lowestBadClique_42 : decode cX3_lowestBadClique 42 = .ok (.goto (-40), 3) := by decide +kernel
theorem dX3_lowestBadClique_45 : decode cX3_lowestBadClique 45 = .ok (.iconst (-1), 1) := by decide +kernel
theorem dX3_lowestBadClique_46 : decode cX3_lowestBadClique 46 = .ok (.ireturn, 1) := by decide +kernel
theorem dX3_isMaximalClique_0 : decode cX3_isMaximalClique 0 = .ok (.aload_n 0, 1) := by decide +kernel
theorem dX3_isMaximalClique_1 : decode cX3_isMaximalClique 1 = .ok (.getfield 19, 3) := by decide +kernel
theorem dX3_isMaximalClique_4 : decode cX3_isMaximalClique 4 = .ok (.istore_n 2, 1) := by decide +kernel
theorem dX3_isMaximalClique_5 : decode cX3_isMaximalClique 5 = .ok (.iconst 0, 1) := by decide +kernel
theorem dX3_isMaximalClique_6 : decode cX3_isMaximalClique 6 = .ok (.istore_n 3, 1) := by decide +kernel
theorem dX3_isMaximalClique_7 : decode cX3_isMaximalClique 7 = .ok (.iload_n 3, 1) := by decide +kernel
theorem dX3_isMaximalClique_8 : decode cX3_isMaximalClique 8 = .ok (.iconst 5, 1) := by decide +kernel
theorem dX3_isMaximalClique_9 : decode cX3_isMaximalClique 9 = .ok (.if_icmp .ge 51, 3) := by decide +kernel
theorem dX3_isMaximalClique_12 : decode cX3_isMaximalClique 12 = .ok (.iload_n 1, 1) := by decide +kernel
theorem dX3_isMaximalClique_13 : decode cX3_isMaximalClique 13 = .ok (.iload_n 3, 1) := by decide +kernel
theorem dX3_isMaximalClique_14 : decode cX3_isMaximalClique 14 = .ok (.invokestatic 50, 3) := by decide +kernel
theorem dX3_isMaximalClique_17 : decode cX3_isMaximalClique 17 = .ok (.ifCond .eq 37, 3) := by decide +kernel
theorem dX3_isMaximalClique_20 : decode cX3_isMaximalClique 20 = .ok (.iload_n 1, 1) := by decide +kernel
theorem dX3_isMaximalClique_21 : decode cX3_isMaximalClique 21 = .ok (.iconst 1, 1) := by decide +kernel
theorem dX3_isMaximalClique_22 : decode cX3_isMaximalClique 22 = .ok (.iload_n 3, 1) := by decide +kernel
theorem dX3_isMaximalClique_23 : decode cX3_isMaximalClique 23 = .ok (.ishl, 1) := by decide +kernel
theorem dX3_isMaximalClique_24 : decode cX3_isMaximalClique 24 = .ok (.iconst (-1), 1) := by decide +kernel
theorem dX3_isMaximalClique_25 : decode cX3_isMaximalClique 25 = .ok (.ixor, 1) := by decide +kernel
theorem dX3_isMaximalClique_26 : decode cX3_isMaximalClique 26 = .ok (.iand, 1) := by decide +kernel
theorem dX3_isMaximalClique_27 : decode cX3_isMaximalClique 27 = .ok (.istore 4, 2) := by decide +kernel
theorem dX3_isMaximalClique_29 : decode cX3_isMaximalClique 29 = .ok (.iload 4, 2) := by decide +kernel
theorem dX3_isMaximalClique_31 : decode cX3_isMaximalClique 31 = .ok (.aload_n 0, 1) := by decide +kernel
theorem dX3_isMaximalClique_32 : decode cX3_isMaximalClique 32 = .ok (.getfield 22, 3) := by decide +kernel
theorem dX3_isMaximalClique_35 : decode cX3_isMaximalClique 35 = .ok (.iload_n 3, 1) := by decide +kernel
theorem dX3_isMaximalClique_36 : decode cX3_isMaximalClique 36 = .ok (.iaload, 1) := by decide +kernel
theorem dX3_isMaximalClique_37 : decode cX3_isMaximalClique 37 = .ok (.iconst (-1), 1) := by decide +kernel
theorem dX3_isMaximalClique_38 : decode cX3_isMaximalClique 38 = .ok (.ixor, 1) := by decide +kernel
theorem dX3_isMaximalClique_39 : decode cX3_isMaximalClique 39 = .ok (.iand, 1) := by decide +kernel
theorem dX3_isMaximalClique_40 : decode cX3_isMaximalClique 40 = .ok (.ifCond .eq 5, 3) := by decide +kernel
theorem dX3_isMaximalClique_43 : decode cX3_isMaximalClique 43 = .ok (.iconst 0, 1) := by decide +kernel
theorem dX3_isMaximalClique_44 : decode cX3_isMaximalClique 44 = .ok (.ireturn, 1) := by decide +kernel
theorem dX3_isMaximalClique_45 : decode cX3_isMaximalClique 45 = .ok (.iload_n 2, 1) := by decide +kernel
theorem dX3_isMaximalClique_46 : decode cX3_isMaximalClique 46 = .ok (.aload_n 0, 1) := by decide +kernel
theorem dX3_isMaximalClique_47 : decode cX3_isMaximalClique 47 = .ok (.getfield 22, 3) := by decide +kernel
theorem dX3_isMaximalClique_50 : decode cX3_isMaximalClique 50 = .ok (.iload_n 3, 1) := by decide +kernel
theorem dX3_isMaximalClique_51 : decode cX3_isMaximalClique 51 = .ok (.iaload, 1) := by decide +kernel
theorem dX3_isMaximalClique_52 : decode cX3_isMaximalClique 52 = .ok (.iand, 1) := by decide +kernel
theorem dX3_isMaximalClique_53 : decode cX3_isMaximalClique 53 = .ok (.istore_n 2, 1) := by decide +kernel
theorem dX3_isMaximalClique_54 : decode cX3_isMaximalClique 54 = .ok (.iinc 3 1, 3) := by decide +kernel
theorem dX3_isMaximalClique_57 : decode cX3_isMaximalClique 57 = .ok (.goto (-50), 3) := by decide +kernel
theorem dX3_isMaximalClique_60 : decode cX3_isMaximalClique 60 = .ok (.iload_n 2, 1) := by decide +kernel
theorem dX3_isMaximalClique_61 : decode cX3_isMaximalClique 61 = .ok (.ifCond .ne 7, 3) := by decide +kernel
theorem dX3_isMaximalClique_64 : decode cX3_isMaximalClique 64 = .ok (.iconst 1, 1) := by decide +kernel
theorem dX3_isMaximalClique_65 : decode cX3_isMaximalClique 65 = .ok (.goto 4, 3) := by decide +kernel
theorem dX3_isMaximalClique_68 : decode cX3_isMaximalClique 68 = .ok (.iconst 0, 1) := by decide +kernel
theorem dX3_isMaximalClique_69 : decode cX3_isMaximalClique 69 = .ok (.ireturn, 1) := by decide +kernel
theorem dX3_isPrime_0 : decode cX3_isPrime 0 = .ok (.iconst 0, 1) := by decide +kernel
theorem dX3_isPrime_1 : decode cX3_isPrime 1 = .ok (.istore_n 2, 1) := by decide +kernel
theorem dX3_isPrime_2 : decode cX3_isPrime 2 = .ok (.iload_n 2, 1) := by decide +kernel
theorem dX3_isPrime_3 : decode cX3_isPrime 3 = .ok (.aload_n 0, 1) := by decide +kernel
theorem dX3_isPrime_4 : decode cX3_isPrime 4 = .ok (.getfield 15, 3) := by decide +kernel
theorem dX3_isPrime_7 : decode cX3_isPrime 7 = .ok (.if_icmp .ge 21, 3) := by decide +kernel
theorem dX3_isPrime_10 : decode cX3_isPrime 10 = .ok (.aload_n 0, 1) := by decide +kernel
theorem dX3_isPrime_11 : decode cX3_isPrime 11 = .ok (.getfield 9, 3) := by decide +kernel
theorem dX3_isPrime_14 : decode cX3_isPrime 14 = .ok (.iload_n 2, 1) := by decide +kernel
theorem dX3_isPrime_15 : decode cX3_isPrime 15 = .ok (.iaload, 1) := by decide +kernel
theorem dX3_isPrime_16 : decode cX3_isPrime 16 = .ok (.iload_n 1, 1) := by decide +kernel
theorem dX3_isPrime_17 : decode cX3_isPrime 17 = .ok (.if_icmp .ne 5, 3) := by decide +kernel
theorem dX3_isPrime_20 : decode cX3_isPrime 20 = .ok (.iconst 1, 1) := by decide +kernel
theorem dX3_isPrime_21 : decode cX3_isPrime 21 = .ok (.ireturn, 1) := by decide +kernel
theorem dX3_isPrime_22 : decode cX3_isPrime 22 = .ok (.iinc 2 1, 3) := by decide +kernel
theorem dX3_isPrime_25 : decode cX3_isPrime 25 = .ok (.goto (-23), 3) := by decide +kernel
theorem dX3_isPrime_28 : decode cX3_isPrime 28 = .ok (.iconst 0, 1) := by decide +kernel
theorem dX3_isPrime_29 : decode cX3_isPrime 29 = .ok (.ireturn, 1) := by decide +kernel
theorem dX4_init_0 : decode cX4_init 0 = .ok (.aload_n 0, 1) := by decide +kernel
theorem dX4_init_1 : decode cX4_init 1 = .ok (.invokespecial 3, 3) := by decide +kernel
theorem dX4_init_4 : decode cX4_init 4 = .ok (.aload_n 0, 1) := by decide +kernel
theorem dX4_init_5 : decode cX4_init 5 = .ok (.bipush 10, 2) := by decide +kernel
theorem dX4_init_7 : decode cX4_init 7 = .ok (.newarray .int, 2) := by decide +kernel
theorem dX4_init_9 : decode cX4_init 9 = .ok (.putfield 9, 3) := by decide +kernel
theorem dX4_init_12 : decode cX4_init 12 = .ok (.aload_n 0, 1) := by decide +kernel
theorem dX4_init_13 : decode cX4_init 13 = .ok (.bipush 10, 2) := by decide +kernel
theorem dX4_init_15 : decode cX4_init 15 = .ok (.newarray .long, 2) := by decide +kernel
theorem dX4_init_17 : decode cX4_init 17 = .ok (.putfield 15, 3) := by decide +kernel
theorem dX4_init_20 : decode cX4_init 20 = .ok (.aload_n 0, 1) := by decide +kernel
theorem dX4_init_21 : decode cX4_init 21 = .ok (.iconst 0, 1) := by decide +kernel
theorem dX4_init_22 : decode cX4_init 22 = .ok (.putfield 19, 3) := by decide +kernel
theorem dX4_init_25 : decode cX4_init 25 = .ok (.return_, 1) := by decide +kernel
theorem dX4_remember_0 : decode cX4_remember 0 = .ok (.aload_n 0, 1) := by decide +kernel
theorem dX4_remember_1 : decode cX4_remember 1 = .ok (.getfield 19, 3) := by decide +kernel
theorem dX4_remember_4 : decode cX4_remember 4 = .ok (.bipush 10, 2) := by decide +kernel
theorem dX4_remember_6 : decode cX4_remember 6 = .ok (.if_icmp .lt 39, 3) := by decide +kernel
theorem dX4_remember_9 : decode cX4_remember 9 = .ok (.aload_n 0, 1) := by decide +kernel
theorem dX4_remember_10 : decode cX4_remember 10 = .ok (.getfield 9, 3) := by decide +kernel
theorem dX4_remember_13 : decode cX4_remember 13 = .ok (.iconst 1, 1) := by decide +kernel
theorem dX4_remember_14 : decode cX4_remember 14 = .ok (.aload_n 0, 1) := by decide +kernel
theorem dX4_remember_15 : decode cX4_remember 15 = .ok (.getfield 9, 3) := by decide +kernel
theorem dX4_remember_18 : decode cX4_remember 18 = .ok (.iconst 0, 1) := by decide +kernel
theorem dX4_remember_19 : decode cX4_remember 19 = .ok (.bipush 9, 2) := by decide +kernel
theorem dX4_remember_21 : decode cX4_remember 21 = .ok (.invokestatic 23, 3) := by decide +kernel
theorem dX4_remember_24 : decode cX4_remember 24 = .ok (.aload_n 0, 1) := by decide +kernel
theorem dX4_remember_25 : decode cX4_remember 25 = .ok (.getfield 15, 3) := by decide +kernel
theorem dX4_remember_28 : decode cX4_remember 28 = .ok (.iconst 1, 1) := by decide +kernel
theorem dX4_remember_29 : decode cX4_remember 29 = .ok (.aload_n 0, 1) := by decide +kernel
theorem dX4_remember_30 : decode cX4_remember 30 = .ok (.getfield 15, 3) := by decide +kernel
theorem dX4_remember_33 : decode cX4_remember 33 = .ok (.iconst 0, 1) := by decide +kernel
theorem dX4_remember_34 : decode cX4_remember 34 = .ok (.bipush 9, 2) := by decide +kernel
theorem dX4_remember_36 : decode cX4_remember 36 = .ok (.invokestatic 23, 3) := by decide +kernel
theorem dX4_remember_39 : decode cX4_remember 39 = .ok (.aload_n 0, 1) := by decide +kernel
theorem dX4_remember_40 : decode cX4_remember 40 = .ok (.bipush 9, 2) := by decide +kernel
theorem dX4_remember_42 : decode cX4_remember 42 = .ok (.putfield 19, 3) := by decide +kernel
theorem dX4_remember_45 : decode cX4_remember 45 = .ok (.aload_n 0, 1) := by decide +kernel
theorem dX4_remember_46 : decode cX4_remember 46 = .ok (.getfield 9, 3) := by decide +kernel
theorem dX4_remember_49 : decode cX4_remember 49 = .ok (.aload_n 0, 1) := by decide +kernel
theorem dX4_remember_50 : decode cX4_remember 50 = .ok (.getfield 19, 3) := by decide +kernel
theorem dX4_remember_53 : decode cX4_remember 53 = .ok (.iload_n 1, 1) := by decide +kernel
theorem dX4_remember_54 : decode cX4_remember 54 = .ok (.iastore, 1) := by decide +kernel
theorem dX4_remember_55 : decode cX4_remember 55 = .ok (.aload_n 0, 1) := by decide +kernel
theorem dX4_remember_56 : decode cX4_remember 56 = .ok (.getfield 15, 3) := by decide +kernel
theorem dX4_remember_59 : decode cX4_remember 59 = .ok (.aload_n 0, 1) := by decide +kernel
theorem dX4_remember_60 : decode cX4_remember 60 = .ok (.getfield 19, 3) := by decide +kernel
theorem dX4_remember_63 : decode cX4_remember 63 = .ok (.lload_n 2, 1) := by decide +kernel
theorem dX4_remember_64 : decode cX4_remember 64 = .ok (.lastore, 1) := by decide +kernel
theorem dX4_remember_65 : decode cX4_remember 65 = .ok (.aload_n 0, 1) := by decide +kernel
theorem dX4_remember_66 : decode cX4_remember 66 = .ok (.dup, 1) := by decide +kernel
theorem dX4_remember_67 : decode cX4_remember 67 = .ok (.getfield 19, 3) := by decide +kernel
theorem dX4_remember_70 : decode cX4_remember 70 = .ok (.iconst 1, 1) := by decide +kernel
theorem dX4_remember_71 : decode cX4_remember 71 = .ok (.iadd, 1) := by decide +kernel
theorem dX4_remember_72 : decode cX4_remember 72 = .ok (.putfield 19, 3) := by decide +kernel
theorem dX4_remember_75 : decode cX4_remember 75 = .ok (.return_, 1) := by decide +kernel
theorem dX4_forget_0 : decode cX4_forget 0 = .ok (.aload_n 0, 1) := by decide +kernel
theorem dX4_forget_1 : decode cX4_forget 1 = .ok (.iconst 0, 1) := by decide +kernel
theorem dX4_forget_2 : decode cX4_forget 2 = .ok (.putfield 19, 3) := by decide +kernel
theorem dX4_forget_5 : decode cX4_forget 5 = .ok (.return_, 1) := by decide +kernel
theorem dX5_init_0 : decode cX5_init 0 = .ok (.aload_n 0, 1) := by decide +kernel
theorem dX5_init_1 : decode cX5_init 1 = .ok (.invokespecial 3, 3) := by decide +kernel
theorem dX5_init_4 : decode cX5_init 4 = .ok (.aload_n 0, 1) := by decide +kernel
theorem dX5_init_5 : decode cX5_init 5 = .ok (.bipush 80, 2) := by decide +kernel
theorem dX5_init_7 : decode cX5_init 7 = .ok (.newarray .int, 2) := by decide +kernel
theorem dX5_init_9 : decode cX5_init 9 = .ok (.putfield 11, 3) := by decide +kernel
theorem dX5_init_12 : decode cX5_init 12 = .ok (.aload_n 0, 1) := by decide +kernel
theorem dX5_init_13 : decode cX5_init 13 = .ok (.iconst 0, 1) := by decide +kernel
theorem dX5_init_14 : decode cX5_init 14 = .ok (.putfield 15, 3) := by decide +kernel
theorem dX5_init_17 : decode cX5_init 17 = .ok (.aload_n 0, 1) := by decide +kernel
theorem dX5_init_18 : decode cX5_init 18 = .ok (.iconst 3, 1) := by decide +kernel
theorem dX5_init_19 : decode cX5_init 19 = .ok (.putfield 19, 3) := by decide +kernel
theorem dX5_init_22 : decode cX5_init 22 = .ok (.aload_n 0, 1) := by decide +kernel
theorem dX5_init_23 : decode cX5_init 23 = .ok (.iconst 3, 1) := by decide +kernel
theorem dX5_init_24 : decode cX5_init 24 = .ok (.invokestatic 22, 3) := by decide +kernel
theorem dX5_init_27 : decode cX5_init 27 = .ok (.putfield 26, 3) := by decide +kernel
theorem dX5_init_30 : decode cX5_init 30 = .ok (.aload_n 0, 1) := by decide +kernel
theorem dX5_init_31 : decode cX5_init 31 = .ok (.iconst 0, 1) := by decide +kernel
theorem dX5_init_32 : decode cX5_init 32 = .ok (.putfield 30, 3) := by decide +kernel
theorem dX5_init_35 : decode cX5_init 35 = .ok (.aload_n 0, 1) := by decide +kernel
theorem dX5_init_36 : decode cX5_init 36 = .ok (.iconst 0, 1) := by decide +kernel
theorem dX5_init_37 : decode cX5_init 37 = .ok (.putfield 33, 3) := by decide +kernel
theorem dX5_init_40 : decode cX5_init 40 = .ok (.return_, 1) := by decide +kernel
theorem dX5_append_0 : decode cX5_append 0 = .ok (.aload_n 0, 1) := by decide +kernel
theorem dX5_append_1 : decode cX5_append 1 = .ok (.getfield 15, 3) := by decide +kernel
theorem dX5_append_4 : decode cX5_append 4 = .ok (.bipush 80, 2) := by decide +kernel
theorem dX5_append_6 : decode cX5_append 6 = .ok (.if_icmp .lt 5, 3) := by decide +kernel
theorem dX5_append_9 : decode cX5_append 9 = .ok (.iconst 0, 1) := by decide +kernel
theorem dX5_append_10 : decode cX5_append 10 = .ok (.ireturn, 1) := by decide +kernel
theorem dX5_append_11 : decode cX5_append 11 = .ok (.aload_n 0, 1) := by decide +kernel
theorem dX5_append_12 : decode cX5_append 12 = .ok (.getfield 11, 3) := by decide +kernel
theorem dX5_append_15 : decode cX5_append 15 = .ok (.aload_n 0, 1) := by decide +kernel
theorem dX5_append_16 : decode cX5_append 16 = .ok (.getfield 15, 3) := by decide +kernel
theorem dX5_append_19 : decode cX5_append 19 = .ok (.iload_n 1, 1) := by decide +kernel
theorem dX5_append_20 : decode cX5_append 20 = .ok (.iastore, 1) := by decide +kernel
theorem dX5_append_21 : decode cX5_append 21 = .ok (.aload_n 0, 1) := by decide +kernel
theorem dX5_append_22 : decode cX5_append 22 = .ok (.dup, 1) := by decide +kernel
theorem dX5_append_23 : decode cX5_append 23 = .ok (.getfield 15, 3) := by decide +kernel
theorem dX5_append_26 : decode cX5_append 26 = .ok (.iconst 1, 1) := by decide +kernel
theorem dX5_append_27 : decode cX5_append 27 = .ok (.iadd, 1) := by decide +kernel
theorem dX5_append_28 : decode cX5_append 28 = .ok (.putfield 15, 3) := by decide +kernel
theorem dX5_append_31 : decode cX5_append 31 = .ok (.iconst 1, 1) := by decide +kernel
theorem dX5_append_32 : decode cX5_append 32 = .ok (.ireturn, 1) := by decide +kernel
theorem dX5_readFormula_0 : decode cX5_readFormula 0 = .ok (.aload_n 0, 1) := by decide +kernel
theorem dX5_readFormula_1 : decode cX5_readFormula 1 = .ok (.iload_n 1, 1) := by decide +kernel
theorem dX5_readFormula_2 : decode cX5_readFormula 2 = .ok (.putfield 19, 3) := by decide +kernel
theorem dX5_readFormula_5 : decode cX5_readFormula 5 = .ok (.aload_n 0, 1) := by decide +kernel
theorem dX5_readFormula_6 : decode cX5_readFormula 6 = .ok (.iload_n 1, 1) := by decide +kernel
theorem dX5_readFormula_7 : decode cX5_readFormula 7 = .ok (.invokestatic 22, 3) := by decide +kernel
theorem dX5_readFormula_10 : decode cX5_readFormula 10 = .ok (.putfield 26, 3) := by decide +kernel
theorem dX5_readFormula_13 : decode cX5_readFormula 13 = .ok (.aload_n 0, 1) := by decide +kernel
theorem dX5_readFormula_14 : decode cX5_readFormula 14 = .ok (.iconst 0, 1) := by decide +kernel
theorem dX5_readFormula_15 : decode cX5_readFormula 15 = .ok (.putfield 30, 3) := by decide +kernel
theorem dX5_readFormula_18 : decode cX5_readFormula 18 = .ok (.aload_n 0, 1) := by decide +kernel
theorem dX5_readFormula_19 : decode cX5_readFormula 19 = .ok (.iconst 0, 1) := by decide +kernel
theorem dX5_readFormula_20 : decode cX5_readFormula 20 = .ok (.putfield 33, 3) := by decide +kernel
theorem dX5_readFormula_23 : decode cX5_readFormula 23 = .ok (.aload_n 0, 1) := by decide +kernel
theorem dX5_readFormula_24 : decode cX5_readFormula 24 = .ok (.iconst 0, 1) := by decide +kernel
theorem dX5_readFormula_25 : decode cX5_readFormula 25 = .ok (.invokevirtual 36, 3) := by decide +kernel
theorem dX5_readFormula_28 : decode cX5_readFormula 28 = .ok (.lstore_n 2, 1) := by decide +kernel
theorem dX5_readFormula_29 : decode cX5_readFormula 29 = .ok (.aload_n 0, 1) := by decide +kernel
theorem dX5_readFormula_30 : decode cX5_readFormula 30 = .ok (.getfield 30, 3) := by decide +kernel
theorem dX5_readFormula_33 : decode cX5_readFormula 33 = .ok (.aload_n 0, 1) := by decide +kernel
theorem dX5_readFormula_34 : decode cX5_readFormula 34 = .ok (.getfield 15, 3) := by decide +kernel
theorem dX5_readFormula_37 : decode cX5_readFormula 37 = .ok (.if_icmp .ge 9, 3) := by decide +kernel
theorem dX5_readFormula_40 : decode cX5_readFormula 40 = .ok (.ldc2_w 39, 3) := by decide +kernel
theorem dX5_readFormula_43 : decode cX5_readFormula 43 = .ok (.goto 4, 3) := by decide +kernel
theorem dX5_readFormula_46 : decode cX5_readFormula 46 = .ok (.lload_n 2, 1) := by decide +kernel
theorem dX5_readFormula_47 : decode cX5_readFormula 47 = .ok (.lreturn, 1) := by decide +kernel
theorem dX5_nextIs_0 : decode cX5_nextIs 0 = .ok (.aload_n 0, 1) := by decide +kernel
theorem dX5_nextIs_1 : decode cX5_nextIs 1 = .ok (.getfield 30, 3) := by decide +kernel
theorem dX5_nextIs_4 : decode cX5_nextIs 4 = .ok (.aload_n 0, 1) := by decide +kernel
theorem dX5_nextIs_5 : decode cX5_nextIs 5 = .ok (.getfield 15, 3) := by decide +kernel
theorem dX5_nextIs_8 : decode cX5_nextIs 8 = .ok (.if_icmp .ge 20, 3) := by decide +kernel
theorem dX5_nextIs_11 : decode cX5_nextIs 11 = .ok (.aload_n 0, 1) := by decide +kernel
theorem dX5_nextIs_12 : decode cX5_nextIs 12 = .ok (.getfield 11, 3) := by decide +kernel
theorem dX5_nextIs_15 : decode cX5_nextIs 15 = .ok (.aload_n 0, 1) := by decide +kernel
theorem dX5_nextIs_16 : decode cX5_nextIs 16 = .ok (.getfield 30, 3) := by decide +kernel
theorem dX5_nextIs_19 : decode cX5_nextIs 19 = .ok (.iaload, 1) := by decide +kernel
theorem dX5_nextIs_20 : decode cX5_nextIs 20 = .ok (.iload_n 1, 1) := by decide +kernel
theorem dX5_nextIs_21 : decode cX5_nextIs 21 = .ok (.if_icmp .ne 7, 3) := by decide +kernel
theorem dX5_nextIs_24 : decode cX5_nextIs 24 = .ok (.iconst 1, 1) := by decide +kernel
theorem dX5_nextIs_25 : decode cX5_nextIs 25 = .ok (.goto 4, 3) := by decide +kernel
theorem dX5_nextIs_28 : decode cX5_nextIs 28 = .ok (.iconst 0, 1) := by decide +kernel
theorem dX5_nextIs_29 : decode cX5_nextIs 29 = .ok (.ireturn, 1) := by decide +kernel
theorem dX5_readSum_0 : decode cX5_readSum 0 = .ok (.aload_n 0, 1) := by decide +kernel
theorem dX5_readSum_1 : decode cX5_readSum 1 = .ok (.iload_n 1, 1) := by decide +kernel
theorem dX5_readSum_2 : decode cX5_readSum 2 = .ok (.invokevirtual 41, 3) := by decide +kernel
theorem dX5_readSum_5 : decode cX5_readSum 5 = .ok (.lstore_n 2, 1) := by decide +kernel
theorem dX5_readSum_6 : decode cX5_readSum 6 = .ok (.iconst 0, 1) := by decide +kernel
theorem dX5_readSum_7 : decode cX5_readSum 7 = .ok (.istore 4, 2) := by decide +kernel
theorem dX5_readSum_9 : decode cX5_readSum 9 = .ok (.iload 4, 2) := by decide +kernel
theorem dX5_readSum_11 : decode cX5_readSum 11 = .ok (.bipush 80, 2) := by decide +kernel
theorem dX5_readSum_13 : decode cX5_readSum 13 = .ok (.if_icmp .ge 63, 3) := by decide +kernel
theorem dX5_readSum_16 : decode cX5_readSum 16 = .ok (.lload_n 2, 1) := by decide +kernel
theorem dX5_readSum_17 : decode cX5_readSum 17 = .ok (.ldc2_w 39, 3) := by decide +kernel
theorem dX5_readSum_20 : decode cX5_readSum 20 = .ok (.lcmp, 1) := by decide +kernel
theorem dX5_readSum_21 : decode cX5_readSum 21 = .ok (.ifCond .eq 55, 3) := by decide +kernel
theorem dX5_readSum_24 : decode cX5_readSum 24 = .ok (.aload_n 0, 1) := by decide +kernel
theorem dX5_readSum_25 : decode cX5_readSum 25 = .ok (.bipush 43, 2) := by decide +kernel
theorem dX5_readSum_27 : decode cX5_readSum 27 = .ok (.invokevirtual 44, 3) := by decide +kernel
theorem dX5_readSum_30 : decode cX5_readSum 30 = .ok (.ifCond .eq 46, 3) := by decide +kernel
theorem dX5_readSum_33 : decode cX5_readSum 33 = .ok (.aload_n 0, 1) := by decide +kernel
theorem dX5_readSum_34 : decode cX5_readSum 34 = .ok (.dup, 1) := by decide +kernel
theorem dX5_readSum_35 : decode cX5_readSum 35 = .ok (.getfield 30, 3) := by decide +kernel
theorem dX5_readSum_38 : decode cX5_readSum 38 = .ok (.iconst 1, 1) := by decide +kernel
theorem dX5_readSum_39 : decode cX5_readSum 39 = .ok (.iadd, 1) := by decide +kernel
theorem dX5_readSum_40 : decode cX5_readSum 40 = .ok (.putfield 30, 3) := by decide +kernel
theorem dX5_readSum_43 : decode cX5_readSum 43 = .ok (.aload_n 0, 1) := by decide +kernel
theorem dX5_readSum_44 : decode cX5_readSum 44 = .ok (.iload_n 1, 1) := by decide +kernel
theorem dX5_readSum_45 : decode cX5_readSum 45 = .ok (.invokevirtual 41, 3) := by decide +kernel
theorem dX5_readSum_48 : decode cX5_readSum 48 = .ok (.lstore 5, 2) := by decide +kernel
theorem dX5_readSum_50 : decode cX5_readSum 50 = .ok (.lload 5, 2) := by decide +kernel
theorem dX5_readSum_52 : decode cX5_readSum 52 = .ok (.ldc2_w 39, 3) := by decide +kernel
theorem dX5_readSum_55 : decode cX5_readSum 55 = .ok (.lcmp, 1) := by decide +kernel
theorem dX5_readSum_56 : decode cX5_readSum 56 = .ok (.ifCond .ne 9, 3) := by decide +kernel
theorem dX5_readSum_59 : decode cX5_readSum 59 = .ok (.ldc2_w 39, 3) := by decide +kernel
theorem dX5_readSum_62 : decode cX5_readSum 62 = .ok (.goto 7, 3) := by decide +kernel
theorem dX5_readSum_65 : decode cX5_readSum 65 = .ok (.lload_n 2, 1) := by decide +kernel
theorem dX5_readSum_66 : decode cX5_readSum 66 = .ok (.lload 5, 2) := by decide +kernel
theorem dX5_readSum_68 : decode cX5_readSum 68 = .ok (.lor, 1) := by decide +kernel
theorem dX5_readSum_69 : decode cX5_readSum 69 = .ok (.lstore_n 2, 1) := by decide +kernel
theorem dX5_readSum_70 : decode cX5_readSum 70 = .ok (.iinc 4 1, 3) := by decide +kernel
theorem dX5_readSum_73 : decode cX5_readSum 73 = .ok (.goto (-64), 3) := by decide +kernel
theorem dX5_readSum_76 : decode cX5_readSum 76 = .ok (.lload_n 2, 1) := by decide +kernel
theorem dX5_readSum_77 : decode cX5_readSum 77 = .ok (.lreturn, 1) := by decide +kernel
theorem dX5_readProduct_0 : decode cX5_readProduct 0 = .ok (.aload_n 0, 1) := by decide +kernel
theorem dX5_readProduct_1 : decode cX5_readProduct 1 = .ok (.iload_n 1, 1) := by decide +kernel
theorem dX5_readProduct_2 : decode cX5_readProduct 2 = .ok (.invokevirtual 48, 3) := by decide +kernel
theorem dX5_readProduct_5 : decode cX5_readProduct 5 = .ok (.lstore_n 2, 1) := by decide +kernel
theorem dX5_readProduct_6 : decode cX5_readProduct 6 = .ok (.iconst 0, 1) := by decide +kernel
theorem dX5_readProduct_7 : decode cX5_readProduct 7 = .ok (.istore 4, 2) := by decide +kernel
theorem dX5_readProduct_9 : decode cX5_readProduct 9 = .ok (.iload 4, 2) := by decide +kernel
theorem dX5_readProduct_11 : decode cX5_readProduct 11 = .ok (.bipush 80, 2) := by decide +kernel
theorem dX5_readProduct_13 : decode cX5_readProduct 13 = .ok (.if_icmp .ge 63, 3) := by decide +kernel
theorem dX5_readProduct_16 : decode cX5_readProduct 16 = .ok (.lload_n 2, 1) := by decide +kernel
theorem dX5_readProduct_17 : decode cX5_readProduct 17 = .ok (.ldc2_w 39, 3) := by decide +kernel
theorem dX5_readProduct_20 : decode cX5_readProduct 20 = .ok (.lcmp, 1) := by decide +kernel
theorem dX5_readProduct_21 : decode cX5_readProduct 21 = .ok (.ifCond .eq 55, 3) := by decide +kernel
theorem dX5_readProduct_24 : decode cX5_readProduct 24 = .ok (.aload_n 0, 1) := by decide +kernel
theorem dX5_readProduct_25 : decode cX5_readProduct 25 = .ok (.bipush 42, 2) := by decide +kernel
theorem dX5_readProduct_27 : decode cX5_readProduct 27 = .ok (.invokevirtual 44, 3) := by decide +kernel
theorem dX5_readProduct_30 : decode cX5_readProduct 30 = .ok (.ifCond .eq 46, 3) := by decide +kernel
theorem dX5_readProduct_33 : decode cX5_readProduct 33 = .ok (.aload_n 0, 1) := by decide +kernel
theorem dX5_readProduct_34 : decode cX5_readProduct 34 = .ok (.dup, 1) := by decide +kernel
theorem dX5_readProduct_35 : decode cX5_readProduct 35 = .ok (.getfield 30, 3) := by decide +kernel
theorem dX5_readProduct_38 : decode cX5_readProduct 38 = .ok (.iconst 1, 1) := by decide +kernel
theorem dX5_readProduct_39 : decode cX5_readProduct 39 = .ok (.iadd, 1) := by decide +kernel
theorem dX5_readProduct_40 : decode cX5_readProduct 40 = .ok (.putfield 30, 3) := by decide +kernel
theorem dX5_readProduct_43 : decode cX5_readProduct 43 = .ok (.aload_n 0, 1) := by decide +kernel
theorem dX5_readProduct_44 : decode cX5_readProduct 44 = .ok (.iload_n 1, 1) := by decide +kernel
theorem dX5_readProduct_45 : decode cX5_readProduct 45 = .ok (.invokevirtual 48, 3) := by decide +kernel
theorem dX5_readProduct_48 : decode cX5_readProduct 48 = .ok (.lstore 5, 2) := by decide +kernel
theorem dX5_readProduct_50 : decode cX5_readProduct 50 = .ok (.lload 5, 2) := by decide +kernel
theorem dX5_readProduct_52 : decode cX5_readProduct 52 = .ok (.ldc2_w 39, 3) := by decide +kernel
theorem dX5_readProduct_55 : decode cX5_readProduct 55 = .ok (.lcmp, 1) := by decide +kernel
theorem dX5_readProduct_56 : decode cX5_readProduct 56 = .ok (.ifCond .ne 9, 3) := by decide +kernel
theorem dX5_readProduct_59 : decode cX5_readProduct 59 = .ok (.ldc2_w 39, 3) := by decide +kernel
theorem dX5_readProduct_62 : decode cX5_readProduct 62 = .ok (.goto 7, 3) := by decide +kernel
theorem dX5_readProduct_65 : decode cX5_readProduct 65 = .ok (.lload_n 2, 1) := by decide +kernel
theorem dX5_readProduct_66 : decode cX5_readProduct 66 = .ok (.lload 5, 2) := by decide +kernel
theorem dX5_readProduct_68 : decode cX5_readProduct 68 = .ok (.land, 1) := by decide +kernel
theorem dX5_readProduct_69 : decode cX5_readProduct 69 = .ok (.lstore_n 2, 1) := by decide +kernel
theorem dX5_readProduct_70 : decode cX5_readProduct 70 = .ok (.iinc 4 1, 3) := by decide +kernel
theorem dX5_readProduct_73 : decode cX5_readProduct 73 = .ok (.goto (-64), 3) := by decide +kernel
theorem dX5_readProduct_76 : decode cX5_readProduct 76 = .ok (.lload_n 2, 1) := by decide +kernel
theorem dX5_readProduct_77 : decode cX5_readProduct 77 = .ok (.lreturn, 1) := by decide +kernel
theorem dX5_readFactor_0 : decode cX5_readFactor 0 = .ok (.aload_n 0, 1) := by decide +kernel
theorem dX5_readFactor_1 : decode cX5_readFactor 1 = .ok (.bipush 33, 2) := by decide +kernel
theorem dX5_readFactor_3 : decode cX5_readFactor 3 = .ok (.invokevirtual 44, 3) := by decide +kernel
theorem dX5_readFactor_6 : decode cX5_readFactor 6 = .ok (.ifCond .ne 12, 3) := by decide +kernel
theorem dX5_readFactor_9 : decode cX5_readFactor 9 = .ok (.aload_n 0, 1) := by decide +kernel
theorem dX5_readFactor_10 : decode cX5_readFactor 10 = .ok (.bipush 40, 2) := by decide +kernel
theorem dX5_readFactor_12 : decode cX5_readFactor 12 = .ok (.invokevirtual 44, 3) := by decide +kernel
theorem dX5_readFactor_15 : decode cX5_readFactor 15 = .ok (.ifCond .eq 23, 3) := by decide +kernel
theorem dX5_readFactor_18 : decode cX5_readFactor 18 = .ok (.iload_n 1, 1) := by decide +kernel
theorem dX5_readFactor_19 : decode cX5_readFactor 19 = .ok (.bipush 6, 2) := by decide +kernel
theorem dX5_readFactor_21 : decode cX5_readFactor 21 = .ok (.if_icmp .ge 13, 3) := by decide +kernel
theorem dX5_readFactor_24 : decode cX5_readFactor 24 = .ok (.aload_n 0, 1) := by decide +kernel
theorem dX5_readFactor_25 : decode cX5_readFactor 25 = .ok (.iload_n 1, 1) := by decide +kernel
theorem dX5_readFactor_26 : decode cX5_readFactor 26 = .ok (.iconst 1, 1) := by decide +kernel
theorem dX5_readFactor_27 : decode cX5_readFactor 27 = .ok (.iadd, 1) := by decide +kernel
theorem dX5_readFactor_28 : decode cX5_readFactor 28 = .ok (.invokevirtual 51, 3) := by decide +kernel
theorem dX5_readFactor_31 : decode cX5_readFactor 31 = .ok (.goto 6, 3) := by decide +kernel
theorem dX5_readFactor_34 : decode cX5_readFactor 34 = .ok (.ldc2_w 39, 3) := by decide +kernel
theorem dX5_readFactor_37 : decode cX5_readFactor 37 = .ok (.lreturn, 1) := by decide +kernel
theorem dX5_readFactor_38 : decode cX5_readFactor 38 = .ok (.aload_n 0, 1) := by decide +kernel
theorem dX5_readFactor_39 : decode cX5_readFactor 39 = .ok (.invokevirtual 54, 3) := by decide +kernel
theorem dX5_readFactor_42 : decode cX5_readFactor 42 = .ok (.lreturn, 1) := by decide +kernel
theorem dX5_readOpened_0 : decode cX5_readOpened 0 = .ok (.aload_n 0, 1) := by decide +kernel
theorem dX5_readOpened_1 : decode cX5_readOpened 1 = .ok (.bipush 33, 2) := by decide +kernel
theorem dX5_readOpened_3 : decode cX5_readOpened 3 = .ok (.invokevirtual 44, 3) := by decide +kernel
theorem dX5_readOpened_6 : decode cX5_readOpened 6 = .ok (.istore_n 2, 1) := by decide +kernel
theorem dX5_readOpened_7 : decode cX5_readOpened 7 = .ok (.aload_n 0, 1) := by decide +kernel
theorem dX5_readOpened_8 : decode cX5_readOpened 8 = .ok (.dup, 1) := by decide +kernel
theorem dX5_readOpened_9 : decode cX5_readOpened 9 = .ok (.getfield 30, 3) := by decide +kernel
theorem dX5_readOpened_12 : decode cX5_readOpened 12 = .ok (.iconst 1, 1) := by decide +kernel
theorem dX5_readOpened_13 : decode cX5_readOpened 13 = .ok (.iadd, 1) := by decide +kernel
theorem dX5_readOpened_14 : decode cX5_readOpened 14 = .ok (.putfield 30, 3) := by decide +kernel
theorem dX5_readOpened_17 : decode cX5_readOpened 17 = .ok (.iload_n 2, 1) := by decide +kernel
theorem dX5_readOpened_18 : decode cX5_readOpened 18 = .ok (.ifCond .eq 11, 3) := by decide +kernel
theorem dX5_readOpened_21 : decode cX5_readOpened 21 = .ok (.aload_n 0, 1) := by decide +kernel
theorem dX5_readOpened_22 : decode cX5_readOpened 22 = .ok (.iload_n 1, 1) := by decide +kernel
theorem dX5_readOpened_23 : decode cX5_readOpened 23 = .ok (.invokevirtual 48, 3) := by decide +kernel
theorem dX5_readOpened_26 : decode cX5_readOpened 26 = .ok (.goto 8, 3) := by decide +kernel
theorem dX5_readOpened_29 : decode cX5_readOpened 29 = .ok (.aload_n 0, 1) := by decide +kernel
theorem dX5_readOpened_30 : decode cX5_readOpened 30 = .ok (.iload_n 1, 1) := by decide +kernel
theorem dX5_readOpened_31 : decode cX5_readOpened 31 = .ok (.invokevirtual 36, 3) := by decide +kernel
theorem dX5_readOpened_34 : decode cX5_readOpened 34 = .ok (.lstore_n 3, 1) := by decide +kernel
theorem dX5_readOpened_35 : decode cX5_readOpened 35 = .ok (.lload_n 3, 1) := by decide +kernel
theorem dX5_readOpened_36 : decode cX5_readOpened 36 = .ok (.ldc2_w 39, 3) := by decide +kernel
theorem dX5_readOpened_39 : decode cX5_readOpened 39 = .ok (.lcmp, 1) := by decide +kernel
theorem dX5_readOpened_40 : decode cX5_readOpened 40 = .ok (.ifCond .ne 7, 3) := by decide +kernel
theorem dX5_readOpened_43 : decode cX5_readOpened 43 = .ok (.ldc2_w 39, 3) := by decide +kernel
theorem dX5_readOpened_46 : decode cX5_readOpened 46 = .ok (.lreturn, 1) := by decide +kernel
theorem dX5_readOpened_47 : decode cX5_readOpened 47 = .ok (.iload_n 2, 1) := by decide +kernel
theorem dX5_readOpened_48 : decode cX5_readOpened 48 = .ok (.ifCond .eq 10, 3) := by decide +kernel
theorem dX5_readOpened_51 : decode cX5_readOpened 51 = .ok (.lload_n 3, 1) := by decide +kernel
theorem dX5_readOpened_52 : decode cX5_readOpened 52 = .ok (.aload_n 0, 1) := by decide +kernel
theorem dX5_readOpened_53 : decode cX5_readOpened 53 = .ok (.getfield 26, 3) := by decide +kernel
theorem dX5_readOpened_56 : decode cX5_readOpened 56 = .ok (.lxor, 1) := by decide +kernel
theorem dX5_readOpened_57 : decode cX5_readOpened 57 = .ok (.lreturn, 1) := by decide +kernel
theorem dX5_readOpened_58 : decode cX5_readOpened 58 = .ok (.aload_n 0, 1) := by decide +kernel
theorem dX5_readOpened_59 : decode cX5_readOpened 59 = .ok (.bipush 41, 2) := by decide +kernel
theorem dX5_readOpened_61 : decode cX5_readOpened 61 = .ok (.invokevirtual 44, 3) := by decide +kernel
theorem dX5_readOpened_64 : decode cX5_readOpened 64 = .ok (.ifCond .ne 7, 3) := by decide +kernel
theorem dX5_readOpened_67 : decode cX5_readOpened 67 = .ok (.ldc2_w 39, 3) := by decide +kernel
theorem dX5_readOpened_70 : decode cX5_readOpened 70 = .ok (.lreturn, 1) := by decide +kernel
theorem dX5_readOpened_71 : decode cX5_readOpened 71 = .ok (.aload_n 0, 1) := by decide +kernel
theorem dX5_readOpened_72 : decode cX5_readOpened 72 = .ok (.dup, 1) := by decide +kernel
theorem dX5_readOpened_73 : decode cX5_readOpened 73 = .ok (.getfield 30, 3) := by decide +kernel
theorem dX5_readOpened_76 : decode cX5_readOpened 76 = .ok (.iconst 1, 1) := by decide +kernel
theorem dX5_readOpened_77 : decode cX5_readOpened 77 = .ok (.iadd, 1) := by decide +kernel
theorem dX5_readOpened_78 : decode cX5_readOpened 78 = .ok (.putfield 30, 3) := by decide +kernel
theorem dX5_readOpened_81 : decode cX5_readOpened 81 = .ok (.lload_n 3, 1) := by decide +kernel
theorem dX5_readOpened_82 : decode cX5_readOpened 82 = .ok (.lreturn, 1) := by decide +kernel
theorem dX5_readAtom_0 : decode cX5_readAtom 0 = .ok (.aload_n 0, 1) := by decide +kernel
theorem dX5_readAtom_1 : decode cX5_readAtom 1 = .ok (.getfield 30, 3) := by decide +kernel
theorem dX5_readAtom_4 : decode cX5_readAtom 4 = .ok (.aload_n 0, 1) := by decide +kernel
theorem dX5_readAtom_5 : decode cX5_readAtom 5 = .ok (.getfield 15, 3) := by decide +kernel
theorem dX5_readAtom_8 : decode cX5_readAtom 8 = .ok (.if_icmp .lt 7, 3) := by decide +kernel
theorem dX5_readAtom_11 : decode cX5_readAtom 11 = .ok (.ldc2_w 39, 3) := by decide +kernel
theorem dX5_readAtom_14 : decode cX5_readAtom 14 = .ok (.lreturn, 1) := by decide +kernel
theorem dX5_readAtom_15 : decode cX5_readAtom 15 = .ok (.aload_n 0, 1) := by decide +kernel
theorem dX5_readAtom_16 : decode cX5_readAtom 16 = .ok (.getfield 11, 3) := by decide +kernel
theorem dX5_readAtom_19 : decode cX5_readAtom 19 = .ok (.aload_n 0, 1) := by decide +kernel
theorem dX5_readAtom_20 : decode cX5_readAtom 20 = .ok (.getfield 30, 3) := by decide +kernel
theorem dX5_readAtom_23 : decode cX5_readAtom 23 = .ok (.iaload, 1) := by decide +kernel
theorem dX5_readAtom_24 : decode cX5_readAtom 24 = .ok (.istore_n 1, 1) := by decide +kernel
theorem dX5_readAtom_25 : decode cX5_readAtom 25 = .ok (.iload_n 1, 1) := by decide +kernel
theorem dX5_readAtom_26 : decode cX5_readAtom 26 = .ok (.bipush 97, 2) := by decide +kernel
theorem dX5_readAtom_28 : decode cX5_readAtom 28 = .ok (.isub, 1) := by decide +kernel
theorem dX5_readAtom_29 : decode cX5_readAtom 29 = .ok (.istore_n 2, 1) := by decide +kernel
theorem dX5_readAtom_30 : decode cX5_readAtom 30 = .ok (.iload_n 2, 1) := by decide +kernel
theorem dX5_readAtom_31 : decode cX5_readAtom 31 = .ok (.aload_n 0, 1) := by decide +kernel
theorem dX5_readAtom_32 : decode cX5_readAtom 32 = .ok (.getfield 19, 3) := by decide +kernel
theorem dX5_readAtom_35 : decode cX5_readAtom 35 = .ok (.invokestatic 58, 3) := by decide +kernel
theorem dX5_readAtom_38 : decode cX5_readAtom 38 = .ok (.ifCond .eq 39, 3) := by decide +kernel
theorem dX5_readAtom_41 : decode cX5_readAtom 41 = .ok (.iload_n 2, 1) := by decide +kernel
theorem dX5_readAtom_42 : decode cX5_readAtom 42 = .ok (.iconst 5, 1) := by decide +kernel
theorem dX5_readAtom_43 : decode cX5_readAtom 43 = .ok (.if_icmp .ge 34, 3) := by decide +kernel
theorem dX5_readAtom_46 : decode cX5_readAtom 46 = .ok (.aload_n 0, 1) := by decide +kernel
theorem dX5_readAtom_47 : decode cX5_readAtom 47 = .ok (.dup, 1) := by decide +kernel
theorem dX5_readAtom_48 : decode cX5_readAtom 48 = .ok (.getfield 30, 3) := by decide +kernel
theorem dX5_readAtom_51 : decode cX5_readAtom 51 = .ok (.iconst 1, 1) := by decide +kernel
theorem dX5_readAtom_52 : decode cX5_readAtom 52 = .ok (.iadd, 1) := by decide +kernel
theorem dX5_readAtom_53 : decode cX5_readAtom 53 = .ok (.putfield 30, 3) := by decide +kernel
theorem dX5_readAtom_56 : decode cX5_readAtom 56 = .ok (.aload_n 0, 1) := by decide +kernel
theorem dX5_readAtom_57 : decode cX5_readAtom 57 = .ok (.dup, 1) := by decide +kernel
theorem dX5_readAtom_58 : decode cX5_readAtom 58 = .ok (.getfield 33, 3) := by decide +kernel
theorem dX5_readAtom_61 : decode cX5_readAtom 61 = .ok (.iconst 1, 1) := by decide +kernel
theorem dX5_readAtom_62 : decode cX5_readAtom 62 = .ok (.iadd, 1) := by decide +kernel
theorem dX5_readAtom_63 : decode cX5_readAtom 63 = .ok (.putfield 33, 3) := by decide +kernel
theorem dX5_readAtom_66 : decode cX5_readAtom 66 = .ok (.getstatic 62, 3) := by decide +kernel
theorem dX5_readAtom_69 : decode cX5_readAtom 69 = .ok (.iload_n 2, 1) := by decide +kernel
theorem dX5_readAtom_70 : decode cX5_readAtom 70 = .ok (.laload, 1) := by decide +kernel
theorem dX5_readAtom_71 : decode cX5_readAtom 71 = .ok (.aload_n 0, 1) := by decide +kernel
theorem dX5_readAtom_72 : decode cX5_readAtom 72 = .ok (.getfield 26, 3) := by decide +kernel
theorem dX5_readAtom_75 : decode cX5_readAtom 75 = .ok (.land, 1) := by decide +kernel
theorem dX5_readAtom_76 : decode cX5_readAtom 76 = .ok (.lreturn, 1) := by decide +kernel
theorem dX5_readAtom_77 : decode cX5_readAtom 77 = .ok (.iload_n 1, 1) := by decide +kernel
theorem dX5_readAtom_78 : decode cX5_readAtom 78 = .ok (.bipush 48, 2) := by decide +kernel
theorem dX5_readAtom_80 : decode cX5_readAtom 80 = .ok (.if_icmp .eq 9, 3) := by decide +kernel
theorem dX5_readAtom_83 : decode cX5_readAtom 83 = .ok (.iload_n 1, 1) := by decide +kernel
theorem dX5_readAtom_84 : decode cX5_readAtom 84 = .ok (.bipush 49, 2) := by decide +kernel
theorem dX5_readAtom_86 : decode cX5_readAtom 86 = .ok (.if_icmp .ne 28, 3) := by decide +kernel
theorem dX5_readAtom_89 : decode cX5_readAtom 89 = .ok (.aload_n 0, 1) := by decide +kernel
theorem dX5_readAtom_90 : decode cX5_readAtom 90 = .ok (.dup, 1) := by decide +kernel
theorem dX5_readAtom_91 : decode cX5_readAtom 91 = .ok (.getfield 30, 3) := by decide +kernel
theorem dX5_readAtom_94 : decode cX5_readAtom 94 = .ok (.iconst 1, 1) := by decide +kernel
theorem dX5_readAtom_95 : decode cX5_readAtom 95 = .ok (.iadd, 1) := by decide +kernel
theorem dX5_readAtom_96 : decode cX5_readAtom 96 = .ok (.putfield 30, 3) := by decide +kernel
theorem dX5_readAtom_99 : decode cX5_readAtom 99 = .ok (.iload_n 1, 1) := by decide +kernel
theorem dX5_readAtom_100 : decode cX5_readAtom 100 = .ok (.bipush 49, 2) := by decide +kernel
theorem dX5_readAtom_102 : decode cX5_readAtom 102 = .ok (.if_icmp .ne 10, 3) := by decide +kernel
theorem dX5_readAtom_105 : decode cX5_readAtom 105 = .ok (.aload_n 0, 1) := by decide +kernel
theorem dX5_readAtom_106 : decode cX5_readAtom 106 = .ok (.getfield 26, 3) := by decide +kernel
theorem dX5_readAtom_109 : decode cX5_readAtom 109 = .ok (.goto 4, 3) := by decide +kernel
theorem dX5_readAtom_112 : decode cX5_readAtom 112 = .ok (.lconst 0, 1) := by decide +kernel
theorem dX5_readAtom_113 : decode cX5_readAtom 113 = .ok (.lreturn, 1) := by decide +kernel
theorem dX5_readAtom_114 : decode cX5_readAtom 114 = .ok (.ldc2_w 39, 3) := by decide +kernel
theorem dX5_readAtom_117 : decode cX5_readAtom 117 = .ok (.lreturn, 1) := by decide +kernel
theorem dX6_init_0 : decode cX6_init 0 = .ok (.aload_n 0, 1) := by decide +kernel
theorem dX6_init_1 : decode cX6_init 1 = .ok (.invokespecial 3, 3) := by decide +kernel
theorem dX6_init_4 : decode cX6_init 4 = .ok (.aload_n 0, 1) := by decide +kernel
theorem dX6_init_5 : decode cX6_init 5 = .ok (.iconst 3, 1) := by decide +kernel
theorem dX6_init_6 : decode cX6_init 6 = .ok (.putfield 9, 3) := by decide +kernel
theorem dX6_init_9 : decode cX6_init 9 = .ok (.aload_n 0, 1) := by decide +kernel
theorem dX6_init_10 : decode cX6_init 10 = .ok (.bipush 8, 2) := by decide +kernel
theorem dX6_init_12 : decode cX6_init 12 = .ok (.newarray .long, 2) := by decide +kernel
theorem dX6_init_14 : decode cX6_init 14 = .ok (.putfield 15, 3) := by decide +kernel
theorem dX6_init_17 : decode cX6_init 17 = .ok (.aload_n 0, 1) := by decide +kernel
theorem dX6_init_18 : decode cX6_init 18 = .ok (.lconst 0, 1) := by decide +kernel
theorem dX6_init_19 : decode cX6_init 19 = .ok (.putfield 19, 3) := by decide +kernel
theorem dX6_init_22 : decode cX6_init 22 = .ok (.aload_n 0, 1) := by decide +kernel
theorem dX6_init_23 : decode cX6_init 23 = .ok (.lconst 0, 1) := by decide +kernel
theorem dX6_init_24 : decode cX6_init 24 = .ok (.putfield 23, 3) := by decide +kernel
theorem dX6_init_27 : decode cX6_init 27 = .ok (.aload_n 0, 1) := by decide +kernel
theorem dX6_init_28 : decode cX6_init 28 = .ok (.bipush 32, 2) := by decide +kernel
theorem dX6_init_30 : decode cX6_init 30 = .ok (.newarray .int, 2) := by decide +kernel
theorem dX6_init_32 : decode cX6_init 32 = .ok (.putfield 26, 3) := by decide +kernel
theorem dX6_init_35 : decode cX6_init 35 = .ok (.aload_n 0, 1) := by decide +kernel
theorem dX6_init_36 : decode cX6_init 36 = .ok (.iconst 0, 1) := by decide +kernel
theorem dX6_init_37 : decode cX6_init 37 = .ok (.putfield 30, 3) := by decide +kernel
theorem dX6_init_40 : decode cX6_init 40 = .ok (.aload_n 0, 1) := by decide +kernel
theorem dX6_init_41 : decode cX6_init 41 = .ok (.getfield 15, 3) := by decide +kernel
theorem dX6_init_44 : decode cX6_init 44 = .ok (.ldc2_w 33, 3) := by decide +kernel
theorem dX6_init_47 : decode cX6_init 47 = .ok (.invokestatic 35, 3) := by decide +kernel
theorem dX6_init_50 : decode cX6_init 50 = .ok (.return_, 1) := by decide +kernel
theorem dX6_startAnew_0 : decode cX6_startAnew 0 = .ok (.aload_n 0, 1) := by decide +kernel
theorem dX6_startAnew_1 : decode cX6_startAnew 1 = .ok (.iload_n 1, 1) := by decide +kernel
theorem dX6_startAnew_2 : decode cX6_startAnew 2 = .ok (.putfield 9, 3) := by decide +kernel
theorem dX6_startAnew_5 : decode cX6_startAnew 5 = .ok (.aload_n 0, 1) := by decide +kernel
theorem dX6_startAnew_6 : decode cX6_startAnew 6 = .ok (.getfield 15, 3) := by decide +kernel
theorem dX6_startAnew_9 : decode cX6_startAnew 9 = .ok (.ldc2_w 33, 3) := by decide +kernel
theorem dX6_startAnew_12 : decode cX6_startAnew 12 = .ok (.invokestatic 35, 3) := by decide +kernel
theorem dX6_startAnew_15 : decode cX6_startAnew 15 = .ok (.aload_n 0, 1) := by decide +kernel
theorem dX6_startAnew_16 : decode cX6_startAnew 16 = .ok (.lconst 0, 1) := by decide +kernel
theorem dX6_startAnew_17 : decode cX6_startAnew 17 = .ok (.putfield 19, 3) := by decide +kernel
theorem dX6_startAnew_20 : decode cX6_startAnew 20 = .ok (.aload_n 0, 1) := by decide +kernel
theorem dX6_startAnew_21 : decode cX6_startAnew 21 = .ok (.lconst 0, 1) := by decide +kernel
theorem dX6_startAnew_22 : decode cX6_startAnew 22 = .ok (.putfield 23, 3) := by decide +kernel
theorem dX6_startAnew_25 : decode cX6_startAnew 25 = .ok (.aload_n 0, 1) := by decide +kernel
theorem dX6_startAnew_26 : decode cX6_startAnew 26 = .ok (.iconst 0, 1) := by decide +kernel
theorem dX6_startAnew_27 : decode cX6_startAnew 27 = .ok (.putfield 30, 3) := by decide +kernel
theorem dX6_startAnew_30 : decode cX6_startAnew 30 = .ok (.return_, 1) := by decide +kernel
theorem dX6_copyFrom_0 : decode cX6_copyFrom 0 = .ok (.aload_n 0, 1) := by decide +kernel
theorem dX6_copyFrom_1 : decode cX6_copyFrom 1 = .ok (.aload_n 1, 1) := by decide +kernel
theorem dX6_copyFrom_2 : decode cX6_copyFrom 2 = .ok (.getfield 9, 3) := by decide +kernel
theorem dX6_copyFrom_5 : decode cX6_copyFrom 5 = .ok (.putfield 9, 3) := by decide +kernel
theorem dX6_copyFrom_8 : decode cX6_copyFrom 8 = .ok (.aload_n 1, 1) := by decide +kernel
theorem dX6_copyFrom_9 : decode cX6_copyFrom 9 = .ok (.getfield 15, 3) := by decide +kernel
theorem dX6_copyFrom_12 : decode cX6_copyFrom 12 = .ok (.iconst 0, 1) := by decide +kernel
theorem dX6_copyFrom_13 : decode cX6_copyFrom 13 = .ok (.aload_n 0, 1) := by decide +kernel
theorem dX6_copyFrom_14 : decode cX6_copyFrom 14 = .ok (.getfield 15, 3) := by decide +kernel
theorem dX6_copyFrom_17 : decode cX6_copyFrom 17 = .ok (.iconst 0, 1) := by decide +kernel
theorem dX6_copyFrom_18 : decode cX6_copyFrom 18 = .ok (.bipush 8, 2) := by decide +kernel
theorem dX6_copyFrom_20 : decode cX6_copyFrom 20 = .ok (.invokestatic 41, 3) := by decide +kernel
theorem dX6_copyFrom_23 : decode cX6_copyFrom 23 = .ok (.aload_n 0, 1) := by decide +kernel
theorem dX6_copyFrom_24 : decode cX6_copyFrom 24 = .ok (.aload_n 1, 1) := by decide +kernel
theorem dX6_copyFrom_25 : decode cX6_copyFrom 25 = .ok (.getfield 19, 3) := by decide +kernel
theorem dX6_copyFrom_28 : decode cX6_copyFrom 28 = .ok (.putfield 19, 3) := by decide +kernel
theorem dX6_copyFrom_31 : decode cX6_copyFrom 31 = .ok (.aload_n 0, 1) := by decide +kernel
theorem dX6_copyFrom_32 : decode cX6_copyFrom 32 = .ok (.aload_n 1, 1) := by decide +kernel
theorem dX6_copyFrom_33 : decode cX6_copyFrom 33 = .ok (.getfield 23, 3) := by decide +kernel
theorem dX6_copyFrom_36 : decode cX6_copyFrom 36 = .ok (.putfield 23, 3) := by decide +kernel
theorem dX6_copyFrom_39 : decode cX6_copyFrom 39 = .ok (.aload_n 1, 1) := by decide +kernel
theorem dX6_copyFrom_40 : decode cX6_copyFrom 40 = .ok (.getfield 26, 3) := by decide +kernel
theorem dX6_copyFrom_43 : decode cX6_copyFrom 43 = .ok (.iconst 0, 1) := by decide +kernel
theorem dX6_copyFrom_44 : decode cX6_copyFrom 44 = .ok (.aload_n 0, 1) := by decide +kernel
theorem dX6_copyFrom_45 : decode cX6_copyFrom 45 = .ok (.getfield 26, 3) := by decide +kernel
theorem dX6_copyFrom_48 : decode cX6_copyFrom 48 = .ok (.iconst 0, 1) := by decide +kernel
theorem dX6_copyFrom_49 : decode cX6_copyFrom 49 = .ok (.bipush 32, 2) := by decide +kernel
theorem dX6_copyFrom_51 : decode cX6_copyFrom 51 = .ok (.invokestatic 41, 3) := by decide +kernel
theorem dX6_copyFrom_54 : decode cX6_copyFrom 54 = .ok (.aload_n 0, 1) := by decide +kernel
theorem dX6_copyFrom_55 : decode cX6_copyFrom 55 = .ok (.aload_n 1, 1) := by decide +kernel
theorem dX6_copyFrom_56 : decode cX6_copyFrom 56 = .ok (.getfield 30, 3) := by decide +kernel
theorem dX6_copyFrom_59 : decode cX6_copyFrom 59 = .ok (.putfield 30, 3) := by decide +kernel
theorem dX6_copyFrom_62 : decode cX6_copyFrom 62 = .ok (.return_, 1) := by decide +kernel
theorem dX6_holds_0 : decode cX6_holds 0 = .ok (.iload_n 1, 1) := by decide +kernel
theorem dX6_holds_1 : decode cX6_holds 1 = .ok (.invokestatic 47, 3) := by decide +kernel
theorem dX6_holds_4 : decode cX6_holds 4 = .ok (.ifCond .eq 20, 3) := by decide +kernel
theorem dX6_holds_7 : decode cX6_holds 7 = .ok (.aload_n 0, 1) := by decide +kernel
theorem dX6_holds_8 : decode cX6_holds 8 = .ok (.getfield 15, 3) := by decide +kernel
theorem dX6_holds_11 : decode cX6_holds 11 = .ok (.iload_n 1, 1) := by decide +kernel
theorem dX6_holds_12 : decode cX6_holds 12 = .ok (.laload, 1) := by decide +kernel
theorem dX6_holds_13 : decode cX6_holds 13 = .ok (.ldc2_w 33, 3) := by decide +kernel
theorem dX6_holds_16 : decode cX6_holds 16 = .ok (.lcmp, 1) := by decide +kernel
theorem dX6_holds_17 : decode cX6_holds 17 = .ok (.ifCond .eq 7, 3) := by decide +kernel
theorem dX6_holds_20 : decode cX6_holds 20 = .ok (.iconst 1, 1) := by decide +kernel
theorem dX6_holds_21 : decode cX6_holds 21 = .ok (.goto 4, 3) := by decide +kernel
theorem dX6_holds_24 : decode cX6_holds 24 = .ok (.iconst 0, 1) := by decide +kernel
theorem dX6_holds_25 : decode cX6_holds 25 = .ok (.ireturn, 1) := by decide +kernel
theorem dX6_usedCount_0 : decode cX6_usedCount 0 = .ok (.iconst 0, 1) := by decide +kernel
theorem dX6_usedCount_1 : decode cX6_usedCount 1 = .ok (.istore_n 1, 1) := by decide +kernel
theorem dX6_usedCount_2 : decode cX6_usedCount 2 = .ok (.iconst 0, 1) := by decide +kernel
theorem dX6_usedCount_3 : decode cX6_usedCount 3 = .ok (.istore_n 2, 1) := by decide +kernel
theorem dX6_usedCount_4 : decode cX6_usedCount 4 = .ok (.iload_n 2, 1) := by decide +kernel
theorem dX6_usedCount_5 : decode cX6_usedCount 5 = .ok (.bipush 8, 2) := by decide +kernel
theorem dX6_usedCount_7 : decode cX6_usedCount 7 = .ok (.if_icmp .ge 20, 3) := by decide +kernel
theorem dX6_usedCount_10 : decode cX6_usedCount 10 = .ok (.aload_n 0, 1) := by decide +kernel
theorem dX6_usedCount_11 : decode cX6_usedCount 11 = .ok (.iload_n 2, 1) := by decide +kernel
theorem dX6_usedCount_12 : decode cX6_usedCount 12 = .ok (.invokevirtual 51, 3) := by decide +kernel
theorem dX6_usedCount_15 : decode cX6_usedCount 15 = .ok (.ifCond .eq 6, 3) := by decide +kernel
theorem dX6_usedCount_18 : decode cX6_usedCount 18 = .ok (.iinc 1 1, 3) := by decide +kernel
theorem dX6_usedCount_21 : decode cX6_usedCount 21 = .ok (.iinc 2 1, 3) := by decide +kernel
theorem dX6_usedCount_24 : decode cX6_usedCount 24 = .ok (.goto (-20), 3) := by decide +kernel
theorem dX6_usedCount_27 : decode cX6_usedCount 27 = .ok (.iload_n 1, 1) := by decide +kernel
theorem dX6_usedCount_28 : decode cX6_usedCount 28 = .ok (.ireturn, 1) := by decide +kernel
theorem dX6_appendStep_0 : decode cX6_appendStep 0 = .ok (.aload_n 0, 1) := by decide +kernel
theorem dX6_appendStep_1 : decode cX6_appendStep 1 = .ok (.getfield 30, 3) := by decide +kernel
theorem dX6_appendStep_4 : decode cX6_appendStep 4 = .ok (.bipush 8, 2) := by decide +kernel
theorem dX6_appendStep_6 : decode cX6_appendStep 6 = .ok (.if_icmp .ge 60, 3) := by decide +kernel
theorem dX6_appendStep_9 : decode cX6_appendStep 9 = .ok (.aload_n 0, 1) := by decide +kernel
theorem dX6_appendStep_10 : decode cX6_appendStep 10 = .ok (.getfield 30, 3) := by decide +kernel
theorem dX6_appendStep_13 : decode cX6_appendStep 13 = .ok (.iconst 4, 1) := by decide +kernel
theorem dX6_appendStep_14 : decode cX6_appendStep 14 = .ok (.imul, 1) := by decide +kernel
theorem dX6_appendStep_15 : decode cX6_appendStep 15 = .ok (.istore 5, 2) := by decide +kernel
theorem dX6_appendStep_17 : decode cX6_appendStep 17 = .ok (.aload_n 0, 1) := by decide +kernel
theorem dX6_appendStep_18 : decode cX6_appendStep 18 = .ok (.getfield 26, 3) := by decide +kernel
theorem dX6_appendStep_21 : decode cX6_appendStep 21 = .ok (.iload 5, 2) := by decide +kernel
theorem dX6_appendStep_23 : decode cX6_appendStep 23 = .ok (.iload_n 1, 1) := by decide +kernel
theorem dX6_appendStep_24 : decode cX6_appendStep 24 = .ok (.iastore, 1) := by decide +kernel
theorem dX6_appendStep_25 : decode cX6_appendStep 25 = .ok (.aload_n 0, 1) := by decide +kernel
theorem dX6_appendStep_26 : decode cX6_appendStep 26 = .ok (.getfield 26, 3) := by decide +kernel
theorem dX6_appendStep_29 : decode cX6_appendStep 29 = .ok (.iload 5, 2) := by decide +kernel
theorem dX6_appendStep_31 : decode cX6_appendStep 31 = .ok (.iconst 1, 1) := by decide +kernel
theorem dX6_appendStep_32 : decode cX6_appendStep 32 = .ok (.iadd, 1) := by decide +kernel
theorem dX6_appendStep_33 : decode cX6_appendStep 33 = .ok (.iload_n 2, 1) := by decide +kernel
theorem dX6_appendStep_34 : decode cX6_appendStep 34 = .ok (.iastore, 1) := by decide +kernel
theorem dX6_appendStep_35 : decode cX6_appendStep 35 = .ok (.aload_n 0, 1) := by decide +kernel
theorem dX6_appendStep_36 : decode cX6_appendStep 36 = .ok (.getfield 26, 3) := by decide +kernel
theorem dX6_appendStep_39 : decode cX6_appendStep 39 = .ok (.iload 5, 2) := by decide +kernel
theorem dX6_appendStep_41 : decode cX6_appendStep 41 = .ok (.iconst 2, 1) := by decide +kernel
theorem dX6_appendStep_42 : decode cX6_appendStep 42 = .ok (.iadd, 1) := by decide +kernel
theorem dX6_appendStep_43 : decode cX6_appendStep 43 = .ok (.iload_n 3, 1) := by decide +kernel
theorem dX6_appendStep_44 : decode cX6_appendStep 44 = .ok (.iastore, 1) := by decide +kernel
theorem dX6_appendStep_45 : decode cX6_appendStep 45 = .ok (.aload_n 0, 1) := by decide +kernel
theorem dX6_appendStep_46 : decode cX6_appendStep 46 = .ok (.getfield 26, 3) := by decide +kernel
theorem dX6_appendStep_49 : decode cX6_appendStep 49 = .ok (.iload 5, 2) := by decide +kernel
theorem dX6_appendStep_51 : decode cX6_appendStep 51 = .ok (.iconst 3, 1) := by decide +kernel
theorem dX6_appendStep_52 : decode cX6_appendStep 52 = .ok (.iadd, 1) := by decide +kernel
theorem dX6_appendStep_53 : decode cX6_appendStep 53 = .ok (.iload 4, 2) := by decide +kernel
theorem dX6_appendStep_55 : decode cX6_appendStep 55 = .ok (.iastore, 1) := by decide +kernel
theorem dX6_appendStep_56 : decode cX6_appendStep 56 = .ok (.aload_n 0, 1) := by decide +kernel
theorem dX6_appendStep_57 : decode cX6_appendStep 57 = .ok (.dup, 1) := by decide +kernel
theorem dX6_appendStep_58 : decode cX6_appendStep 58 = .ok (.getfield 30, 3) := by decide +kernel
theorem dX6_appendStep_61 : decode cX6_appendStep 61 = .ok (.iconst 1, 1) := by decide +kernel
theorem dX6_appendStep_62 : decode cX6_appendStep 62 = .ok (.iadd, 1) := by decide +kernel
theorem dX6_appendStep_63 : decode cX6_appendStep 63 = .ok (.putfield 30, 3) := by decide +kernel
theorem dX6_appendStep_66 : decode cX6_appendStep 66 = .ok (.return_, 1) := by decide +kernel
theorem dX7_init_0 : decode cX7_init 0 = .ok (.aload_n 0, 1) := by decide +kernel
theorem dX7_init_1 : decode cX7_init 1 = .ok (.invokespecial 1, 3) := by decide +kernel
theorem dX7_init_4 : decode cX7_init 4 = .ok (.aload_n 0, 1) := by decide +kernel
theorem dX7_init_5 : decode cX7_init 5 = .ok (.new 7, 3) := by decide +kernel
theorem dX7_init_8 : decode cX7_init 8 = .ok (.dup, 1) := by decide +kernel
theorem dX7_init_9 : decode cX7_init 9 = .ok (.invokespecial 9, 3) := by decide +kernel
theorem dX7_init_12 : decode cX7_init 12 = .ok (.putfield 10, 3) := by decide +kernel
theorem dX7_init_15 : decode cX7_init 15 = .ok (.aload_n 0, 1) := by decide +kernel
theorem dX7_init_16 : decode cX7_init 16 = .ok (.new 7, 3) := by decide +kernel
theorem dX7_init_19 : decode cX7_init 19 = .ok (.dup, 1) := by decide +kernel
theorem dX7_init_20 : decode cX7_init 20 = .ok (.invokespecial 9, 3) := by decide +kernel
theorem dX7_init_23 : decode cX7_init 23 = .ok (.putfield 16, 3) := by decide +kernel
theorem dX7_init_26 : decode cX7_init 26 = .ok (.aload_n 0, 1) := by decide +kernel
theorem dX7_init_27 : decode cX7_init 27 = .ok (.iconst 0, 1) := by decide +kernel
theorem dX7_init_28 : decode cX7_init 28 = .ok (.putfield 19, 3) := by decide +kernel
theorem dX7_init_31 : decode cX7_init 31 = .ok (.aload_n 0, 1) := by decide +kernel
theorem dX7_init_32 : decode cX7_init 32 = .ok (.new 23, 3) := by decide +kernel
theorem dX7_init_35 : decode cX7_init 35 = .ok (.dup, 1) := by decide +kernel
theorem dX7_init_36 : decode cX7_init 36 = .ok (.invokespecial 25, 3) := by decide +kernel
theorem dX7_init_39 : decode cX7_init 39 = .ok (.putfield 26, 3) := by decide +kernel
theorem dX7_init_42 : decode cX7_init 42 = .ok (.aload_n 0, 1) := by decide +kernel
theorem dX7_init_43 : decode cX7_init 43 = .ok (.new 30, 3) := by decide +kernel
theorem dX7_init_46 : decode cX7_init 46 = .ok (.dup, 1) := by decide +kernel
theorem dX7_init_47 : decode cX7_init 47 = .ok (.invokespecial 32, 3) := by decide +kernel
theorem dX7_init_50 : decode cX7_init 50 = .ok (.putfield 33, 3) := by decide +kernel
theorem dX7_init_53 : decode cX7_init 53 = .ok (.aload_n 0, 1) := by decide +kernel
theorem dX7_init_54 : decode cX7_init 54 = .ok (.new 37, 3) := by decide +kernel
theorem dX7_init_57 : decode cX7_init 57 = .ok (.dup, 1) := by decide +kernel
theorem dX7_init_58 : decode cX7_init 58 = .ok (.invokespecial 39, 3) := by decide +kernel
theorem dX7_init_61 : decode cX7_init 61 = .ok (.putfield 40, 3) := by decide +kernel
theorem dX7_init_64 : decode cX7_init 64 = .ok (.aload_n 0, 1) := by decide +kernel
theorem dX7_init_65 : decode cX7_init 65 = .ok (.new 44, 3) := by decide +kernel
theorem dX7_init_68 : decode cX7_init 68 = .ok (.dup, 1) := by decide +kernel
theorem dX7_init_69 : decode cX7_init 69 = .ok (.invokespecial 46, 3) := by decide +kernel
theorem dX7_init_72 : decode cX7_init 72 = .ok (.putfield 47, 3) := by decide +kernel
theorem dX7_init_75 : decode cX7_init 75 = .ok (.aload_n 0, 1) := by decide +kernel
theorem dX7_init_76 : decode cX7_init 76 = .ok (.new 51, 3) := by decide +kernel
theorem dX7_init_79 : decode cX7_init 79 = .ok (.dup, 1) := by decide +kernel
theorem dX7_init_80 : decode cX7_init 80 = .ok (.invokespecial 53, 3) := by decide +kernel
theorem dX7_init_83 : decode cX7_init 83 = .ok (.putfield 54, 3) := by decide +kernel
theorem dX7_init_86 : decode cX7_init 86 = .ok (.aload_n 0, 1) := by decide +kernel
theorem dX7_init_87 : decode cX7_init 87 = .ok (.bipush 64, 2) := by decide +kernel
theorem dX7_init_89 : decode cX7_init 89 = .ok (.newarray .int, 2) := by decide +kernel
theorem dX7_init_91 : decode cX7_init 91 = .ok (.putfield 58, 3) := by decide +kernel
theorem dX7_init_94 : decode cX7_init 94 = .ok (.aload_n 0, 1) := by decide +kernel
theorem dX7_init_95 : decode cX7_init 95 = .ok (.iconst 4, 1) := by decide +kernel
theorem dX7_init_96 : decode cX7_init 96 = .ok (.newarray .int, 2) := by decide +kernel
theorem dX7_init_98 : decode cX7_init 98 = .ok (.putfield 62, 3) := by decide +kernel
theorem dX7_init_101 : decode cX7_init 101 = .ok (.aload_n 0, 1) := by decide +kernel
theorem dX7_init_102 : decode cX7_init 102 = .ok (.aconst_null, 1) := by decide +kernel
theorem dX7_init_103 : decode cX7_init 103 = .ok (.putfield 65, 3) := by decide +kernel
theorem dX7_init_106 : decode cX7_init 106 = .ok (.aload_n 0, 1) := by decide +kernel
theorem dX7_init_107 : decode cX7_init 107 = .ok (.getfield 62, 3) := by decide +kernel
theorem dX7_init_110 : decode cX7_init 110 = .ok (.iconst (-1), 1) := by decide +kernel
theorem dX7_init_111 : decode cX7_init 111 = .ok (.invokestatic 69, 3) := by decide +kernel
theorem dX7_init_114 : decode cX7_init 114 = .ok (.return_, 1) := by decide +kernel
theorem dX7_setVariables_0 : decode cX7_setVariables 0 = .ok (.iload_n 1, 1) := by decide +kernel
theorem dX7_setVariables_1 : decode cX7_setVariables 1 = .ok (.iconst 1, 1) := by decide +kernel
theorem dX7_setVariables_2 : decode cX7_setVariables 2 = .ok (.if_icmp .lt 8, 3) := by decide +kernel
theorem dX7_setVariables_5 : decode cX7_setVariables 5 = .ok (.iload_n 1, 1) := by decide +kernel
theorem dX7_setVariables_6 : decode cX7_setVariables 6 = .ok (.iconst 5, 1) := by decide +kernel
theorem dX7_setVariables_7 : decode cX7_setVariables 7 = .ok (.if_icmp .le 6, 3) := by decide +kernel
theorem dX7_setVariables_10 : decode cX7_setVariables 10 = .ok (.bipush (-2), 2) := by decide +kernel
theorem dX7_setVariables_12 : decode cX7_setVariables 12 = .ok (.ireturn, 1) := by decide +kernel
theorem dX7_setVariables_13 : decode cX7_setVariables 13 = .ok (.aload_n 0, 1) := by decide +kernel
theorem dX7_setVariables_14 : decode cX7_setVariables 14 = .ok (.getfield 10, 3) := by decide +kernel
theorem dX7_setVariables_17 : decode cX7_setVariables 17 = .ok (.getfield 75, 3) := by decide +kernel
theorem dX7_setVariables_20 : decode cX7_setVariables 20 = .ok (.istore_n 2, 1) := by decide +kernel
theorem dX7_setVariables_21 : decode cX7_setVariables 21 = .ok (.aload_n 0, 1) := by decide +kernel
theorem dX7_setVariables_22 : decode cX7_setVariables 22 = .ok (.getfield 10, 3) := by decide +kernel
theorem dX7_setVariables_25 : decode cX7_setVariables 25 = .ok (.iload_n 1, 1) := by decide +kernel
theorem dX7_setVariables_26 : decode cX7_setVariables 26 = .ok (.invokevirtual 79, 3) := by decide +kernel
theorem dX7_setVariables_29 : decode cX7_setVariables 29 = .ok (.aload_n 0, 1) := by decide +kernel
theorem dX7_setVariables_30 : decode cX7_setVariables 30 = .ok (.getfield 26, 3) := by decide +kernel
theorem dX7_setVariables_33 : decode cX7_setVariables 33 = .ok (.invokevirtual 83, 3) := by decide +kernel
theorem dX7_setVariables_36 : decode cX7_setVariables 36 = .ok (.iload_n 2, 1) := by decide +kernel
theorem dX7_setVariables_37 : decode cX7_setVariables 37 = .ok (.ireturn, 1) := by decide +kernel
theorem dX7_variables_0 : decode cX7_variables 0 = .ok (.aload_n 0, 1) := by decide +kernel
theorem dX7_variables_1 : decode cX7_variables 1 = .ok (.getfield 10, 3) := by decide +kernel
theorem dX7_variables_4 : decode cX7_variables 4 = .ok (.getfield 75, 3) := by decide +kernel
theorem dX7_variables_7 : decode cX7_variables 7 = .ok (.ireturn, 1) := by decide +kernel
theorem dX7_setTable_0 : decode cX7_setTable 0 = .ok (.iload_n 1, 1) := by decide +kernel
theorem dX7_setTable_1 : decode cX7_setTable 1 = .ok (.invokestatic 86, 3) := by decide +kernel
theorem dX7_setTable_4 : decode cX7_setTable 4 = .ok (.ifCond .eq 24, 3) := by decide +kernel
theorem dX7_setTable_7 : decode cX7_setTable 7 = .ok (.lload_n 2, 1) := by decide +kernel
theorem dX7_setTable_8 : decode cX7_setTable 8 = .ok (.lconst 0, 1) := by decide +kernel
theorem dX7_setTable_9 : decode cX7_setTable 9 = .ok (.lcmp, 1) := by decide +kernel
theorem dX7_setTable_10 : decode cX7_setTable 10 = .ok (.ifCond .lt 18, 3) := by decide +kernel
theorem dX7_setTable_13 : decode cX7_setTable 13 = .ok (.lload_n 2, 1) := by decide +kernel
theorem dX7_setTable_14 : decode cX7_setTable 14 = .ok (.aload_n 0, 1) := by decide +kernel
theorem dX7_setTable_15 : decode cX7_setTable 15 = .ok (.getfield 10, 3) := by decide +kernel
theorem dX7_setTable_18 : decode cX7_setTable 18 = .ok (.getfield 75, 3) := by decide +kernel
theorem dX7_setTable_21 : decode cX7_setTable 21 = .ok (.invokestatic 90, 3) := by decide +kernel
theorem dX7_setTable_24 : decode cX7_setTable 24 = .ok (.lcmp, 1) := by decide +kernel
theorem dX7_setTable_25 : decode cX7_setTable 25 = .ok (.ifCond .le 6, 3) := by decide +kernel
theorem dX7_setTable_28 : decode cX7_setTable 28 = .ok (.bipush (-2), 2) := by decide +kernel
theorem dX7_setTable_30 : decode cX7_setTable 30 = .ok (.ireturn, 1) := by decide +kernel
theorem dX7_setTable_31 : decode cX7_setTable 31 = .ok (.aload_n 0, 1) := by decide +kernel
theorem dX7_setTable_32 : decode cX7_setTable 32 = .ok (.iload_n 1, 1) := by decide +kernel
theorem dX7_setTable_33 : decode cX7_setTable 33 = .ok (.lload_n 2, 1) := by decide +kernel
theorem dX7_setTable_34 : decode cX7_setTable 34 = .ok (.invokevirtual 94, 3) := by decide +kernel
theorem dX7_setTable_37 : decode cX7_setTable 37 = .ok (.ireturn, 1) := by decide +kernel
theorem dX7_table_0 : decode cX7_table 0 = .ok (.aload_n 0, 1) := by decide +kernel
theorem dX7_table_1 : decode cX7_table 1 = .ok (.iload_n 1, 1) := by decide +kernel
theorem dX7_table_2 : decode cX7_table 2 = .ok (.invokevirtual 98, 3) := by decide +kernel
theorem dX7_table_5 : decode cX7_table 5 = .ok (.istore_n 2, 1) := by decide +kernel
theorem dX7_table_6 : decode cX7_table 6 = .ok (.iload_n 2, 1) := by decide +kernel
theorem dX7_table_7 : decode cX7_table 7 = .ok (.ifCond .eq 8, 3) := by decide +kernel
theorem dX7_table_10 : decode cX7_table 10 = .ok (.iload_n 2, 1) := by decide +kernel
theorem dX7_table_11 : decode cX7_table 11 = .ok (.i2l, 1) := by decide +kernel
theorem dX7_table_12 : decode cX7_table 12 = .ok (.goto 12, 3) := by decide +kernel
theorem dX7_table_15 : decode cX7_table 15 = .ok (.aload_n 0, 1) := by decide +kernel
theorem dX7_table_16 : decode cX7_table 16 = .ok (.getfield 10, 3) := by decide +kernel
theorem dX7_table_19 : decode cX7_table 19 = .ok (.getfield 102, 3) := by decide +kernel
theorem dX7_table_22 : decode cX7_table 22 = .ok (.iload_n 1, 1) := by decide +kernel
theorem dX7_table_23 : decode cX7_table 23 = .ok (.laload, 1) := by decide +kernel
theorem dX7_table_24 : decode cX7_table 24 = .ok (.lreturn, 1) := by decide +kernel
theorem dX7_clear_0 : decode cX7_clear 0 = .ok (.aload_n 0, 1) := by decide +kernel
theorem dX7_clear_1 : decode cX7_clear 1 = .ok (.iload_n 1, 1) := by decide +kernel
theorem dX7_clear_2 : decode cX7_clear 2 = .ok (.invokevirtual 98, 3) := by decide +kernel
theorem dX7_clear_5 : decode cX7_clear 5 = .ok (.istore_n 2, 1) := by decide +kernel
theorem dX7_clear_6 : decode cX7_clear 6 = .ok (.iload_n 2, 1) := by decide +kernel
theorem dX7_clear_7 : decode cX7_clear 7 = .ok (.ifCond .eq 5, 3) := by decide +kernel
theorem dX7_clear_10 : decode cX7_clear 10 = .ok (.iload_n 2, 1) := by decide +kernel
theorem dX7_clear_11 : decode cX7_clear 11 = .ok (.ireturn, 1) := by decide +kernel
theorem dX7_clear_12 : decode cX7_clear 12 = .ok (.aload_n 0, 1) := by decide +kernel
theorem dX7_clear_13 : decode cX7_clear 13 = .ok (.iload_n 1, 1) := by decide +kernel
theorem dX7_clear_14 : decode cX7_clear 14 = .ok (.ldc2_w 106, 3) := by decide +kernel
theorem dX7_clear_17 : decode cX7_clear 17 = .ok (.invokevirtual 94, 3) := by decide +kernel
theorem dX7_clear_20 : decode cX7_clear 20 = .ok (.pop, 1) := by decide +kernel
theorem dX7_clear_21 : decode cX7_clear 21 = .ok (.aload_n 0, 1) := by decide +kernel
theorem dX7_clear_22 : decode cX7_clear 22 = .ok (.getfield 10, 3) := by decide +kernel
theorem dX7_clear_25 : decode cX7_clear 25 = .ok (.invokevirtual 108, 3) := by decide +kernel
theorem dX7_clear_28 : decode cX7_clear 28 = .ok (.ireturn, 1) := by decide +kernel
theorem dX7_value_0 : decode cX7_value 0 = .ok (.aload_n 0, 1) := by decide +kernel
theorem dX7_value_1 : decode cX7_value 1 = .ok (.iload_n 2, 1) := by decide +kernel
theorem dX7_value_2 : decode cX7_value 2 = .ok (.invokevirtual 112, 3) := by decide +kernel
theorem dX7_value_5 : decode cX7_value 5 = .ok (.ifCond .ne 6, 3) := by decide +kernel
theorem dX7_value_8 : decode cX7_value 8 = .ok (.bipush (-2), 2) := by decide +kernel
theorem dX7_value_10 : decode cX7_value 10 = .ok (.ireturn, 1) := by decide +kernel
theorem dX7_value_11 : decode cX7_value 11 = .ok (.aload_n 0, 1) := by decide +kernel
theorem dX7_value_12 : decode cX7_value 12 = .ok (.iload_n 1, 1) := by decide +kernel
theorem dX7_value_13 : decode cX7_value 13 = .ok (.invokevirtual 98, 3) := by decide +kernel
theorem dX7_value_16 : decode cX7_value 16 = .ok (.istore_n 3, 1) := by decide +kernel
theorem dX7_value_17 : decode cX7_value 17 = .ok (.iload_n 3, 1) := by decide +kernel
theorem dX7_value_18 : decode cX7_value 18 = .ok (.ifCond .eq 7, 3) := by decide +kernel
theorem dX7_value_21 : decode cX7_value 21 = .ok (.iload_n 3, 1) := by decide +kernel
theorem dX7_value_22 : decode cX7_value 22 = .ok (.goto 16, 3) := by decide +kernel
theorem dX7_value_25 : decode cX7_value 25 = .ok (.aload_n 0, 1) := by decide +kernel
theorem dX7_value_26 : decode cX7_value 26 = .ok (.getfield 10, 3) := by decide +kernel
theorem dX7_value_29 : decode cX7_value 29 = .ok (.getfield 102, 3) := by decide +kernel
theorem dX7_value_32 : decode cX7_value 32 = .ok (.iload_n 1, 1) := by decide +kernel
theorem dX7_value_33 : decode cX7_value 33 = .ok (.laload, 1) := by decide +kernel
theorem dX7_value_34 : decode cX7_value 34 = .ok (.iload_n 2, 1) := by decide +kernel
theorem dX7_value_35 : decode cX7_value 35 = .ok (.invokestatic 115, 3) := by decide +kernel
theorem dX7_value_38 : decode cX7_value 38 = .ok (.ireturn, 1) := by decide +kernel
theorem dX7_usedSlots_0 : decode cX7_usedSlots 0 = .ok (.aload_n 0, 1) := by decide +kernel
theorem dX7_usedSlots_1 : decode cX7_usedSlots 1 = .ok (.getfield 10, 3) := by decide +kernel
theorem dX7_usedSlots_4 : decode cX7_usedSlots 4 = .ok (.invokevirtual 108, 3) := by decide +kernel
theorem dX7_usedSlots_7 : decode cX7_usedSlots 7 = .ok (.ireturn, 1) := by decide +kernel
theorem dX7_essential_0 : decode cX7_essential 0 = .ok (.aload_n 0, 1) := by decide +kernel
theorem dX7_essential_1 : decode cX7_essential 1 = .ok (.iload_n 1, 1) := by decide +kernel
theorem dX7_essential_2 : decode cX7_essential 2 = .ok (.invokevirtual 98, 3) := by decide +kernel
theorem dX7_essential_5 : decode cX7_essential 5 = .ok (.istore_n 2, 1) := by decide +kernel
theorem dX7_essential_6 : decode cX7_essential 6 = .ok (.iload_n 2, 1) := by decide +kernel
theorem dX7_essential_7 : decode cX7_essential 7 = .ok (.ifCond .eq 7, 3) := by decide +kernel
theorem dX7_essential_10 : decode cX7_essential 10 = .ok (.iload_n 2, 1) := by decide +kernel
theorem dX7_essential_11 : decode cX7_essential 11 = .ok (.goto 22, 3) := by decide +kernel
theorem dX7_essential_14 : decode cX7_essential 14 = .ok (.aload_n 0, 1) := by decide +kernel
theorem dX7_essential_15 : decode cX7_essential 15 = .ok (.getfield 10, 3) := by decide +kernel
theorem dX7_essential_18 : decode cX7_essential 18 = .ok (.getfield 75, 3) := by decide +kernel
theorem dX7_essential_21 : decode cX7_essential 21 = .ok (.aload_n 0, 1) := by decide +kernel
theorem dX7_essential_22 : decode cX7_essential 22 = .ok (.getfield 10, 3) := by decide +kernel
theorem dX7_essential_25 : decode cX7_essential 25 = .ok (.getfield 102, 3) := by decide +kernel
theorem dX7_essential_28 : decode cX7_essential 28 = .ok (.iload_n 1, 1) := by decide +kernel
theorem dX7_essential_29 : decode cX7_essential 29 = .ok (.laload, 1) := by decide +kernel
theorem dX7_essential_30 : decode cX7_essential 30 = .ok (.invokestatic 119, 3) := by decide +kernel
theorem dX7_essential_33 : decode cX7_essential 33 = .ok (.ireturn, 1) := by decide +kernel
theorem dX7_isMonotone_0 : decode cX7_isMonotone 0 = .ok (.aload_n 0, 1) := by decide +kernel
theorem dX7_isMonotone_1 : decode cX7_isMonotone 1 = .ok (.iload_n 1, 1) := by decide +kernel
theorem dX7_isMonotone_2 : decode cX7_isMonotone 2 = .ok (.invokevirtual 98, 3) := by decide +kernel
theorem dX7_isMonotone_5 : decode cX7_isMonotone 5 = .ok (.istore_n 2, 1) := by decide +kernel
theorem dX7_isMonotone_6 : decode cX7_isMonotone 6 = .ok (.iload_n 2, 1) := by decide +kernel
theorem dX7_isMonotone_7 : decode cX7_isMonotone 7 = .ok (.ifCond .eq 5, 3) := by decide +kernel
theorem dX7_isMonotone_10 : decode cX7_isMonotone 10 = .ok (.iload_n 2, 1) := by decide +kernel
theorem dX7_isMonotone_11 : decode cX7_isMonotone 11 = .ok (.ireturn, 1) := by decide +kernel
theorem dX7_isMonotone_12 : decode cX7_isMonotone 12 = .ok (.aload_n 0, 1) := by decide +kernel
theorem dX7_isMonotone_13 : decode cX7_isMonotone 13 = .ok (.getfield 10, 3) := by decide +kernel
theorem dX7_isMonotone_16 : decode cX7_isMonotone 16 = .ok (.getfield 75, 3) := by decide +kernel
theorem dX7_isMonotone_19 : decode cX7_isMonotone 19 = .ok (.aload_n 0, 1) := by decide +kernel
theorem dX7_isMonotone_20 : decode cX7_isMonotone 20 = .ok (.getfield 10, 3) := by decide +kernel
theorem dX7_isMonotone_23 : decode cX7_isMonotone 23 = .ok (.getfield 102, 3) := by decide +kernel
theorem dX7_isMonotone_26 : decode cX7_isMonotone 26 = .ok (.iload_n 1, 1) := by decide +kernel
theorem dX7_isMonotone_27 : decode cX7_isMonotone 27 = .ok (.laload, 1) := by decide +kernel
theorem dX7_isMonotone_28 : decode cX7_isMonotone 28 = .ok (.invokestatic 122, 3) := by decide +kernel
theorem dX7_isMonotone_31 : decode cX7_isMonotone 31 = .ok (.iconst (-1), 1) := by decide +kernel
theorem dX7_isMonotone_32 : decode cX7_isMonotone 32 = .ok (.if_icmp .ne 7, 3) := by decide +kernel
theorem dX7_isMonotone_35 : decode cX7_isMonotone 35 = .ok (.iconst 1, 1) := by decide +kernel
theorem dX7_isMonotone_36 : decode cX7_isMonotone 36 = .ok (.goto 4, 3) := by decide +kernel
theorem dX7_isMonotone_39 : decode cX7_isMonotone 39 = .ok (.iconst 0, 1) := by decide +kernel
theorem dX7_isMonotone_40 : decode cX7_isMonotone 40 = .ok (.ireturn, 1) := by decide +kernel
theorem dX7_violatingPoint_0 : decode cX7_violatingPoint 0 = .ok (.aload_n 0, 1) := by decide +kernel
theorem dX7_violatingPoint_1 : decode cX7_violatingPoint 1 = .ok (.iload_n 1, 1) := by decide +kernel
theorem dX7_violatingPoint_2 : decode cX7_violatingPoint 2 = .ok (.invokevirtual 98, 3) := by decide +kernel
theorem dX7_violatingPoint_5 : decode cX7_violatingPoint 5 = .ok (.istore_n 2, 1) := by decide +kernel
theorem dX7_violatingPoint_6 : decode cX7_violatingPoint 6 = .ok (.iload_n 2, 1) := by decide +kernel
theorem dX7_violatingPoint_7 : decode cX7_violatingPoint 7 = .ok (.ifCond .eq 7, 3) := by decide +kernel
theorem dX7_violatingPoint_10 : decode cX7_violatingPoint 10 = .ok (.iload_n 2, 1) := by decide +kernel
theorem dX7_violatingPoint_11 : decode cX7_violatingPoint 11 = .ok (.goto 22, 3) := by decide +kernel
theorem dX7_violatingPoint_14 : decode cX7_violatingPoint 14 = .ok (.aload_n 0, 1) := by decide +kernel
theorem dX7_violatingPoint_15 : decode cX7_violatingPoint 15 = .ok (.getfield 10, 3) := by decide +kernel
theorem dX7_violatingPoint_18 : decode cX7_violatingPoint 18 = .ok (.getfield 75, 3) := by decide +kernel
theorem dX7_violatingPoint_21 : decode cX7_violatingPoint 21 = .ok (.aload_n 0, 1) := by decide +kernel
theorem dX7_violatingPoint_22 : decode cX7_violatingPoint 22 = .ok (.getfield 10, 3) := by decide +kernel
theorem dX7_violatingPoint_25 : decode cX7_violatingPoint 25 = .ok (.getfield 102, 3) := by decide +kernel
theorem dX7_violatingPoint_28 : decode cX7_violatingPoint 28 = .ok (.iload_n 1, 1) := by decide +kernel
theorem dX7_violatingPoint_29 : decode cX7_violatingPoint 29 = .ok (.laload, 1) := by decide +kernel
theorem dX7_violatingPoint_30 : decode cX7_violatingPoint 30 = .ok (.invokestatic 122, 3) := by decide +kernel
theorem dX7_violatingPoint_33 : decode cX7_violatingPoint 33 = .ok (.ireturn, 1) := by decide +kernel
theorem dX7_primeImplicants_0 : decode cX7_primeImplicants 0 = .ok (.aload_n 0, 1) := by decide +kernel
theorem dX7_primeImplicants_1 : decode cX7_primeImplicants 1 = .ok (.iload_n 1, 1) := by decide +kernel
theorem dX7_primeImplicants_2 : decode cX7_primeImplicants 2 = .ok (.invokevirtual 125, 3) := by decide +kernel
theorem dX7_primeImplicants_5 : decode cX7_primeImplicants 5 = .ok (.istore_n 2, 1) := by decide +kernel
theorem dX7_primeImplicants_6 : decode cX7_primeImplicants 6 = .ok (.iload_n 2, 1) := by decide +kernel
theorem dX7_primeImplicants_7 : decode cX7_primeImplicants 7 = .ok (.ifCond .eq 7, 3) := by decide +kernel
theorem dX7_primeImplicants_10 : decode cX7_primeImplicants 10 = .ok (.iload_n 2, 1) := by decide +kernel
theorem dX7_primeImplicants_11 : decode cX7_primeImplicants 11 = .ok (.goto 10, 3) := by decide +kernel
theorem dX7_primeImplicants_14 : decode cX7_primeImplicants 14 = .ok (.aload_n 0, 1) := by decide +kernel
theorem dX7_primeImplicants_15 : decode cX7_primeImplicants 15 = .ok (.getfield 33, 3) := by decide +kernel
theorem dX7_primeImplicants_18 : decode cX7_primeImplicants 18 = .ok (.getfield 128, 3) := by decide +kernel
theorem dX7_primeImplicants_21 : decode cX7_primeImplicants 21 = .ok (.ireturn, 1) := by decide +kernel
theorem dX7_primeImplicant_0 : decode cX7_primeImplicant 0 = .ok (.aload_n 0, 1) := by decide +kernel
theorem dX7_primeImplicant_1 : decode cX7_primeImplicant 1 = .ok (.iload_n 1, 1) := by decide +kernel
theorem dX7_primeImplicant_2 : decode cX7_primeImplicant 2 = .ok (.invokevirtual 125, 3) := by decide +kernel
theorem dX7_primeImplicant_5 : decode cX7_primeImplicant 5 = .ok (.istore_n 3, 1) := by decide +kernel
theorem dX7_primeImplicant_6 : decode cX7_primeImplicant 6 = .ok (.iload_n 3, 1) := by decide +kernel
theorem dX7_primeImplicant_7 : decode cX7_primeImplicant 7 = .ok (.ifCond .eq 7, 3) := by decide +kernel
theorem dX7_primeImplicant_10 : decode cX7_primeImplicant 10 = .ok (.iload_n 3, 1) := by decide +kernel
theorem dX7_primeImplicant_11 : decode cX7_primeImplicant 11 = .ok (.goto 11, 3) := by decide +kernel
theorem dX7_primeImplicant_14 : decode cX7_primeImplicant 14 = .ok (.aload_n 0, 1) := by decide +kernel
theorem dX7_primeImplicant_15 : decode cX7_primeImplicant 15 = .ok (.getfield 33, 3) := by decide +kernel
theorem dX7_primeImplicant_18 : decode cX7_primeImplicant 18 = .ok (.iload_n 2, 1) := by decide +kernel
theorem dX7_primeImplicant_19 : decode cX7_primeImplicant 19 = .ok (.invokevirtual 131, 3) := by decide +kernel
theorem dX7_primeImplicant_22 : decode cX7_primeImplicant 22 = .ok (.ireturn, 1) := by decide +kernel
theorem dX7_neighbors_0 : decode cX7_neighbors 0 = .ok (.aload_n 0, 1) := by decide +kernel
theorem dX7_neighbors_1 : decode cX7_neighbors 1 = .ok (.iload_n 2, 1) := by decide +kernel
theorem dX7_neighbors_2 : decode cX7_neighbors 2 = .ok (.invokevirtual 134, 3) := by decide +kernel
theorem dX7_neighbors_5 : decode cX7_neighbors 5 = .ok (.ifCond .ne 6, 3) := by decide +kernel
theorem dX7_neighbors_8 : decode cX7_neighbors 8 = .ok (.bipush (-2), 2) := by decide +kernel
theorem dX7_neighbors_10 : decode cX7_neighbors 10 = .ok (.ireturn, 1) := by decide +kernel
theorem dX7_neighbors_11 : decode cX7_neighbors 11 = .ok (.aload_n 0, 1) := by decide +kernel
theorem dX7_neighbors_12 : decode cX7_neighbors 12 = .ok (.iload_n 1, 1) := by decide +kernel
theorem dX7_neighbors_13 : decode cX7_neighbors 13 = .ok (.invokevirtual 125, 3) := by decide +kernel
theorem dX7_neighbors_16 : decode cX7_neighbors 16 = .ok (.istore_n 3, 1) := by decide +kernel
theorem dX7_neighbors_17 : decode cX7_neighbors 17 = .ok (.iload_n 3, 1) := by decide +kernel
theorem dX7_neighbors_18 : decode cX7_neighbors 18 = .ok (.ifCond .eq 7, 3) := by decide +kernel
theorem dX7_neighbors_21 : decode cX7_neighbors 21 = .ok (.iload_n 3, 1) := by decide +kernel
theorem dX7_neighbors_22 : decode cX7_neighbors 22 = .ok (.goto 12, 3) := by decide +kernel
theorem dX7_neighbors_25 : decode cX7_neighbors 25 = .ok (.aload_n 0, 1) := by decide +kernel
theorem dX7_neighbors_26 : decode cX7_neighbors 26 = .ok (.getfield 33, 3) := by decide +kernel
theorem dX7_neighbors_29 : decode cX7_neighbors 29 = .ok (.getfield 137, 3) := by decide +kernel
theorem dX7_neighbors_32 : decode cX7_neighbors 32 = .ok (.iload_n 2, 1) := by decide +kernel
theorem dX7_neighbors_33 : decode cX7_neighbors 33 = .ok (.iaload, 1) := by decide +kernel
theorem dX7_neighbors_34 : decode cX7_neighbors 34 = .ok (.ireturn, 1) := by decide +kernel
theorem dX7_inducedPath_0 : decode cX7_inducedPath 0 = .ok (.iload_n 2, 1) := by decide +kernel
theorem dX7_inducedPath_1 : decode cX7_inducedPath 1 = .ok (.iconst 4, 1) := by decide +kernel
theorem dX7_inducedPath_2 : decode cX7_inducedPath 2 = .ok (.invokestatic 140, 3) := by decide +kernel
theorem dX7_inducedPath_5 : decode cX7_inducedPath 5 = .ok (.ifCond .ne 6, 3) := by decide +kernel
theorem dX7_inducedPath_8 : decode cX7_inducedPath 8 = .ok (.bipush (-2), 2) := by decide +kernel
theorem dX7_inducedPath_10 : decode cX7_inducedPath 10 = .ok (.ireturn, 1) := by decide +kernel
theorem dX7_inducedPath_11 : decode cX7_inducedPath 11 = .ok (.aload_n 0, 1) := by decide +kernel
theorem dX7_inducedPath_12 : decode cX7_inducedPath 12 = .ok (.iload_n 1, 1) := by decide +kernel
theorem dX7_inducedPath_13 : decode cX7_inducedPath 13 = .ok (.invokevirtual 125, 3) := by decide +kernel
theorem dX7_inducedPath_16 : decode cX7_inducedPath 16 = .ok (.istore_n 3, 1) := by decide +kernel
theorem dX7_inducedPath_17 : decode cX7_inducedPath 17 = .ok (.iload_n 3, 1) := by decide +kernel
theorem dX7_inducedPath_18 : decode cX7_inducedPath 18 = .ok (.ifCond .eq 5, 3) := by decide +kernel
theorem dX7_inducedPath_21 : decode cX7_inducedPath 21 = .ok (.iload_n 3, 1) := by decide +kernel
theorem dX7_inducedPath_22 : decode cX7_inducedPath 22 = .ok (.ireturn, 1) := by decide +kernel
theorem dX7_inducedPath_23 : decode cX7_inducedPath 23 = .ok (.aload_n 0, 1) := by decide +kernel
theorem dX7_inducedPath_24 : decode cX7_inducedPath 24 = .ok (.getfield 33, 3) := by decide +kernel
theorem dX7_inducedPath_27 : decode cX7_inducedPath 27 = .ok (.invokevirtual 144, 3) := by decide +kernel
theorem dX7_inducedPath_30 : decode cX7_inducedPath 30 = .ok (.ifCond .eq 15, 3) := by decide +kernel
theorem dX7_inducedPath_33 : decode cX7_inducedPath 33 = .ok (.aload_n 0, 1) := by decide +kernel
theorem dX7_inducedPath_34 : decode cX7_inducedPath 34 = .ok (.getfield 33, 3) := by decide +kernel
theorem dX7_inducedPath_37 : decode cX7_inducedPath 37 = .ok (.getfield 148, 3) := by decide +kernel
theorem dX7_inducedPath_40 : decode cX7_inducedPath 40 = .ok (.iload_n 2, 1) := by decide +kernel
theorem dX7_inducedPath_41 : decode cX7_inducedPath 41 = .ok (.iaload, 1) := by decide +kernel
theorem dX7_inducedPath_42 : decode cX7_inducedPath 42 = .ok (.goto 4, 3) := by decide +kernel
theorem dX7_inducedPath_45 : decode cX7_inducedPath 45 = .ok (.iconst (-1), 1) := by decide +kernel
theorem dX7_inducedPath_46 : decode cX7_inducedPath 46 = .ok (.ireturn, 1) := by decide +kernel
theorem dX7_badClique_0 : decode cX7_badClique 0 = .ok (.aload_n 0, 1) := by decide +kernel
theorem dX7_badClique_1 : decode cX7_badClique 1 = .ok (.iload_n 1, 1) := by decide +kernel
theorem dX7_badClique_2 : decode cX7_badClique 2 = .ok (.invokevirtual 125, 3) := by decide +kernel
theorem dX7_badClique_5 : decode cX7_badClique 5 = .ok (.istore_n 2, 1) := by decide +kernel
theorem dX7_badClique_6 : decode cX7_badClique 6 = .ok (.iload_n 2, 1) := by decide +kernel
theorem dX7_badClique_7 : decode cX7_badClique 7 = .ok (.ifCond .eq 7, 3) := by decide +kernel
theorem dX7_badClique_10 : decode cX7_badClique 10 = .ok (.iload_n 2, 1) := by decide +kernel
theorem dX7_badClique_11 : decode cX7_badClique 11 = .ok (.goto 10, 3) := by decide +kernel
theorem dX7_badClique_14 : decode cX7_badClique 14 = .ok (.aload_n 0, 1) := by decide +kernel
theorem dX7_badClique_15 : decode cX7_badClique 15 = .ok (.getfield 33, 3) := by decide +kernel
theorem dX7_badClique_18 : decode cX7_badClique 18 = .ok (.invokevirtual 151, 3) := by decide +kernel
theorem dX7_badClique_21 : decode cX7_badClique 21 = .ok (.ireturn, 1) := by decide +kernel
theorem dX7_reason_0 : decode cX7_reason 0 = .ok (.aload_n 0, 1) := by decide +kernel
theorem dX7_reason_1 : decode cX7_reason 1 = .ok (.iload_n 1, 1) := by decide +kernel
theorem dX7_reason_2 : decode cX7_reason 2 = .ok (.invokevirtual 98, 3) := by decide +kernel
theorem dX7_reason_5 : decode cX7_reason 5 = .ok (.istore_n 2, 1) := by decide +kernel
theorem dX7_reason_6 : decode cX7_reason 6 = .ok (.iload_n 2, 1) := by decide +kernel
theorem dX7_reason_7 : decode cX7_reason 7 = .ok (.ifCond .eq 7, 3) := by decide +kernel
theorem dX7_reason_10 : decode cX7_reason 10 = .ok (.iload_n 2, 1) := by decide +kernel
theorem dX7_reason_11 : decode cX7_reason 11 = .ok (.goto 16, 3) := by decide +kernel
theorem dX7_reason_14 : decode cX7_reason 14 = .ok (.aload_n 0, 1) := by decide +kernel
theorem dX7_reason_15 : decode cX7_reason 15 = .ok (.aload_n 0, 1) := by decide +kernel
theorem dX7_reason_16 : decode cX7_reason 16 = .ok (.getfield 10, 3) := by decide +kernel
theorem dX7_reason_19 : decode cX7_reason 19 = .ok (.getfield 102, 3) := by decide +kernel
theorem dX7_reason_22 : decode cX7_reason 22 = .ok (.iload_n 1, 1) := by decide +kernel
theorem dX7_reason_23 : decode cX7_reason 23 = .ok (.laload, 1) := by decide +kernel
theorem dX7_reason_24 : decode cX7_reason 24 = .ok (.invokevirtual 154, 3) := by decide +kernel
theorem dX7_reason_27 : decode cX7_reason 27 = .ok (.ireturn, 1) := by decide +kernel
theorem dX7_nodes_0 : decode cX7_nodes 0 = .ok (.aload_n 0, 1) := by decide +kernel
theorem dX7_nodes_1 : decode cX7_nodes 1 = .ok (.iload_n 1, 1) := by decide +kernel
theorem dX7_nodes_2 : decode cX7_nodes 2 = .ok (.invokevirtual 158, 3) := by decide +kernel
theorem dX7_nodes_5 : decode cX7_nodes 5 = .ok (.istore_n 2, 1) := by decide +kernel
theorem dX7_nodes_6 : decode cX7_nodes 6 = .ok (.iload_n 2, 1) := by decide +kernel
theorem dX7_nodes_7 : decode cX7_nodes 7 = .ok (.ifCond .eq 7, 3) := by decide +kernel
theorem dX7_nodes_10 : decode cX7_nodes 10 = .ok (.iload_n 2, 1) := by decide +kernel
theorem dX7_nodes_11 : decode cX7_nodes 11 = .ok (.goto 10, 3) := by decide +kernel
theorem dX7_nodes_14 : decode cX7_nodes 14 = .ok (.aload_n 0, 1) := by decide +kernel
theorem dX7_nodes_15 : decode cX7_nodes 15 = .ok (.getfield 40, 3) := by decide +kernel
theorem dX7_nodes_18 : decode cX7_nodes 18 = .ok (.getfield 161, 3) := by decide +kernel
theorem dX7_nodes_21 : decode cX7_nodes 21 = .ok (.ireturn, 1) := by decide +kernel
theorem dX7_nodeType_0 : decode cX7_nodeType 0 = .ok (.aload_n 0, 1) := by decide +kernel
theorem dX7_nodeType_1 : decode cX7_nodeType 1 = .ok (.iload_n 1, 1) := by decide +kernel
theorem dX7_nodeType_2 : decode cX7_nodeType 2 = .ok (.invokevirtual 158, 3) := by decide +kernel
theorem dX7_nodeType_5 : decode cX7_nodeType 5 = .ok (.istore_n 3, 1) := by decide +kernel
theorem dX7_nodeType_6 : decode cX7_nodeType 6 = .ok (.iload_n 3, 1) := by decide +kernel
theorem dX7_nodeType_7 : decode cX7_nodeType 7 = .ok (.ifCond .eq 5, 3) := by decide +kernel
theorem dX7_nodeType_10 : decode cX7_nodeType 10 = .ok (.iload_n 3, 1) := by decide +kernel
theorem dX7_nodeType_11 : decode cX7_nodeType 11 = .ok (.ireturn, 1) := by decide +kernel
theorem dX7_nodeType_12 : decode cX7_nodeType 12 = .ok (.aload_n 0, 1) := by decide +kernel
theorem dX7_nodeType_13 : decode cX7_nodeType 13 = .ok (.getfield 40, 3) := by decide +kernel
theorem dX7_nodeType_16 : decode cX7_nodeType 16 = .ok (.iload_n 2, 1) := by decide +kernel
theorem dX7_nodeType_17 : decode cX7_nodeType 17 = .ok (.invokevirtual 164, 3) := by decide +kernel
theorem dX7_nodeType_20 : decode cX7_nodeType 20 = .ok (.ifCond .eq 15, 3) := by decide +kernel
theorem dX7_nodeType_23 : decode cX7_nodeType 23 = .ok (.aload_n 0, 1) := by decide +kernel
theorem dX7_nodeType_24 : decode cX7_nodeType 24 = .ok (.getfield 40, 3) := by decide +kernel
theorem dX7_nodeType_27 : decode cX7_nodeType 27 = .ok (.getfield 167, 3) := by decide +kernel
theorem dX7_nodeType_30 : decode cX7_nodeType 30 = .ok (.iload_n 2, 1) := by decide +kernel
theorem dX7_nodeType_31 : decode cX7_nodeType 31 = .ok (.iaload, 1) := by decide +kernel
theorem dX7_nodeType_32 : decode cX7_nodeType 32 = .ok (.goto 4, 3) := by decide +kernel
theorem dX7_nodeType_35 : decode cX7_nodeType 35 = .ok (.iconst (-1), 1) := by decide +kernel
theorem dX7_nodeType_36 : decode cX7_nodeType 36 = .ok (.ireturn, 1) := by decide +kernel
theorem dX7_parent_0 : decode cX7_parent 0 = .ok (.aload_n 0, 1) := by decide +kernel
theorem dX7_parent_1 : decode cX7_parent 1 = .ok (.iload_n 1, 1) := by decide +kernel
theorem dX7_parent_2 : decode cX7_parent 2 = .ok (.invokevirtual 158, 3) := by decide +kernel
theorem dX7_parent_5 : decode cX7_parent 5 = .ok (.istore_n 3, 1) := by decide +kernel
theorem dX7_parent_6 : decode cX7_parent 6 = .ok (.iload_n 3, 1) := by decide +kernel
theorem dX7_parent_7 : decode cX7_parent 7 = .ok (.ifCond .eq 5, 3) := by decide +kernel
theorem dX7_parent_10 : decode cX7_parent 10 = .ok (.iload_n 3, 1) := by decide +kernel
theorem dX7_parent_11 : decode cX7_parent 11 = .ok (.ireturn, 1) := by decide +kernel
theorem dX7_parent_12 : decode cX7_parent 12 = .ok (.aload_n 0, 1) := by decide +kernel
theorem dX7_parent_13 : decode cX7_parent 13 = .ok (.getfield 40, 3) := by decide +kernel
theorem dX7_parent_16 : decode cX7_parent 16 = .ok (.iload_n 2, 1) := by decide +kernel
theorem dX7_parent_17 : decode cX7_parent 17 = .ok (.invokevirtual 164, 3) := by decide +kernel
theorem dX7_parent_20 : decode cX7_parent 20 = .ok (.ifCond .eq 15, 3) := by decide +kernel
theorem dX7_parent_23 : decode cX7_parent 23 = .ok (.aload_n 0, 1) := by decide +kernel
theorem dX7_parent_24 : decode cX7_parent 24 = .ok (.getfield 40, 3) := by decide +kernel
theorem dX7_parent_27 : decode cX7_parent 27 = .ok (.getfield 170, 3) := by decide +kernel
theorem dX7_parent_30 : decode cX7_parent 30 = .ok (.iload_n 2, 1) := by decide +kernel
theorem dX7_parent_31 : decode cX7_parent 31 = .ok (.iaload, 1) := by decide +kernel
theorem dX7_parent_32 : decode cX7_parent 32 = .ok (.goto 4, 3) := by decide +kernel
theorem dX7_parent_35 : decode cX7_parent 35 = .ok (.iconst (-1), 1) := by decide +kernel
theorem dX7_parent_36 : decode cX7_parent 36 = .ok (.ireturn, 1) := by decide +kernel
theorem dX7_depth_0 : decode cX7_depth 0 = .ok (.aload_n 0, 1) := by decide +kernel
theorem dX7_depth_1 : decode cX7_depth 1 = .ok (.iload_n 2, 1) := by decide +kernel
theorem dX7_depth_2 : decode cX7_depth 2 = .ok (.invokevirtual 134, 3) := by decide +kernel
theorem dX7_depth_5 : decode cX7_depth 5 = .ok (.ifCond .ne 6, 3) := by decide +kernel
theorem dX7_depth_8 : decode cX7_depth 8 = .ok (.bipush (-2), 2) := by decide +kernel
theorem dX7_depth_10 : decode cX7_depth 10 = .ok (.ireturn, 1) := by decide +kernel
theorem dX7_depth_11 : decode cX7_depth 11 = .ok (.aload_n 0, 1) := by decide +kernel
theorem dX7_depth_12 : decode cX7_depth 12 = .ok (.iload_n 1, 1) := by decide +kernel
theorem dX7_depth_13 : decode cX7_depth 13 = .ok (.invokevirtual 158, 3) := by decide +kernel
theorem dX7_depth_16 : decode cX7_depth 16 = .ok (.istore_n 3, 1) := by decide +kernel
theorem dX7_depth_17 : decode cX7_depth 17 = .ok (.iload_n 3, 1) := by decide +kernel
theorem dX7_depth_18 : decode cX7_depth 18 = .ok (.ifCond .eq 7, 3) := by decide +kernel
theorem dX7_depth_21 : decode cX7_depth 21 = .ok (.iload_n 3, 1) := by decide +kernel
theorem dX7_depth_22 : decode cX7_depth 22 = .ok (.goto 11, 3) := by decide +kernel
theorem dX7_depth_25 : decode cX7_depth 25 = .ok (.aload_n 0, 1) := by decide +kernel
theorem dX7_depth_26 : decode cX7_depth 26 = .ok (.getfield 40, 3) := by decide +kernel
theorem dX7_depth_29 : decode cX7_depth 29 = .ok (.iload_n 2, 1) := by decide +kernel
theorem dX7_depth_30 : decode cX7_depth 30 = .ok (.invokevirtual 173, 3) := by decide +kernel
theorem dX7_depth_33 : decode cX7_depth 33 = .ok (.ireturn, 1) := by decide +kernel
theorem dX7_writeFormula_0 : decode cX7_writeFormula 0 = .ok (.aload_n 0, 1) := by decide +kernel
theorem dX7_writeFormula_1 : decode cX7_writeFormula 1 = .ok (.iload_n 1, 1) := by decide +kernel
theorem dX7_writeFormula_2 : decode cX7_writeFormula 2 = .ok (.invokevirtual 158, 3) := by decide +kernel
theorem dX7_writeFormula_5 : decode cX7_writeFormula 5 = .ok (.istore_n 2, 1) := by decide +kernel
theorem dX7_writeFormula_6 : decode cX7_writeFormula 6 = .ok (.iload_n 2, 1) := by decide +kernel
theorem dX7_writeFormula_7 : decode cX7_writeFormula 7 = .ok (.ifCond .eq 5, 3) := by decide +kernel
theorem dX7_writeFormula_10 : decode cX7_writeFormula 10 = .ok (.iload_n 2, 1) := by decide +kernel
theorem dX7_writeFormula_11 : decode cX7_writeFormula 11 = .ok (.ireturn, 1) := by decide +kernel
theorem dX7_writeFormula_12 : decode cX7_writeFormula 12 = .ok (.aload_n 0, 1) := by decide +kernel
theorem dX7_writeFormula_13 : decode cX7_writeFormula 13 = .ok (.getfield 54, 3) := by decide +kernel
theorem dX7_writeFormula_16 : decode cX7_writeFormula 16 = .ok (.iconst 0, 1) := by decide +kernel
theorem dX7_writeFormula_17 : decode cX7_writeFormula 17 = .ok (.putfield 176, 3) := by decide +kernel
theorem dX7_writeFormula_20 : decode cX7_writeFormula 20 = .ok (.aload_n 0, 1) := by decide +kernel
theorem dX7_writeFormula_21 : decode cX7_writeFormula 21 = .ok (.getfield 40, 3) := by decide +kernel
theorem dX7_writeFormula_24 : decode cX7_writeFormula 24 = .ok (.getfield 161, 3) := by decide +kernel
theorem dX7_writeFormula_27 : decode cX7_writeFormula 27 = .ok (.ifCond .ne 34, 3) := by decide +kernel
theorem dX7_writeFormula_30 : decode cX7_writeFormula 30 = .ok (.aload_n 0, 1) := by decide +kernel
theorem dX7_writeFormula_31 : decode cX7_writeFormula 31 = .ok (.getfield 54, 3) := by decide +kernel
theorem dX7_writeFormula_34 : decode cX7_writeFormula 34 = .ok (.aload_n 0, 1) := by decide +kernel
theorem dX7_writeFormula_35 : decode cX7_writeFormula 35 = .ok (.getfield 10, 3) := by decide +kernel
theorem dX7_writeFormula_38 : decode cX7_writeFormula 38 = .ok (.getfield 102, 3) := by decide +kernel
theorem dX7_writeFormula_41 : decode cX7_writeFormula 41 = .ok (.iload_n 1, 1) := by decide +kernel
theorem dX7_writeFormula_42 : decode cX7_writeFormula 42 = .ok (.laload, 1) := by decide +kernel
theorem dX7_writeFormula_43 : decode cX7_writeFormula 43 = .ok (.lconst 0, 1) := by decide +kernel
theorem dX7_writeFormula_44 : decode cX7_writeFormula 44 = .ok (.lcmp, 1) := by decide +kernel
theorem dX7_writeFormula_45 : decode cX7_writeFormula 45 = .ok (.ifCond .ne 8, 3) := by decide +kernel
theorem dX7_writeFormula_48 : decode cX7_writeFormula 48 = .ok (.bipush 48, 2) := by decide +kernel
theorem dX7_writeFormula_50 : decode cX7_writeFormula 50 = .ok (.goto 5, 3) := by decide +kernel
theorem dX7_writeFormula_53 : decode cX7_writeFormula 53 = .ok (.bipush 49, 2) := by decide +kernel
theorem dX7_writeFormula_55 : decode cX7_writeFormula 55 = .ok (.invokevirtual 179, 3) := by decide +kernel
theorem dX7_writeFormula_58 : decode cX7_writeFormula 58 = .ok (.goto 14, 3) := by decide +kernel
theorem dX7_writeFormula_61 : decode cX7_writeFormula 61 = .ok (.aload_n 0, 1) := by decide +kernel
theorem dX7_writeFormula_62 : decode cX7_writeFormula 62 = .ok (.getfield 54, 3) := by decide +kernel
theorem dX7_writeFormula_65 : decode cX7_writeFormula 65 = .ok (.aload_n 0, 1) := by decide +kernel
theorem dX7_writeFormula_66 : decode cX7_writeFormula 66 = .ok (.getfield 40, 3) := by decide +kernel
theorem dX7_writeFormula_69 : decode cX7_writeFormula 69 = .ok (.invokevirtual 182, 3) := by decide +kernel
theorem dX7_writeFormula_72 : decode cX7_writeFormula 72 = .ok (.aload_n 0, 1) := by decide +kernel
theorem dX7_writeFormula_73 : decode cX7_writeFormula 73 = .ok (.getfield 54, 3) := by decide +kernel
theorem dX7_writeFormula_76 : decode cX7_writeFormula 76 = .ok (.getfield 176, 3) := by decide +kernel
theorem dX7_writeFormula_79 : decode cX7_writeFormula 79 = .ok (.ireturn, 1) := by decide +kernel
theorem dX7_output_0 : decode cX7_output 0 = .ok (.iload_n 1, 1) := by decide +kernel
theorem dX7_output_1 : decode cX7_output 1 = .ok (.aload_n 0, 1) := by decide +kernel
theorem dX7_output_2 : decode cX7_output 2 = .ok (.getfield 54, 3) := by decide +kernel
theorem dX7_output_5 : decode cX7_output 5 = .ok (.getfield 176, 3) := by decide +kernel
theorem dX7_output_8 : decode cX7_output 8 = .ok (.invokestatic 140, 3) := by decide +kernel
theorem dX7_output_11 : decode cX7_output 11 = .ok (.ifCond .eq 15, 3) := by decide +kernel
theorem dX7_output_14 : decode cX7_output 14 = .ok (.aload_n 0, 1) := by decide +kernel
theorem dX7_output_15 : decode cX7_output 15 = .ok (.getfield 54, 3) := by decide +kernel
theorem dX7_output_18 : decode cX7_output 18 = .ok (.getfield 186, 3) := by decide +kernel
theorem dX7_output_21 : decode cX7_output 21 = .ok (.iload_n 1, 1) := by decide +kernel
theorem dX7_output_22 : decode cX7_output 22 = .ok (.iaload, 1) := by decide +kernel
theorem dX7_output_23 : decode cX7_output 23 = .ok (.goto 4, 3) := by decide +kernel
theorem dX7_output_26 : decode cX7_output 26 = .ok (.iconst (-1), 1) := by decide +kernel
theorem dX7_output_27 : decode cX7_output 27 = .ok (.ireturn, 1) := by decide +kernel
theorem dX7_feed_0 : decode cX7_feed 0 = .ok (.iload_n 1, 1) := by decide +kernel
theorem dX7_feed_1 : decode cX7_feed 1 = .ok (.iconst 1, 1) := by decide +kernel
theorem dX7_feed_2 : decode cX7_feed 2 = .ok (.if_icmp .lt 9, 3) := by decide +kernel
theorem dX7_feed_5 : decode cX7_feed 5 = .ok (.iload_n 1, 1) := by decide +kernel
theorem dX7_feed_6 : decode cX7_feed 6 = .ok (.bipush 127, 2) := by decide +kernel
theorem dX7_feed_8 : decode cX7_feed 8 = .ok (.if_icmp .le 6, 3) := by decide +kernel
theorem dX7_feed_11 : decode cX7_feed 11 = .ok (.bipush (-2), 2) := by decide +kernel
theorem dX7_feed_13 : decode cX7_feed 13 = .ok (.ireturn, 1) := by decide +kernel
theorem dX7_feed_14 : decode cX7_feed 14 = .ok (.aload_n 0, 1) := by decide +kernel
theorem dX7_feed_15 : decode cX7_feed 15 = .ok (.getfield 47, 3) := by decide +kernel
theorem dX7_feed_18 : decode cX7_feed 18 = .ok (.iload_n 1, 1) := by decide +kernel
theorem dX7_feed_19 : decode cX7_feed 19 = .ok (.invokevirtual 189, 3) := by decide +kernel
theorem dX7_feed_22 : decode cX7_feed 22 = .ok (.ifCond .eq 13, 3) := by decide +kernel
theorem dX7_feed_25 : decode cX7_feed 25 = .ok (.aload_n 0, 1) := by decide +kernel
theorem dX7_feed_26 : decode cX7_feed 26 = .ok (.getfield 47, 3) := by decide +kernel
theorem dX7_feed_29 : decode cX7_feed 29 = .ok (.getfield 192, 3) := by decide +kernel
theorem dX7_feed_32 : decode cX7_feed 32 = .ok (.goto 5, 3) := by decide +kernel
theorem dX7_feed_35 : decode cX7_feed 35 = .ok (.bipush (-6), 2) := by decide +kernel
theorem dX7_feed_37 : decode cX7_feed 37 = .ok (.ireturn, 1) := by decide +kernel
theorem dX7_parse_0 : decode cX7_parse 0 = .ok (.iload_n 1, 1) := by decide +kernel
theorem dX7_parse_1 : decode cX7_parse 1 = .ok (.invokestatic 86, 3) := by decide +kernel
theorem dX7_parse_4 : decode cX7_parse 4 = .ok (.ifCond .ne 6, 3) := by decide +kernel
theorem dX7_parse_7 : decode cX7_parse 7 = .ok (.bipush (-2), 2) := by decide +kernel
theorem dX7_parse_9 : decode cX7_parse 9 = .ok (.ireturn, 1) := by decide +kernel
theorem dX7_parse_10 : decode cX7_parse 10 = .ok (.aload_n 0, 1) := by decide +kernel
theorem dX7_parse_11 : decode cX7_parse 11 = .ok (.getfield 47, 3) := by decide +kernel
theorem dX7_parse_14 : decode cX7_parse 14 = .ok (.aload_n 0, 1) := by decide +kernel
theorem dX7_parse_15 : decode cX7_parse 15 = .ok (.getfield 10, 3) := by decide +kernel
theorem dX7_parse_18 : decode cX7_parse 18 = .ok (.getfield 75, 3) := by decide +kernel
theorem dX7_parse_21 : decode cX7_parse 21 = .ok (.invokevirtual 193, 3) := by decide +kernel
theorem dX7_parse_24 : decode cX7_parse 24 = .ok (.lstore_n 2, 1) := by decide +kernel
theorem dX7_parse_25 : decode cX7_parse 25 = .ok (.aload_n 0, 1) := by decide +kernel
theorem dX7_parse_26 : decode cX7_parse 26 = .ok (.getfield 47, 3) := by decide +kernel
theorem dX7_parse_29 : decode cX7_parse 29 = .ok (.iconst 0, 1) := by decide +kernel
theorem dX7_parse_30 : decode cX7_parse 30 = .ok (.putfield 192, 3) := by decide +kernel
theorem dX7_parse_33 : decode cX7_parse 33 = .ok (.lload_n 2, 1) := by decide +kernel
theorem dX7_parse_34 : decode cX7_parse 34 = .ok (.ldc2_w 106, 3) := by decide +kernel
theorem dX7_parse_37 : decode cX7_parse 37 = .ok (.lcmp, 1) := by decide +kernel
theorem dX7_parse_38 : decode cX7_parse 38 = .ok (.ifCond .ne 14, 3) := by decide +kernel
theorem dX7_parse_41 : decode cX7_parse 41 = .ok (.bipush (-100), 2) := by decide +kernel
theorem dX7_parse_43 : decode cX7_parse 43 = .ok (.aload_n 0, 1) := by decide +kernel
theorem dX7_parse_44 : decode cX7_parse 44 = .ok (.getfield 47, 3) := by decide +kernel
theorem dX7_parse_47 : decode cX7_parse 47 = .ok (.getfield 196, 3) := by decide +kernel
theorem dX7_parse_50 : decode cX7_parse 50 = .ok (.isub, 1) := by decide +kernel
theorem dX7_parse_51 : decode cX7_parse 51 = .ok (.ireturn, 1) := by decide +kernel
theorem dX7_parse_52 : decode cX7_parse 52 = .ok (.aload_n 0, 1) := by decide +kernel
theorem dX7_parse_53 : decode cX7_parse 53 = .ok (.iload_n 1, 1) := by decide +kernel
theorem dX7_parse_54 : decode cX7_parse 54 = .ok (.lload_n 2, 1) := by decide +kernel
theorem dX7_parse_55 : decode cX7_parse 55 = .ok (.invokevirtual 94, 3) := by decide +kernel
theorem dX7_parse_58 : decode cX7_parse 58 = .ok (.pop, 1) := by decide +kernel
theorem dX7_parse_59 : decode cX7_parse 59 = .ok (.aload_n 0, 1) := by decide +kernel
theorem dX7_parse_60 : decode cX7_parse 60 = .ok (.getfield 47, 3) := by decide +kernel
theorem dX7_parse_63 : decode cX7_parse 63 = .ok (.getfield 199, 3) := by decide +kernel
theorem dX7_parse_66 : decode cX7_parse 66 = .ok (.ireturn, 1) := by decide +kernel
theorem dX7_combine_0 : decode cX7_combine 0 = .ok (.iload_n 1, 1) := by decide +kernel
theorem dX7_combine_1 : decode cX7_combine 1 = .ok (.iconst 3, 1) := by decide +kernel
theorem dX7_combine_2 : decode cX7_combine 2 = .ok (.invokestatic 140, 3) := by decide +kernel
theorem dX7_combine_5 : decode cX7_combine 5 = .ok (.ifCond .eq 25, 3) := by decide +kernel
theorem dX7_combine_8 : decode cX7_combine 8 = .ok (.iload_n 2, 1) := by decide +kernel
theorem dX7_combine_9 : decode cX7_combine 9 = .ok (.invokestatic 86, 3) := by decide +kernel
theorem dX7_combine_12 : decode cX7_combine 12 = .ok (.ifCond .eq 18, 3) := by decide +kernel
theorem dX7_combine_15 : decode cX7_combine 15 = .ok (.iload_n 3, 1) := by decide +kernel
theorem dX7_combine_16 : decode cX7_combine 16 = .ok (.invokestatic 86, 3) := by decide +kernel
theorem dX7_combine_19 : decode cX7_combine 19 = .ok (.ifCond .eq 11, 3) := by decide +kernel
theorem dX7_combine_22 : decode cX7_combine 22 = .ok (.iload 4, 2) := by decide +kernel
theorem dX7_combine_24 : decode cX7_combine 24 = .ok (.invokestatic 86, 3) := by decide +kernel
theorem dX7_combine_27 : decode cX7_combine 27 = .ok (.ifCond .ne 6, 3) := by decide +kernel
theorem dX7_combine_30 : decode cX7_combine 30 = .ok (.bipush (-2), 2) := by decide +kernel
theorem dX7_combine_32 : decode cX7_combine 32 = .ok (.ireturn, 1) := by decide +kernel
theorem dX7_combine_33 : decode cX7_combine 33 = .ok (.aload_n 0, 1) := by decide +kernel
theorem dX7_combine_34 : decode cX7_combine 34 = .ok (.getfield 10, 3) := by decide +kernel
theorem dX7_combine_37 : decode cX7_combine 37 = .ok (.iload_n 2, 1) := by decide +kernel
theorem dX7_combine_38 : decode cX7_combine 38 = .ok (.invokevirtual 202, 3) := by decide +kernel
theorem dX7_combine_41 : decode cX7_combine 41 = .ok (.ifCond .eq 14, 3) := by decide +kernel
theorem dX7_combine_44 : decode cX7_combine 44 = .ok (.aload_n 0, 1) := by decide +kernel
theorem dX7_combine_45 : decode cX7_combine 45 = .ok (.getfield 10, 3) := by decide +kernel
theorem dX7_combine_48 : decode cX7_combine 48 = .ok (.iload_n 3, 1) := by decide +kernel
theorem dX7_combine_49 : decode cX7_combine 49 = .ok (.invokevirtual 202, 3) := by decide +kernel
theorem dX7_combine_52 : decode cX7_combine 52 = .ok (.ifCond .ne 6, 3) := by decide +kernel
theorem dX7_combine_55 : decode cX7_combine 55 = .ok (.bipush (-3), 2) := by decide +kernel
theorem dX7_combine_57 : decode cX7_combine 57 = .ok (.ireturn, 1) := by decide +kernel
theorem dX7_combine_58 : decode cX7_combine 58 = .ok (.aload_n 0, 1) := by decide +kernel
theorem dX7_combine_59 : decode cX7_combine 59 = .ok (.iload 4, 2) := by decide +kernel
theorem dX7_combine_61 : decode cX7_combine 61 = .ok (.iload_n 1, 1) := by decide +kernel
theorem dX7_combine_62 : decode cX7_combine 62 = .ok (.aload_n 0, 1) := by decide +kernel
theorem dX7_combine_63 : decode cX7_combine 63 = .ok (.getfield 10, 3) := by decide +kernel
theorem dX7_combine_66 : decode cX7_combine 66 = .ok (.getfield 102, 3) := by decide +kernel
theorem dX7_combine_69 : decode cX7_combine 69 = .ok (.iload_n 2, 1) := by decide +kernel
theorem dX7_combine_70 : decode cX7_combine 70 = .ok (.laload, 1) := by decide +kernel
theorem dX7_combine_71 : decode cX7_combine 71 = .ok (.aload_n 0, 1) := by decide +kernel
theorem dX7_combine_72 : decode cX7_combine 72 = .ok (.getfield 10, 3) := by decide +kernel
theorem dX7_combine_75 : decode cX7_combine 75 = .ok (.getfield 102, 3) := by decide +kernel
theorem dX7_combine_78 : decode cX7_combine 78 = .ok (.iload_n 3, 1) := by decide +kernel
theorem dX7_combine_79 : decode cX7_combine 79 = .ok (.laload, 1) := by decide +kernel
theorem dX7_combine_80 : decode cX7_combine 80 = .ok (.invokestatic 205, 3) := by decide +kernel
theorem dX7_combine_83 : decode cX7_combine 83 = .ok (.invokevirtual 94, 3) := by decide +kernel
theorem dX7_combine_86 : decode cX7_combine 86 = .ok (.ireturn, 1) := by decide +kernel
theorem dX7_dual_0 : decode cX7_dual 0 = .ok (.iload_n 1, 1) := by decide +kernel
theorem dX7_dual_1 : decode cX7_dual 1 = .ok (.invokestatic 86, 3) := by decide +kernel
theorem dX7_dual_4 : decode cX7_dual 4 = .ok (.ifCond .eq 10, 3) := by decide +kernel
theorem dX7_dual_7 : decode cX7_dual 7 = .ok (.iload_n 2, 1) := by decide +kernel
theorem dX7_dual_8 : decode cX7_dual 8 = .ok (.invokestatic 86, 3) := by decide +kernel
theorem dX7_dual_11 : decode cX7_dual 11 = .ok (.ifCond .ne 6, 3) := by decide +kernel
theorem dX7_dual_14 : decode cX7_dual 14 = .ok (.bipush (-2), 2) := by decide +kernel
theorem dX7_dual_16 : decode cX7_dual 16 = .ok (.ireturn, 1) := by decide +kernel
theorem dX7_dual_17 : decode cX7_dual 17 = .ok (.aload_n 0, 1) := by decide +kernel
theorem dX7_dual_18 : decode cX7_dual 18 = .ok (.getfield 10, 3) := by decide +kernel
theorem dX7_dual_21 : decode cX7_dual 21 = .ok (.iload_n 1, 1) := by decide +kernel
theorem dX7_dual_22 : decode cX7_dual 22 = .ok (.invokevirtual 202, 3) := by decide +kernel
theorem dX7_dual_25 : decode cX7_dual 25 = .ok (.ifCond .ne 6, 3) := by decide +kernel
theorem dX7_dual_28 : decode cX7_dual 28 = .ok (.bipush (-3), 2) := by decide +kernel
theorem dX7_dual_30 : decode cX7_dual 30 = .ok (.ireturn, 1) := by decide +kernel
theorem dX7_dual_31 : decode cX7_dual 31 = .ok (.aload_n 0, 1) := by decide +kernel
theorem dX7_dual_32 : decode cX7_dual 32 = .ok (.getfield 10, 3) := by decide +kernel
theorem dX7_dual_35 : decode cX7_dual 35 = .ok (.getfield 102, 3) := by decide +kernel
theorem dX7_dual_38 : decode cX7_dual 38 = .ok (.iload_n 1, 1) := by decide +kernel
theorem dX7_dual_39 : decode cX7_dual 39 = .ok (.laload, 1) := by decide +kernel
theorem dX7_dual_40 : decode cX7_dual 40 = .ok (.lstore_n 3, 1) := by decide +kernel
theorem dX7_dual_41 : decode cX7_dual 41 = .ok (.aload_n 0, 1) := by decide +kernel
theorem dX7_dual_42 : decode cX7_dual 42 = .ok (.getfield 10, 3) := by decide +kernel
theorem dX7_dual_45 : decode cX7_dual 45 = .ok (.getfield 75, 3) := by decide +kernel
theorem dX7_dual_48 : decode cX7_dual 48 = .ok (.invokestatic 209, 3) := by decide +kernel
theorem dX7_dual_51 : decode cX7_dual 51 = .ok (.iconst 1, 1) := by decide +kernel
theorem dX7_dual_52 : decode cX7_dual 52 = .ok (.isub, 1) := by decide +kernel
theorem dX7_dual_53 : decode cX7_dual 53 = .ok (.istore 5, 2) := by decide +kernel
theorem dX7_dual_55 : decode cX7_dual 55 = .ok (.lconst 0, 1) := by decide +kernel
theorem dX7_dual_56 : decode cX7_dual 56 = .ok (.lstore 6, 2) := by decide +kernel
theorem dX7_dual_58 : decode cX7_dual 58 = .ok (.iconst 0, 1) := by decide +kernel
theorem dX7_dual_59 : decode cX7_dual 59 = .ok (.istore 8, 2) := by decide +kernel
theorem dX7_dual_61 : decode cX7_dual 61 = .ok (.iload 8, 2) := by decide +kernel
theorem dX7_dual_63 : decode cX7_dual 63 = .ok (.iload 5, 2) := by decide +kernel
theorem dX7_dual_65 : decode cX7_dual 65 = .ok (.if_icmp .gt 29, 3) := by decide +kernel
theorem dX7_dual_68 : decode cX7_dual 68 = .ok (.lload 6, 2) := by decide +kernel
theorem dX7_dual_70 : decode cX7_dual 70 = .ok (.lconst 1, 1) := by decide +kernel
theorem dX7_dual_71 : decode cX7_dual 71 = .ok (.lload_n 3, 1) := by decide +kernel
theorem dX7_dual_72 : decode cX7_dual 72 = .ok (.iload 5, 2) := by decide +kernel
theorem dX7_dual_74 : decode cX7_dual 74 = .ok (.iload 8, 2) := by decide +kernel
theorem dX7_dual_76 : decode cX7_dual 76 = .ok (.isub, 1) := by decide +kernel
theorem dX7_dual_77 : decode cX7_dual 77 = .ok (.invokestatic 115, 3) := by decide +kernel
theorem dX7_dual_80 : decode cX7_dual 80 = .ok (.i2l, 1) := by decide +kernel
theorem dX7_dual_81 : decode cX7_dual 81 = .ok (.lsub, 1) := by decide +kernel
theorem dX7_dual_82 : decode cX7_dual 82 = .ok (.iload 8, 2) := by decide +kernel
theorem dX7_dual_84 : decode cX7_dual 84 = .ok (.lshl, 1) := by decide +kernel
theorem dX7_dual_85 : decode cX7_dual 85 = .ok (.lor, 1) := by decide +kernel
theorem dX7_dual_86 : decode cX7_dual 86 = .ok (.lstore 6, 2) := by decide +kernel
theorem dX7_dual_88 : decode cX7_dual 88 = .ok (.iinc 8 1, 3) := by decide +kernel
theorem dX7_dual_91 : decode cX7_dual 91 = .ok (.goto (-30), 3) := by decide +kernel
theorem dX7_dual_94 : decode cX7_dual 94 = .ok (.aload_n 0, 1) := by decide +kernel
theorem dX7_dual_95 : decode cX7_dual 95 = .ok (.iload_n 2, 1) := by decide +kernel
theorem dX7_dual_96 : decode cX7_dual 96 = .ok (.lload 6, 2) := by decide +kernel
theorem dX7_dual_98 : decode cX7_dual 98 = .ok (.invokevirtual 94, 3) := by decide +kernel
theorem dX7_dual_101 : decode cX7_dual 101 = .ok (.ireturn, 1) := by decide +kernel
theorem dX7_cofactor_0 : decode cX7_cofactor 0 = .ok (.iload_n 1, 1) := by decide +kernel
theorem dX7_cofactor_1 : decode cX7_cofactor 1 = .ok (.invokestatic 86, 3) := by decide +kernel
theorem dX7_cofactor_4 : decode cX7_cofactor 4 = .ok (.ifCond .eq 26, 3) := by decide +kernel
theorem dX7_cofactor_7 : decode cX7_cofactor 7 = .ok (.aload_n 0, 1) := by decide +kernel
theorem dX7_cofactor_8 : decode cX7_cofactor 8 = .ok (.iload_n 2, 1) := by decide +kernel
theorem dX7_cofactor_9 : decode cX7_cofactor 9 = .ok (.invokevirtual 134, 3) := by decide +kernel
theorem dX7_cofactor_12 : decode cX7_cofactor 12 = .ok (.ifCond .eq 18, 3) := by decide +kernel
theorem dX7_cofactor_15 : decode cX7_cofactor 15 = .ok (.iload_n 3, 1) := by decide +kernel
theorem dX7_cofactor_16 : decode cX7_cofactor 16 = .ok (.invokestatic 212, 3) := by decide +kernel
theorem dX7_cofactor_19 : decode cX7_cofactor 19 = .ok (.ifCond .eq 11, 3) := by decide +kernel
theorem dX7_cofactor_22 : decode cX7_cofactor 22 = .ok (.iload 4, 2) := by decide +kernel
theorem dX7_cofactor_24 : decode cX7_cofactor 24 = .ok (.invokestatic 86, 3) := by decide +kernel
theorem dX7_cofactor_27 : decode cX7_cofactor 27 = .ok (.ifCond .ne 6, 3) := by decide +kernel
theorem dX7_cofactor_30 : decode cX7_cofactor 30 = .ok (.bipush (-2), 2) := by decide +kernel
theorem dX7_cofactor_32 : decode cX7_cofactor 32 = .ok (.ireturn, 1) := by decide +kernel
theorem dX7_cofactor_33 : decode cX7_cofactor 33 = .ok (.aload_n 0, 1) := by decide +kernel
theorem dX7_cofactor_34 : decode cX7_cofactor 34 = .ok (.getfield 10, 3) := by decide +kernel
theorem dX7_cofactor_37 : decode cX7_cofactor 37 = .ok (.iload_n 1, 1) := by decide +kernel
theorem dX7_cofactor_38 : decode cX7_cofactor 38 = .ok (.invokevirtual 202, 3) := by decide +kernel
theorem dX7_cofactor_41 : decode cX7_cofactor 41 = .ok (.ifCond .ne 6, 3) := by decide +kernel
theorem dX7_cofactor_44 : decode cX7_cofactor 44 = .ok (.bipush (-3), 2) := by decide +kernel
theorem dX7_cofactor_46 : decode cX7_cofactor 46 = .ok (.ireturn, 1) := by decide +kernel
theorem dX7_cofactor_47 : decode cX7_cofactor 47 = .ok (.iload_n 3, 1) := by decide +kernel
theorem dX7_cofactor_48 : decode cX7_cofactor 48 = .ok (.iconst 1, 1) := by decide +kernel
theorem dX7_cofactor_49 : decode cX7_cofactor 49 = .ok (.if_icmp .ne 16, 3) := by decide +kernel
theorem dX7_cofactor_52 : decode cX7_cofactor 52 = .ok (.aload_n 0, 1) := by decide +kernel
theorem dX7_cofactor_53 : decode cX7_cofactor 53 = .ok (.getfield 10, 3) := by decide +kernel
theorem dX7_cofactor_56 : decode cX7_cofactor 56 = .ok (.getfield 75, 3) := by decide +kernel
theorem dX7_cofactor_59 : decode cX7_cofactor 59 = .ok (.invokestatic 90, 3) := by decide +kernel
theorem dX7_cofactor_62 : decode cX7_cofactor 62 = .ok (.goto 4, 3) := by decide +kernel
theorem dX7_cofactor_65 : decode cX7_cofactor 65 = .ok (.lconst 0, 1) := by decide +kernel
theorem dX7_cofactor_66 : decode cX7_cofactor 66 = .ok (.lstore 5, 2) := by decide +kernel
theorem dX7_cofactor_68 : decode cX7_cofactor 68 = .ok (.aload_n 0, 1) := by decide +kernel
theorem dX7_cofactor_69 : decode cX7_cofactor 69 = .ok (.iload 4, 2) := by decide +kernel
theorem dX7_cofactor_71 : decode cX7_cofactor 71 = .ok (.aload_n 0, 1) := by decide +kernel
theorem dX7_cofactor_72 : decode cX7_cofactor 72 = .ok (.aload_n 0, 1) := by decide +kernel
theorem dX7_cofactor_73 : decode cX7_cofactor 73 = .ok (.getfield 10, 3) := by decide +kernel
theorem dX7_cofactor_76 : decode cX7_cofactor 76 = .ok (.getfield 102, 3) := by decide +kernel
theorem dX7_cofactor_79 : decode cX7_cofactor 79 = .ok (.iload_n 1, 1) := by decide +kernel
theorem dX7_cofactor_80 : decode cX7_cofactor 80 = .ok (.laload, 1) := by decide +kernel
theorem dX7_cofactor_81 : decode cX7_cofactor 81 = .ok (.iload_n 2, 1) := by decide +kernel
theorem dX7_cofactor_82 : decode cX7_cofactor 82 = .ok (.lload 5, 2) := by decide +kernel
theorem dX7_cofactor_84 : decode cX7_cofactor 84 = .ok (.invokevirtual 215, 3) := by decide +kernel
theorem dX7_cofactor_87 : decode cX7_cofactor 87 = .ok (.invokevirtual 94, 3) := by decide +kernel
theorem dX7_cofactor_90 : decode cX7_cofactor 90 = .ok (.ireturn, 1) := by decide +kernel
theorem dX7_substitute_0 : decode cX7_substitute 0 = .ok (.iload_n 1, 1) := by decide +kernel
theorem dX7_substitute_1 : decode cX7_substitute 1 = .ok (.invokestatic 86, 3) := by decide +kernel
theorem dX7_substitute_4 : decode cX7_substitute 4 = .ok (.ifCond .eq 26, 3) := by decide +kernel
theorem dX7_substitute_7 : decode cX7_substitute 7 = .ok (.aload_n 0, 1) := by decide +kernel
theorem dX7_substitute_8 : decode cX7_substitute 8 = .ok (.iload_n 2, 1) := by decide +kernel
theorem dX7_substitute_9 : decode cX7_substitute 9 = .ok (.invokevirtual 134, 3) := by decide +kernel
theorem dX7_substitute_12 : decode cX7_substitute 12 = .ok (.ifCond .eq 18, 3) := by decide +kernel
theorem dX7_substitute_15 : decode cX7_substitute 15 = .ok (.iload_n 3, 1) := by decide +kernel
theorem dX7_substitute_16 : decode cX7_substitute 16 = .ok (.invokestatic 86, 3) := by decide +kernel
theorem dX7_substitute_19 : decode cX7_substitute 19 = .ok (.ifCond .eq 11, 3) := by decide +kernel
theorem dX7_substitute_22 : decode cX7_substitute 22 = .ok (.iload 4, 2) := by decide +kernel
theorem dX7_substitute_24 : decode cX7_substitute 24 = .ok (.invokestatic 86, 3) := by decide +kernel
theorem dX7_substitute_27 : decode cX7_substitute 27 = .ok (.ifCond .ne 6, 3) := by decide +kernel
theorem dX7_substitute_30 : decode cX7_substitute 30 = .ok (.bipush (-2), 2) := by decide +kernel
theorem dX7_substitute_32 : decode cX7_substitute 32 = .ok (.ireturn, 1) := by decide +kernel
theorem dX7_substitute_33 : decode cX7_substitute 33 = .ok (.aload_n 0, 1) := by decide +kernel
theorem dX7_substitute_34 : decode cX7_substitute 34 = .ok (.getfield 10, 3) := by decide +kernel
theorem dX7_substitute_37 : decode cX7_substitute 37 = .ok (.iload_n 1, 1) := by decide +kernel
theorem dX7_substitute_38 : decode cX7_substitute 38 = .ok (.invokevirtual 202, 3) := by decide +kernel
theorem dX7_substitute_41 : decode cX7_substitute 41 = .ok (.ifCond .eq 14, 3) := by decide +kernel
theorem dX7_substitute_44 : decode cX7_substitute 44 = .ok (.aload_n 0, 1) := by decide +kernel
theorem dX7_substitute_45 : decode cX7_substitute 45 = .ok (.getfield 10, 3) := by decide +kernel
theorem dX7_substitute_48 : decode cX7_substitute 48 = .ok (.iload_n 3, 1) := by decide +kernel
theorem dX7_substitute_49 : decode cX7_substitute 49 = .ok (.invokevirtual 202, 3) := by decide +kernel
theorem dX7_substitute_52 : decode cX7_substitute 52 = .ok (.ifCond .ne 6, 3) := by decide +kernel
theorem dX7_substitute_55 : decode cX7_substitute 55 = .ok (.bipush (-3), 2) := by decide +kernel
theorem dX7_substitute_57 : decode cX7_substitute 57 = .ok (.ireturn, 1) := by decide +kernel
theorem dX7_substitute_58 : decode cX7_substitute 58 = .ok (.aload_n 0, 1) := by decide +kernel
theorem dX7_substitute_59 : decode cX7_substitute 59 = .ok (.iload 4, 2) := by decide +kernel
theorem dX7_substitute_61 : decode cX7_substitute 61 = .ok (.aload_n 0, 1) := by decide +kernel
theorem dX7_substitute_62 : decode cX7_substitute 62 = .ok (.aload_n 0, 1) := by decide +kernel
theorem dX7_substitute_63 : decode cX7_substitute 63 = .ok (.getfield 10, 3) := by decide +kernel
theorem dX7_substitute_66 : decode cX7_substitute 66 = .ok (.getfield 102, 3) := by decide +kernel
theorem dX7_substitute_69 : decode cX7_substitute 69 = .ok (.iload_n 1, 1) := by decide +kernel
theorem dX7_substitute_70 : decode cX7_substitute 70 = .ok (.laload, 1) := by decide +kernel
theorem dX7_substitute_71 : decode cX7_substitute 71 = .ok (.iload_n 2, 1) := by decide +kernel
theorem dX7_substitute_72 : decode cX7_substitute 72 = .ok (.aload_n 0, 1) := by decide +kernel
theorem dX7_substitute_73 : decode cX7_substitute 73 = .ok (.getfield 10, 3) := by decide +kernel
theorem dX7_substitute_76 : decode cX7_substitute 76 = .ok (.getfield 102, 3) := by decide +kernel
theorem dX7_substitute_79 : decode cX7_substitute 79 = .ok (.iload_n 3, 1) := by decide +kernel
theorem dX7_substitute_80 : decode cX7_substitute 80 = .ok (.laload, 1) := by decide +kernel
theorem dX7_substitute_81 : decode cX7_substitute 81 = .ok (.invokevirtual 215, 3) := by decide +kernel
theorem dX7_substitute_84 : decode cX7_substitute 84 = .ok (.invokevirtual 94, 3) := by decide +kernel
theorem dX7_substitute_87 : decode cX7_substitute 87 = .ok (.ireturn, 1) := by decide +kernel
theorem dX7_exchange_0 : decode cX7_exchange 0 = .ok (.iload_n 1, 1) := by decide +kernel
theorem dX7_exchange_1 : decode cX7_exchange 1 = .ok (.invokestatic 86, 3) := by decide +kernel
theorem dX7_exchange_4 : decode cX7_exchange 4 = .ok (.ifCond .eq 27, 3) := by decide +kernel
theorem dX7_exchange_7 : decode cX7_exchange 7 = .ok (.aload_n 0, 1) := by decide +kernel
theorem dX7_exchange_8 : decode cX7_exchange 8 = .ok (.iload_n 2, 1) := by decide +kernel
theorem dX7_exchange_9 : decode cX7_exchange 9 = .ok (.invokevirtual 134, 3) := by decide +kernel
theorem dX7_exchange_12 : decode cX7_exchange 12 = .ok (.ifCond .eq 19, 3) := by decide +kernel
theorem dX7_exchange_15 : decode cX7_exchange 15 = .ok (.aload_n 0, 1) := by decide +kernel
theorem dX7_exchange_16 : decode cX7_exchange 16 = .ok (.iload_n 3, 1) := by decide +kernel
theorem dX7_exchange_17 : decode cX7_exchange 17 = .ok (.invokevirtual 134, 3) := by decide +kernel
theorem dX7_exchange_20 : decode cX7_exchange 20 = .ok (.ifCond .eq 11, 3) := by decide +kernel
theorem dX7_exchange_23 : decode cX7_exchange 23 = .ok (.iload 4, 2) := by decide +kernel
theorem dX7_exchange_25 : decode cX7_exchange 25 = .ok (.invokestatic 86, 3) := by decide +kernel
theorem dX7_exchange_28 : decode cX7_exchange 28 = .ok (.ifCond .ne 6, 3) := by decide +kernel
theorem dX7_exchange_31 : decode cX7_exchange 31 = .ok (.bipush (-2), 2) := by decide +kernel
theorem dX7_exchange_33 : decode cX7_exchange 33 = .ok (.ireturn, 1) := by decide +kernel
theorem dX7_exchange_34 : decode cX7_exchange 34 = .ok (.aload_n 0, 1) := by decide +kernel
theorem dX7_exchange_35 : decode cX7_exchange 35 = .ok (.getfield 10, 3) := by decide +kernel
theorem dX7_exchange_38 : decode cX7_exchange 38 = .ok (.iload_n 1, 1) := by decide +kernel
theorem dX7_exchange_39 : decode cX7_exchange 39 = .ok (.invokevirtual 202, 3) := by decide +kernel
theorem dX7_exchange_42 : decode cX7_exchange 42 = .ok (.ifCond .ne 6, 3) := by decide +kernel
theorem dX7_exchange_45 : decode cX7_exchange 45 = .ok (.bipush (-3), 2) := by decide +kernel
theorem dX7_exchange_47 : decode cX7_exchange 47 = .ok (.ireturn, 1) := by decide +kernel
theorem dX7_exchange_48 : decode cX7_exchange 48 = .ok (.aload_n 0, 1) := by decide +kernel
theorem dX7_exchange_49 : decode cX7_exchange 49 = .ok (.getfield 10, 3) := by decide +kernel
theorem dX7_exchange_52 : decode cX7_exchange 52 = .ok (.getfield 102, 3) := by decide +kernel
theorem dX7_exchange_55 : decode cX7_exchange 55 = .ok (.iload_n 1, 1) := by decide +kernel
theorem dX7_exchange_56 : decode cX7_exchange 56 = .ok (.laload, 1) := by decide +kernel
theorem dX7_exchange_57 : decode cX7_exchange 57 = .ok (.lstore 5, 2) := by decide +kernel
theorem dX7_exchange_59 : decode cX7_exchange 59 = .ok (.lconst 0, 1) := by decide +kernel
theorem dX7_exchange_60 : decode cX7_exchange 60 = .ok (.lstore 7, 2) := by decide +kernel
theorem dX7_exchange_62 : decode cX7_exchange 62 = .ok (.iconst 0, 1) := by decide +kernel
theorem dX7_exchange_63 : decode cX7_exchange 63 = .ok (.istore 9, 2) := by decide +kernel
theorem dX7_exchange_65 : decode cX7_exchange 65 = .ok (.iload 9, 2) := by decide +kernel
theorem dX7_exchange_67 : decode cX7_exchange 67 = .ok (.aload_n 0, 1) := by decide +kernel
theorem dX7_exchange_68 : decode cX7_exchange 68 = .ok (.getfield 10, 3) := by decide +kernel
theorem dX7_exchange_71 : decode cX7_exchange 71 = .ok (.getfield 75, 3) := by decide +kernel
theorem dX7_exchange_74 : decode cX7_exchange 74 = .ok (.invokestatic 209, 3) := by decide +kernel
theorem dX7_exchange_77 : decode cX7_exchange 77 = .ok (.if_icmp .ge 55, 3) := by decide +kernel
theorem dX7_exchange_80 : decode cX7_exchange 80 = .ok (.iload 9, 2) := by decide +kernel
theorem dX7_exchange_82 : decode cX7_exchange 82 = .ok (.iload_n 2, 1) := by decide +kernel
theorem dX7_exchange_83 : decode cX7_exchange 83 = .ok (.iload 9, 2) := by decide +kernel
theorem dX7_exchange_85 : decode cX7_exchange 85 = .ok (.i2l, 1) := by decide +kernel
theorem dX7_exchange_86 : decode cX7_exchange 86 = .ok (.iload_n 3, 1) := by decide +kernel
theorem dX7_exchange_87 : decode cX7_exchange 87 = .ok (.invokestatic 115, 3) := by decide +kernel
theorem dX7_exchange_90 : decode cX7_exchange 90 = .ok (.invokestatic 219, 3) := by decide +kernel
theorem dX7_exchange_93 : decode cX7_exchange 93 = .ok (.istore 10, 2) := by decide +kernel
theorem dX7_exchange_95 : decode cX7_exchange 95 = .ok (.iload 10, 2) := by decide +kernel
theorem dX7_exchange_97 : decode cX7_exchange 97 = .ok (.iload_n 3, 1) := by decide +kernel
theorem dX7_exchange_98 : decode cX7_exchange 98 = .ok (.iload 9, 2) := by decide +kernel
theorem dX7_exchange_100 : decode cX7_exchange 100 = .ok (.i2l, 1) := by decide +kernel
theorem dX7_exchange_101 : decode cX7_exchange 101 = .ok (.iload_n 2, 1) := by decide +kernel
theorem dX7_exchange_102 : decode cX7_exchange 102 = .ok (.invokestatic 115, 3) := by decide +kernel
theorem dX7_exchange_105 : decode cX7_exchange 105 = .ok (.invokestatic 219, 3) := by decide +kernel
theorem dX7_exchange_108 : decode cX7_exchange 108 = .ok (.istore 10, 2) := by decide +kernel
theorem dX7_exchange_110 : decode cX7_exchange 110 = .ok (.lload 7, 2) := by decide +kernel
theorem dX7_exchange_112 : decode cX7_exchange 112 = .ok (.lload 5, 2) := by decide +kernel
theorem dX7_exchange_114 : decode cX7_exchange 114 = .ok (.iload 10, 2) := by decide +kernel
theorem dX7_exchange_116 : decode cX7_exchange 116 = .ok (.invokestatic 115, 3) := by decide +kernel
theorem dX7_exchange_119 : decode cX7_exchange 119 = .ok (.i2l, 1) := by decide +kernel
theorem dX7_exchange_120 : decode cX7_exchange 120 = .ok (.iload 9, 2) := by decide +kernel
theorem dX7_exchange_122 : decode cX7_exchange 122 = .ok (.lshl, 1) := by decide +kernel
theorem dX7_exchange_123 : decode cX7_exchange 123 = .ok (.lor, 1) := by decide +kernel
theorem dX7_exchange_124 : decode cX7_exchange 124 = .ok (.lstore 7, 2) := by decide +kernel
theorem dX7_exchange_126 : decode cX7_exchange 126 = .ok (.iinc 9 1, 3) := by decide +kernel
theorem dX7_exchange_129 : decode cX7_exchange 129 = .ok (.goto (-64), 3) := by decide +kernel
theorem dX7_exchange_132 : decode cX7_exchange 132 = .ok (.aload_n 0, 1) := by decide +kernel
theorem dX7_exchange_133 : decode cX7_exchange 133 = .ok (.iload 4, 2) := by decide +kernel
theorem dX7_exchange_135 : decode cX7_exchange 135 = .ok (.lload 7, 2) := by decide +kernel
theorem dX7_exchange_137 : decode cX7_exchange 137 = .ok (.invokevirtual 94, 3) := by decide +kernel
theorem dX7_exchange_140 : decode cX7_exchange 140 = .ok (.ireturn, 1) := by decide +kernel
theorem dX7_random_0 : decode cX7_random 0 = .ok (.iload_n 2, 1) := by decide +kernel
theorem dX7_random_1 : decode cX7_random 1 = .ok (.bipush 13, 2) := by decide +kernel
theorem dX7_random_3 : decode cX7_random 3 = .ok (.invokestatic 140, 3) := by decide +kernel
theorem dX7_random_6 : decode cX7_random 6 = .ok (.ifCond .eq 10, 3) := by decide +kernel
theorem dX7_random_9 : decode cX7_random 9 = .ok (.iload_n 3, 1) := by decide +kernel
theorem dX7_random_10 : decode cX7_random 10 = .ok (.invokestatic 86, 3) := by decide +kernel
theorem dX7_random_13 : decode cX7_random 13 = .ok (.ifCond .ne 6, 3) := by decide +kernel
theorem dX7_random_16 : decode cX7_random 16 = .ok (.bipush (-2), 2) := by decide +kernel
theorem dX7_random_18 : decode cX7_random 18 = .ok (.ireturn, 1) := by decide +kernel
theorem dX7_random_19 : decode cX7_random 19 = .ok (.aload_n 0, 1) := by decide +kernel
theorem dX7_random_20 : decode cX7_random 20 = .ok (.iload_n 3, 1) := by decide +kernel
theorem dX7_random_21 : decode cX7_random 21 = .ok (.aload_n 0, 1) := by decide +kernel
theorem dX7_random_22 : decode cX7_random 22 = .ok (.iload_n 1, 1) := by decide +kernel
theorem dX7_random_23 : decode cX7_random 23 = .ok (.iload_n 2, 1) := by decide +kernel
theorem dX7_random_24 : decode cX7_random 24 = .ok (.invokevirtual 223, 3) := by decide +kernel
theorem dX7_random_27 : decode cX7_random 27 = .ok (.invokevirtual 94, 3) := by decide +kernel
theorem dX7_random_30 : decode cX7_random 30 = .ok (.ireturn, 1) := by decide +kernel
theorem dX7_readOnceTrials_0 : decode cX7_readOnceTrials 0 = .ok (.iload_n 2, 1) := by decide +kernel
theorem dX7_readOnceTrials_1 : decode cX7_readOnceTrials 1 = .ok (.bipush 13, 2) := by decide +kernel
theorem dX7_readOnceTrials_3 : decode cX7_readOnceTrials 3 = .ok (.invokestatic 140, 3) := by decide +kernel
theorem dX7_readOnceTrials_6 : decode cX7_readOnceTrials 6 = .ok (.ifCond .eq 14, 3) := by decide +kernel
theorem dX7_readOnceTrials_9 : decode cX7_readOnceTrials 9 = .ok (.iload_n 3, 1) := by decide +kernel
theorem dX7_readOnceTrials_10 : decode cX7_readOnceTrials 10 = .ok (.iconst 1, 1) := by decide +kernel
theorem dX7_readOnceTrials_11 : decode cX7_readOnceTrials 11 = .ok (.if_icmp .lt 9, 3) := by decide +kernel
theorem dX7_readOnceTrials_14 : decode cX7_readOnceTrials 14 = .ok (.iload_n 3, 1) := by decide +kernel
theorem dX7_readOnceTrials_15 : decode cX7_readOnceTrials 15 = .ok (.bipush 30, 2) := by decide +kernel
theorem dX7_readOnceTrials_17 : decode cX7_readOnceTrials 17 = .ok (.if_icmp .le 6, 3) := by decide +kernel
theorem dX7_readOnceTrials_20 : decode cX7_readOnceTrials 20 = .ok (.bipush (-2), 2) := by decide +kernel
theorem dX7_readOnceTrials_22 : decode cX7_readOnceTrials 22 = .ok (.ireturn, 1) := by decide +kernel
theorem dX7_readOnceTrials_23 : decode cX7_readOnceTrials 23 = .ok (.iconst 0, 1) := by decide +kernel
theorem dX7_readOnceTrials_24 : decode cX7_readOnceTrials 24 = .ok (.istore 4, 2) := by decide +kernel
theorem dX7_readOnceTrials_26 : decode cX7_readOnceTrials 26 = .ok (.iconst 0, 1) := by decide +kernel
theorem dX7_readOnceTrials_27 : decode cX7_readOnceTrials 27 = .ok (.istore 5, 2) := by decide +kernel
theorem dX7_readOnceTrials_29 : decode cX7_readOnceTrials 29 = .ok (.iload 5, 2) := by decide +kernel
theorem dX7_readOnceTrials_31 : decode cX7_readOnceTrials 31 = .ok (.iload_n 3, 1) := by decide +kernel
theorem dX7_readOnceTrials_32 : decode cX7_readOnceTrials 32 = .ok (.if_icmp .ge 28, 3) := by decide +kernel
theorem dX7_readOnceTrials_35 : decode cX7_readOnceTrials 35 = .ok (.aload_n 0, 1) := by decide +kernel
theorem dX7_readOnceTrials_36 : decode cX7_readOnceTrials 36 = .ok (.aload_n 0, 1) := by decide +kernel
theorem dX7_readOnceTrials_37 : decode cX7_readOnceTrials 37 = .ok (.iload_n 1, 1) := by decide +kernel
theorem dX7_readOnceTrials_38 : decode cX7_readOnceTrials 38 = .ok (.iload 5, 2) := by decide +kernel
theorem dX7_readOnceTrials_40 : decode cX7_readOnceTrials 40 = .ok (.iadd, 1) := by decide +kernel
theorem dX7_readOnceTrials_41 : decode cX7_readOnceTrials 41 = .ok (.iload_n 2, 1) := by decide +kernel
theorem dX7_readOnceTrials_42 : decode cX7_readOnceTrials 42 = .ok (.invokevirtual 223, 3) := by decide +kernel
theorem dX7_readOnceTrials_45 : decode cX7_readOnceTrials 45 = .ok (.invokevirtual 154, 3) := by decide +kernel
theorem dX7_readOnceTrials_48 : decode cX7_readOnceTrials 48 = .ok (.ifCond .ne 6, 3) := by decide +kernel
theorem dX7_readOnceTrials_51 : decode cX7_readOnceTrials 51 = .ok (.iinc 4 1, 3) := by decide +kernel
theorem dX7_readOnceTrials_54 : decode cX7_readOnceTrials 54 = .ok (.iinc 5 1, 3) := by decide +kernel
theorem dX7_readOnceTrials_57 : decode cX7_readOnceTrials 57 = .ok (.goto (-28), 3) := by decide +kernel
theorem dX7_readOnceTrials_60 : decode cX7_readOnceTrials 60 = .ok (.iload 4, 2) := by decide +kernel
theorem dX7_readOnceTrials_62 : decode cX7_readOnceTrials 62 = .ok (.ireturn, 1) := by decide +kernel
theorem dX7_addSample_0 : decode cX7_addSample 0 = .ok (.aload_n 0, 1) := by decide +kernel
theorem dX7_addSample_1 : decode cX7_addSample 1 = .ok (.iload_n 1, 1) := by decide +kernel
theorem dX7_addSample_2 : decode cX7_addSample 2 = .ok (.invokevirtual 112, 3) := by decide +kernel
theorem dX7_addSample_5 : decode cX7_addSample 5 = .ok (.ifCond .eq 10, 3) := by decide +kernel
theorem dX7_addSample_8 : decode cX7_addSample 8 = .ok (.iload_n 2, 1) := by decide +kernel
theorem dX7_addSample_9 : decode cX7_addSample 9 = .ok (.invokestatic 212, 3) := by decide +kernel
theorem dX7_addSample_12 : decode cX7_addSample 12 = .ok (.ifCond .ne 6, 3) := by decide +kernel
theorem dX7_addSample_15 : decode cX7_addSample 15 = .ok (.bipush (-2), 2) := by decide +kernel
theorem dX7_addSample_17 : decode cX7_addSample 17 = .ok (.ireturn, 1) := by decide +kernel
theorem dX7_addSample_18 : decode cX7_addSample 18 = .ok (.aload_n 0, 1) := by decide +kernel
theorem dX7_addSample_19 : decode cX7_addSample 19 = .ok (.getfield 10, 3) := by decide +kernel
theorem dX7_addSample_22 : decode cX7_addSample 22 = .ok (.dup, 1) := by decide +kernel
theorem dX7_addSample_23 : decode cX7_addSample 23 = .ok (.getfield 227, 3) := by decide +kernel
theorem dX7_addSample_26 : decode cX7_addSample 26 = .ok (.lconst 1, 1) := by decide +kernel
theorem dX7_addSample_27 : decode cX7_addSample 27 = .ok (.iload_n 1, 1) := by decide +kernel
theorem dX7_addSample_28 : decode cX7_addSample 28 = .ok (.lshl, 1) := by decide +kernel
theorem dX7_addSample_29 : decode cX7_addSample 29 = .ok (.lor, 1) := by decide +kernel
theorem dX7_addSample_30 : decode cX7_addSample 30 = .ok (.putfield 227, 3) := by decide +kernel
theorem dX7_addSample_33 : decode cX7_addSample 33 = .ok (.aload_n 0, 1) := by decide +kernel
theorem dX7_addSample_34 : decode cX7_addSample 34 = .ok (.getfield 10, 3) := by decide +kernel
theorem dX7_addSample_37 : decode cX7_addSample 37 = .ok (.dup, 1) := by decide +kernel
theorem dX7_addSample_38 : decode cX7_addSample 38 = .ok (.getfield 231, 3) := by decide +kernel
theorem dX7_addSample_41 : decode cX7_addSample 41 = .ok (.lconst 1, 1) := by decide +kernel
theorem dX7_addSample_42 : decode cX7_addSample 42 = .ok (.iload_n 1, 1) := by decide +kernel
theorem dX7_addSample_43 : decode cX7_addSample 43 = .ok (.lshl, 1) := by decide +kernel
theorem dX7_addSample_44 : decode cX7_addSample 44 = .ok (.ldc2_w 106, 3) := by decide +kernel
theorem dX7_addSample_47 : decode cX7_addSample 47 = .ok (.lxor, 1) := by decide +kernel
theorem dX7_addSample_48 : decode cX7_addSample 48 = .ok (.land, 1) := by decide +kernel
theorem dX7_addSample_49 : decode cX7_addSample 49 = .ok (.putfield 231, 3) := by decide +kernel
theorem dX7_addSample_52 : decode cX7_addSample 52 = .ok (.aload_n 0, 1) := by decide +kernel
theorem dX7_addSample_53 : decode cX7_addSample 53 = .ok (.getfield 10, 3) := by decide +kernel
theorem dX7_addSample_56 : decode cX7_addSample 56 = .ok (.dup, 1) := by decide +kernel
theorem dX7_addSample_57 : decode cX7_addSample 57 = .ok (.getfield 231, 3) := by decide +kernel
theorem dX7_addSample_60 : decode cX7_addSample 60 = .ok (.iload_n 2, 1) := by decide +kernel
theorem dX7_addSample_61 : decode cX7_addSample 61 = .ok (.i2l, 1) := by decide +kernel
theorem dX7_addSample_62 : decode cX7_addSample 62 = .ok (.iload_n 1, 1) := by decide +kernel
theorem dX7_addSample_63 : decode cX7_addSample 63 = .ok (.lshl, 1) := by decide +kernel
theorem dX7_addSample_64 : decode cX7_addSample 64 = .ok (.lor, 1) := by decide +kernel
theorem dX7_addSample_65 : decode cX7_addSample 65 = .ok (.putfield 231, 3) := by decide +kernel
theorem dX7_addSample_68 : decode cX7_addSample 68 = .ok (.aload_n 0, 1) := by decide +kernel
theorem dX7_addSample_69 : decode cX7_addSample 69 = .ok (.getfield 10, 3) := by decide +kernel
theorem dX7_addSample_72 : decode cX7_addSample 72 = .ok (.getfield 227, 3) := by decide +kernel
theorem dX7_addSample_75 : decode cX7_addSample 75 = .ok (.invokestatic 234, 3) := by decide +kernel
theorem dX7_addSample_78 : decode cX7_addSample 78 = .ok (.ireturn, 1) := by decide +kernel
theorem dX7_removeSample_0 : decode cX7_removeSample 0 = .ok (.aload_n 0, 1) := by decide +kernel
theorem dX7_removeSample_1 : decode cX7_removeSample 1 = .ok (.iload_n 1, 1) := by decide +kernel
theorem dX7_removeSample_2 : decode cX7_removeSample 2 = .ok (.invokevirtual 112, 3) := by decide +kernel
theorem dX7_removeSample_5 : decode cX7_removeSample 5 = .ok (.ifCond .ne 6, 3) := by decide +kernel
theorem dX7_removeSample_8 : decode cX7_removeSample 8 = .ok (.bipush (-2), 2) := by decide +kernel
theorem dX7_removeSample_10 : decode cX7_removeSample 10 = .ok (.ireturn, 1) := by decide +kernel
theorem dX7_removeSample_11 : decode cX7_removeSample 11 = .ok (.aload_n 0, 1) := by decide +kernel
theorem dX7_removeSample_12 : decode cX7_removeSample 12 = .ok (.getfield 10, 3) := by decide +kernel
theorem dX7_removeSample_15 : decode cX7_removeSample 15 = .ok (.getfield 227, 3) := by decide +kernel
theorem dX7_removeSample_18 : decode cX7_removeSample 18 = .ok (.iload_n 1, 1) := by decide +kernel
theorem dX7_removeSample_19 : decode cX7_removeSample 19 = .ok (.invokestatic 115, 3) := by decide +kernel
theorem dX7_removeSample_22 : decode cX7_removeSample 22 = .ok (.ifCond .ne 5, 3) := by decide +kernel
theorem dX7_removeSample_25 : decode cX7_removeSample 25 = .ok (.iconst (-1), 1) := by decide +kernel
theorem dX7_removeSample_26 : decode cX7_removeSample 26 = .ok (.ireturn, 1) := by decide +kernel
theorem dX7_removeSample_27 : decode cX7_removeSample 27 = .ok (.aload_n 0, 1) := by decide +kernel
theorem dX7_removeSample_28 : decode cX7_removeSample 28 = .ok (.getfield 10, 3) := by decide +kernel
theorem dX7_removeSample_31 : decode cX7_removeSample 31 = .ok (.dup, 1) := by decide +kernel
theorem dX7_removeSample_32 : decode cX7_removeSample 32 = .ok (.getfield 227, 3) := by decide +kernel
theorem dX7_removeSample_35 : decode cX7_removeSample 35 = .ok (.lconst 1, 1) := by decide +kernel
theorem dX7_removeSample_36 : decode cX7_removeSample 36 = .ok (.iload_n 1, 1) := by decide +kernel
theorem dX7_removeSample_37 : decode cX7_removeSample 37 = .ok (.lshl, 1) := by decide +kernel
theorem dX7_removeSample_38 : decode cX7_removeSample 38 = .ok (.ldc2_w 106, 3) := by decide +kernel
theorem dX7_removeSample_41 : decode cX7_removeSample 41 = .ok (.lxor, 1) := by decide +kernel
theorem dX7_removeSample_42 : decode cX7_removeSample 42 = .ok (.land, 1) := by decide +kernel
theorem dX7_removeSample_43 : decode cX7_removeSample 43 = .ok (.putfield 227, 3) := by decide +kernel
theorem dX7_removeSample_46 : decode cX7_removeSample 46 = .ok (.aload_n 0, 1) := by decide +kernel
theorem dX7_removeSample_47 : decode cX7_removeSample 47 = .ok (.getfield 10, 3) := by decide +kernel
theorem dX7_removeSample_50 : decode cX7_removeSample 50 = .ok (.dup, 1) := by decide +kernel
theorem dX7_removeSample_51 : decode cX7_removeSample 51 = .ok (.getfield 231, 3) := by decide +kernel
theorem dX7_removeSample_54 : decode cX7_removeSample 54 = .ok (.lconst 1, 1) := by decide +kernel
theorem dX7_removeSample_55 : decode cX7_removeSample 55 = .ok (.iload_n 1, 1) := by decide +kernel
theorem dX7_removeSample_56 : decode cX7_removeSample 56 = .ok (.lshl, 1) := by decide +kernel
theorem dX7_removeSample_57 : decode cX7_removeSample 57 = .ok (.ldc2_w 106, 3) := by decide +kernel
theorem dX7_removeSample_60 : decode cX7_removeSample 60 = .ok (.lxor, 1) := by decide +kernel
theorem dX7_removeSample_61 : decode cX7_removeSample 61 = .ok (.land, 1) := by decide +kernel
theorem dX7_removeSample_62 : decode cX7_removeSample 62 = .ok (.putfield 231, 3) := by decide +kernel
theorem dX7_removeSample_65 : decode cX7_removeSample 65 = .ok (.aload_n 0, 1) := by decide +kernel
theorem dX7_removeSample_66 : decode cX7_removeSample 66 = .ok (.getfield 10, 3) := by decide +kernel
theorem dX7_removeSample_69 : decode cX7_removeSample 69 = .ok (.getfield 227, 3) := by decide +kernel
theorem dX7_removeSample_72 : decode cX7_removeSample 72 = .ok (.invokestatic 234, 3) := by decide +kernel
theorem dX7_removeSample_75 : decode cX7_removeSample 75 = .ok (.ireturn, 1) := by decide +kernel
theorem dX7_extensions_0 : decode cX7_extensions 0 = .ok (.aload_n 0, 1) := by decide +kernel
theorem dX7_extensions_1 : decode cX7_extensions 1 = .ok (.invokevirtual 239, 3) := by decide +kernel
theorem dX7_extensions_4 : decode cX7_extensions 4 = .ok (.astore_n 1, 1) := by decide +kernel
theorem dX7_extensions_5 : decode cX7_extensions 5 = .ok (.iconst 0, 1) := by decide +kernel
theorem dX7_extensions_6 : decode cX7_extensions 6 = .ok (.istore_n 2, 1) := by decide +kernel
theorem dX7_extensions_7 : decode cX7_extensions 7 = .ok (.iconst 0, 1) := by decide +kernel
theorem dX7_extensions_8 : decode cX7_extensions 8 = .ok (.istore_n 3, 1) := by decide +kernel
theorem dX7_extensions_9 : decode cX7_extensions 9 = .ok (.iload_n 3, 1) := by decide +kernel
theorem dX7_extensions_10 : decode cX7_extensions 10 = .ok (.aload_n 1, 1) := by decide +kernel
theorem dX7_extensions_11 : decode cX7_extensions 11 = .ok (.getfield 243, 3) := by decide +kernel
theorem dX7_extensions_14 : decode cX7_extensions 14 = .ok (.if_icmp .ge 21, 3) := by decide +kernel
theorem dX7_extensions_17 : decode cX7_extensions 17 = .ok (.aload_n 0, 1) := by decide +kernel
theorem dX7_extensions_18 : decode cX7_extensions 18 = .ok (.aload_n 1, 1) := by decide +kernel
theorem dX7_extensions_19 : decode cX7_extensions 19 = .ok (.iload_n 3, 1) := by decide +kernel
theorem dX7_extensions_20 : decode cX7_extensions 20 = .ok (.invokevirtual 246, 3) := by decide +kernel
theorem dX7_extensions_23 : decode cX7_extensions 23 = .ok (.ifCond .eq 6, 3) := by decide +kernel
theorem dX7_extensions_26 : decode cX7_extensions 26 = .ok (.iinc 2 1, 3) := by decide +kernel
theorem dX7_extensions_29 : decode cX7_extensions 29 = .ok (.iinc 3 1, 3) := by decide +kernel
theorem dX7_extensions_32 : decode cX7_extensions 32 = .ok (.goto (-23), 3) := by decide +kernel
theorem dX7_extensions_35 : decode cX7_extensions 35 = .ok (.iload_n 2, 1) := by decide +kernel
theorem dX7_extensions_36 : decode cX7_extensions 36 = .ok (.ireturn, 1) := by decide +kernel
theorem dX7_extension_0 : decode cX7_extension 0 = .ok (.aload_n 0, 1) := by decide +kernel
theorem dX7_extension_1 : decode cX7_extension 1 = .ok (.invokevirtual 239, 3) := by decide +kernel
theorem dX7_extension_4 : decode cX7_extension 4 = .ok (.astore_n 2, 1) := by decide +kernel
theorem dX7_extension_5 : decode cX7_extension 5 = .ok (.iconst 0, 1) := by decide +kernel
theorem dX7_extension_6 : decode cX7_extension 6 = .ok (.istore_n 3, 1) := by decide +kernel
theorem dX7_extension_7 : decode cX7_extension 7 = .ok (.iconst 0, 1) := by decide +kernel
theorem dX7_extension_8 : decode cX7_extension 8 = .ok (.istore 4, 2) := by decide +kernel
theorem dX7_extension_10 : decode cX7_extension 10 = .ok (.iload 4, 2) := by decide +kernel
theorem dX7_extension_12 : decode cX7_extension 12 = .ok (.aload_n 2, 1) := by decide +kernel
theorem dX7_extension_13 : decode cX7_extension 13 = .ok (.getfield 243, 3) := by decide +kernel
theorem dX7_extension_16 : decode cX7_extension 16 = .ok (.if_icmp .ge 45, 3) := by decide +kernel
theorem dX7_extension_19 : decode cX7_extension 19 = .ok (.aload_n 0, 1) := by decide +kernel
theorem dX7_extension_20 : decode cX7_extension 20 = .ok (.aload_n 2, 1) := by decide +kernel
theorem dX7_extension_21 : decode cX7_extension 21 = .ok (.iload 4, 2) := by decide +kernel
theorem dX7_extension_23 : decode cX7_extension 23 = .ok (.invokevirtual 246, 3) := by decide +kernel
theorem dX7_extension_26 : decode cX7_extension 26 = .ok (.ifCond .eq 29, 3) := by decide +kernel
theorem dX7_extension_29 : decode cX7_extension 29 = .ok (.iload_n 3, 1) := by decide +kernel
theorem dX7_extension_30 : decode cX7_extension 30 = .ok (.iload_n 1, 1) := by decide +kernel
theorem dX7_extension_31 : decode cX7_extension 31 = .ok (.if_icmp .ne 21, 3) := by decide +kernel
theorem dX7_extension_34 : decode cX7_extension 34 = .ok (.aload_n 2, 1) := by decide +kernel
theorem dX7_extension_35 : decode cX7_extension 35 = .ok (.iload 4, 2) := by decide +kernel
theorem dX7_extension_37 : decode cX7_extension 37 = .ok (.invokevirtual 250, 3) := by decide +kernel
theorem dX7_extension_40 : decode cX7_extension 40 = .ok (.aload_n 0, 1) := by decide +kernel
theorem dX7_extension_41 : decode cX7_extension 41 = .ok (.getfield 10, 3) := by decide +kernel
theorem dX7_extension_44 : decode cX7_extension 44 = .ok (.getfield 75, 3) := by decide +kernel
theorem dX7_extension_47 : decode cX7_extension 47 = .ok (.invokestatic 90, 3) := by decide +kernel
theorem dX7_extension_50 : decode cX7_extension 50 = .ok (.land, 1) := by decide +kernel
theorem dX7_extension_51 : decode cX7_extension 51 = .ok (.lreturn, 1) := by decide +kernel
theorem dX7_extension_52 : decode cX7_extension 52 = .ok (.iinc 3 1, 3) := by decide +kernel
theorem dX7_extension_55 : decode cX7_extension 55 = .ok (.iinc 4 1, 3) := by decide +kernel
theorem dX7_extension_58 : decode cX7_extension 58 = .ok (.goto (-48), 3) := by decide +kernel
theorem dX7_extension_61 : decode cX7_extension 61 = .ok (.ldc2_w 106, 3) := by decide +kernel
theorem dX7_extension_64 : decode cX7_extension 64 = .ok (.lreturn, 1) := by decide +kernel
theorem dX7_simplestExtension_0 : decode cX7_simplestExtension 0 = .ok (.aload_n 0, 1) := by decide +kernel
theorem dX7_simplestExtension_1 : decode cX7_simplestExtension 1 = .ok (.invokevirtual 239, 3) := by decide +kernel
theorem dX7_simplestExtension_4 : decode cX7_simplestExtension 4 = .ok (.astore_n 1, 1) := by decide +kernel
theorem dX7_simplestExtension_5 : decode cX7_simplestExtension 5 = .ok (.ldc2_w 106, 3) := by decide +kernel
theorem dX7_simplestExtension_8 : decode cX7_simplestExtension 8 = .ok (.lstore_n 2, 1) := by decide +kernel
theorem dX7_simplestExtension_9 : decode cX7_simplestExtension 9 = .ok (.bipush 6, 2) := by decide +kernel
theorem dX7_simplestExtension_11 : decode cX7_simplestExtension 11 = .ok (.istore 4, 2) := by decide +kernel
theorem dX7_simplestExtension_13 : decode cX7_simplestExtension 13 = .ok (.iconst 0, 1) := by decide +kernel
theorem dX7_simplestExtension_14 : decode cX7_simplestExtension 14 = .ok (.istore 5, 2) := by decide +kernel
theorem dX7_simplestExtension_16 : decode cX7_simplestExtension 16 = .ok (.iload 5, 2) := by decide +kernel
theorem dX7_simplestExtension_18 : decode cX7_simplestExtension 18 = .ok (.aload_n 1, 1) := by decide +kernel
theorem dX7_simplestExtension_19 : decode cX7_simplestExtension 19 = .ok (.getfield 243, 3) := by decide +kernel
theorem dX7_simplestExtension_22 : decode cX7_simplestExtension 22 = .ok (.if_icmp .ge 59, 3) := by decide +kernel
theorem dX7_simplestExtension_25 : decode cX7_simplestExtension 25 = .ok (.aload_n 1, 1) := by decide +kernel
theorem dX7_simplestExtension_26 : decode cX7_simplestExtension 26 = .ok (.iload 5, 2) := by decide +kernel
theorem dX7_simplestExtension_28 : decode cX7_simplestExtension 28 = .ok (.invokevirtual 253, 3) := by decide +kernel
theorem dX7_simplestExtension_31 : decode cX7_simplestExtension 31 = .ok (.invokestatic 256, 3) := by decide +kernel
theorem dX7_simplestExtension_34 : decode cX7_simplestExtension 34 = .ok (.istore 6, 2) := by decide +kernel
theorem dX7_simplestExtension_36 : decode cX7_simplestExtension 36 = .ok (.iload 6, 2) := by decide +kernel
theorem dX7_simplestExtension_38 : decode cX7_simplestExtension 38 = .ok (.iload 4, 2) := by decide +kernel
theorem dX7_simplestExtension_40 : decode cX7_simplestExtension 40 = .ok (.if_icmp .ge 35, 3) := by decide +kernel
theorem dX7_simplestExtension_43 : decode cX7_simplestExtension 43 = .ok (.aload_n 0, 1) := by decide +kernel
theorem dX7_simplestExtension_44 : decode cX7_simplestExtension 44 = .ok (.aload_n 1, 1) := by decide +kernel
theorem dX7_simplestExtension_45 : decode cX7_simplestExtension 45 = .ok (.iload 5, 2) := by decide +kernel
theorem dX7_simplestExtension_47 : decode cX7_simplestExtension 47 = .ok (.invokevirtual 246, 3) := by decide +kernel
theorem dX7_simplestExtension_50 : decode cX7_simplestExtension 50 = .ok (.ifCond .eq 25, 3) := by decide +kernel
theorem dX7_simplestExtension_53 : decode cX7_simplestExtension 53 = .ok (.iload 6, 2) := by decide +kernel
theorem dX7_simplestExtension_55 : decode cX7_simplestExtension 55 = .ok (.istore 4, 2) := by decide +kernel
theorem dX7_simplestExtension_57 : decode cX7_simplestExtension 57 = .ok (.aload_n 1, 1) := by decide +kernel
theorem dX7_simplestExtension_58 : decode cX7_simplestExtension 58 = .ok (.iload 5, 2) := by decide +kernel
theorem dX7_simplestExtension_60 : decode cX7_simplestExtension 60 = .ok (.invokevirtual 250, 3) := by decide +kernel
theorem dX7_simplestExtension_63 : decode cX7_simplestExtension 63 = .ok (.aload_n 0, 1) := by decide +kernel
theorem dX7_simplestExtension_64 : decode cX7_simplestExtension 64 = .ok (.getfield 10, 3) := by decide +kernel
theorem dX7_simplestExtension_67 : decode cX7_simplestExtension 67 = .ok (.getfield 75, 3) := by decide +kernel
theorem dX7_simplestExtension_70 : decode cX7_simplestExtension 70 = .ok (.invokestatic 90, 3) := by decide +kernel
theorem dX7_simplestExtension_73 : decode cX7_simplestExtension 73 = .ok (.land, 1) := by decide +kernel
theorem dX7_simplestExtension_74 : decode cX7_simplestExtension 74 = .ok (.lstore_n 2, 1) := by decide +kernel
theorem dX7_simplestExtension_75 : decode cX7_simplestExtension 75 = .ok (.iinc 5 1, 3) := by decide +kernel
theorem dX7_simplestExtension_78 : decode cX7_simplestExtension 78 = .ok (.goto (-62), 3) := by decide +kernel
theorem dX7_simplestExtension_81 : decode cX7_simplestExtension 81 = .ok (.lload_n 2, 1) := by decide +kernel
theorem dX7_simplestExtension_82 : decode cX7_simplestExtension 82 = .ok (.lreturn, 1) := by decide +kernel
theorem dX7_readOnceCount_0 : decode cX7_readOnceCount 0 = .ok (.iload_n 1, 1) := by decide +kernel
theorem dX7_readOnceCount_1 : decode cX7_readOnceCount 1 = .ok (.aload_n 0, 1) := by decide +kernel
theorem dX7_readOnceCount_2 : decode cX7_readOnceCount 2 = .ok (.getfield 10, 3) := by decide +kernel
theorem dX7_readOnceCount_5 : decode cX7_readOnceCount 5 = .ok (.getfield 75, 3) := by decide +kernel
theorem dX7_readOnceCount_8 : decode cX7_readOnceCount 8 = .ok (.iconst 1, 1) := by decide +kernel
theorem dX7_readOnceCount_9 : decode cX7_readOnceCount 9 = .ok (.iadd, 1) := by decide +kernel
theorem dX7_readOnceCount_10 : decode cX7_readOnceCount 10 = .ok (.invokestatic 140, 3) := by decide +kernel
theorem dX7_readOnceCount_13 : decode cX7_readOnceCount 13 = .ok (.ifCond .ne 6, 3) := by decide +kernel
theorem dX7_readOnceCount_16 : decode cX7_readOnceCount 16 = .ok (.bipush (-2), 2) := by decide +kernel
theorem dX7_readOnceCount_18 : decode cX7_readOnceCount 18 = .ok (.ireturn, 1) := by decide +kernel
theorem dX7_readOnceCount_19 : decode cX7_readOnceCount 19 = .ok (.aload_n 0, 1) := by decide +kernel
theorem dX7_readOnceCount_20 : decode cX7_readOnceCount 20 = .ok (.invokevirtual 239, 3) := by decide +kernel
theorem dX7_readOnceCount_23 : decode cX7_readOnceCount 23 = .ok (.astore_n 2, 1) := by decide +kernel
theorem dX7_readOnceCount_24 : decode cX7_readOnceCount 24 = .ok (.iconst 0, 1) := by decide +kernel
theorem dX7_readOnceCount_25 : decode cX7_readOnceCount 25 = .ok (.istore_n 3, 1) := by decide +kernel
theorem dX7_readOnceCount_26 : decode cX7_readOnceCount 26 = .ok (.iconst 0, 1) := by decide +kernel
theorem dX7_readOnceCount_27 : decode cX7_readOnceCount 27 = .ok (.istore 4, 2) := by decide +kernel
theorem dX7_readOnceCount_29 : decode cX7_readOnceCount 29 = .ok (.iload 4, 2) := by decide +kernel
theorem dX7_readOnceCount_31 : decode cX7_readOnceCount 31 = .ok (.aload_n 2, 1) := by decide +kernel
theorem dX7_readOnceCount_32 : decode cX7_readOnceCount 32 = .ok (.getfield 243, 3) := by decide +kernel
theorem dX7_readOnceCount_35 : decode cX7_readOnceCount 35 = .ok (.if_icmp .ge 38, 3) := by decide +kernel
theorem dX7_readOnceCount_38 : decode cX7_readOnceCount 38 = .ok (.aload_n 2, 1) := by decide +kernel
theorem dX7_readOnceCount_39 : decode cX7_readOnceCount 39 = .ok (.iload 4, 2) := by decide +kernel
theorem dX7_readOnceCount_41 : decode cX7_readOnceCount 41 = .ok (.invokevirtual 253, 3) := by decide +kernel
theorem dX7_readOnceCount_44 : decode cX7_readOnceCount 44 = .ok (.istore 5, 2) := by decide +kernel
theorem dX7_readOnceCount_46 : decode cX7_readOnceCount 46 = .ok (.aload_n 0, 1) := by decide +kernel
theorem dX7_readOnceCount_47 : decode cX7_readOnceCount 47 = .ok (.iload 5, 2) := by decide +kernel
theorem dX7_readOnceCount_49 : decode cX7_readOnceCount 49 = .ok (.invokevirtual 112, 3) := by decide +kernel
theorem dX7_readOnceCount_52 : decode cX7_readOnceCount 52 = .ok (.ifCond .eq 15, 3) := by decide +kernel
theorem dX7_readOnceCount_55 : decode cX7_readOnceCount 55 = .ok (.iload 5, 2) := by decide +kernel
theorem dX7_readOnceCount_57 : decode cX7_readOnceCount 57 = .ok (.invokestatic 256, 3) := by decide +kernel
theorem dX7_readOnceCount_60 : decode cX7_readOnceCount 60 = .ok (.iload_n 1, 1) := by decide +kernel
theorem dX7_readOnceCount_61 : decode cX7_readOnceCount 61 = .ok (.if_icmp .ne 6, 3) := by decide +kernel
theorem dX7_readOnceCount_64 : decode cX7_readOnceCount 64 = .ok (.iinc 3 1, 3) := by decide +kernel
theorem dX7_readOnceCount_67 : decode cX7_readOnceCount 67 = .ok (.iinc 4 1, 3) := by decide +kernel
theorem dX7_readOnceCount_70 : decode cX7_readOnceCount 70 = .ok (.goto (-41), 3) := by decide +kernel
theorem dX7_readOnceCount_73 : decode cX7_readOnceCount 73 = .ok (.iload_n 3, 1) := by decide +kernel
theorem dX7_readOnceCount_74 : decode cX7_readOnceCount 74 = .ok (.ireturn, 1) := by decide +kernel
theorem dX7_addStep_0 : decode cX7_addStep 0 = .ok (.iload_n 1, 1) := by decide +kernel
theorem dX7_addStep_1 : decode cX7_addStep 1 = .ok (.bipush 6, 2) := by decide +kernel
theorem dX7_addStep_3 : decode cX7_addStep 3 = .ok (.invokestatic 140, 3) := by decide +kernel
theorem dX7_addStep_6 : decode cX7_addStep 6 = .ok (.ifCond .ne 6, 3) := by decide +kernel
theorem dX7_addStep_9 : decode cX7_addStep 9 = .ok (.bipush (-2), 2) := by decide +kernel
theorem dX7_addStep_11 : decode cX7_addStep 11 = .ok (.ireturn, 1) := by decide +kernel
theorem dX7_addStep_12 : decode cX7_addStep 12 = .ok (.aload_n 0, 1) := by decide +kernel
theorem dX7_addStep_13 : decode cX7_addStep 13 = .ok (.getfield 10, 3) := by decide +kernel
theorem dX7_addStep_16 : decode cX7_addStep 16 = .ok (.getfield 260, 3) := by decide +kernel
theorem dX7_addStep_19 : decode cX7_addStep 19 = .ok (.bipush 8, 2) := by decide +kernel
theorem dX7_addStep_21 : decode cX7_addStep 21 = .ok (.if_icmp .lt 6, 3) := by decide +kernel
theorem dX7_addStep_24 : decode cX7_addStep 24 = .ok (.bipush (-6), 2) := by decide +kernel
theorem dX7_addStep_26 : decode cX7_addStep 26 = .ok (.ireturn, 1) := by decide +kernel
theorem dX7_addStep_27 : decode cX7_addStep 27 = .ok (.aload_n 0, 1) := by decide +kernel
theorem dX7_addStep_28 : decode cX7_addStep 28 = .ok (.getfield 10, 3) := by decide +kernel
theorem dX7_addStep_31 : decode cX7_addStep 31 = .ok (.iload_n 1, 1) := by decide +kernel
theorem dX7_addStep_32 : decode cX7_addStep 32 = .ok (.iload_n 2, 1) := by decide +kernel
theorem dX7_addStep_33 : decode cX7_addStep 33 = .ok (.iload_n 3, 1) := by decide +kernel
theorem dX7_addStep_34 : decode cX7_addStep 34 = .ok (.iload 4, 2) := by decide +kernel
theorem dX7_addStep_36 : decode cX7_addStep 36 = .ok (.invokevirtual 263, 3) := by decide +kernel
theorem dX7_addStep_39 : decode cX7_addStep 39 = .ok (.aload_n 0, 1) := by decide +kernel
theorem dX7_addStep_40 : decode cX7_addStep 40 = .ok (.getfield 10, 3) := by decide +kernel
theorem dX7_addStep_43 : decode cX7_addStep 43 = .ok (.getfield 260, 3) := by decide +kernel
theorem dX7_addStep_46 : decode cX7_addStep 46 = .ok (.ireturn, 1) := by decide +kernel
theorem dX7_clearSteps_0 : decode cX7_clearSteps 0 = .ok (.aload_n 0, 1) := by decide +kernel
theorem dX7_clearSteps_1 : decode cX7_clearSteps 1 = .ok (.getfield 10, 3) := by decide +kernel
theorem dX7_clearSteps_4 : decode cX7_clearSteps 4 = .ok (.getfield 260, 3) := by decide +kernel
theorem dX7_clearSteps_7 : decode cX7_clearSteps 7 = .ok (.istore_n 1, 1) := by decide +kernel
theorem dX7_clearSteps_8 : decode cX7_clearSteps 8 = .ok (.aload_n 0, 1) := by decide +kernel
theorem dX7_clearSteps_9 : decode cX7_clearSteps 9 = .ok (.getfield 10, 3) := by decide +kernel
theorem dX7_clearSteps_12 : decode cX7_clearSteps 12 = .ok (.iconst 0, 1) := by decide +kernel
theorem dX7_clearSteps_13 : decode cX7_clearSteps 13 = .ok (.putfield 260, 3) := by decide +kernel
theorem dX7_clearSteps_16 : decode cX7_clearSteps 16 = .ok (.iload_n 1, 1) := by decide +kernel
theorem dX7_clearSteps_17 : decode cX7_clearSteps 17 = .ok (.ireturn, 1) := by decide +kernel
theorem dX7_runSteps_0 : decode cX7_runSteps 0 = .ok (.iconst 0, 1) := by decide +kernel
theorem dX7_runSteps_1 : decode cX7_runSteps 1 = .ok (.istore_n 1, 1) := by decide +kernel
theorem dX7_runSteps_2 : decode cX7_runSteps 2 = .ok (.iconst 0, 1) := by decide +kernel
theorem dX7_runSteps_3 : decode cX7_runSteps 3 = .ok (.istore_n 2, 1) := by decide +kernel
theorem dX7_runSteps_4 : decode cX7_runSteps 4 = .ok (.iload_n 2, 1) := by decide +kernel
theorem dX7_runSteps_5 : decode cX7_runSteps 5 = .ok (.aload_n 0, 1) := by decide +kernel
theorem dX7_runSteps_6 : decode cX7_runSteps 6 = .ok (.getfield 10, 3) := by decide +kernel
theorem dX7_runSteps_9 : decode cX7_runSteps 9 = .ok (.getfield 260, 3) := by decide +kernel
theorem dX7_runSteps_12 : decode cX7_runSteps 12 = .ok (.if_icmp .ge 22, 3) := by decide +kernel
theorem dX7_runSteps_15 : decode cX7_runSteps 15 = .ok (.aload_n 0, 1) := by decide +kernel
theorem dX7_runSteps_16 : decode cX7_runSteps 16 = .ok (.iload_n 2, 1) := by decide +kernel
theorem dX7_runSteps_17 : decode cX7_runSteps 17 = .ok (.iconst 4, 1) := by decide +kernel
theorem dX7_runSteps_18 : decode cX7_runSteps 18 = .ok (.imul, 1) := by decide +kernel
theorem dX7_runSteps_19 : decode cX7_runSteps 19 = .ok (.invokevirtual 267, 3) := by decide +kernel
theorem dX7_runSteps_22 : decode cX7_runSteps 22 = .ok (.ifCond .lt 6, 3) := by decide +kernel
theorem dX7_runSteps_25 : decode cX7_runSteps 25 = .ok (.iinc 1 1, 3) := by decide +kernel
theorem dX7_runSteps_28 : decode cX7_runSteps 28 = .ok (.iinc 2 1, 3) := by decide +kernel
theorem dX7_runSteps_31 : decode cX7_runSteps 31 = .ok (.goto (-27), 3) := by decide +kernel
theorem dX7_runSteps_34 : decode cX7_runSteps 34 = .ok (.iload_n 1, 1) := by decide +kernel
theorem dX7_runSteps_35 : decode cX7_runSteps 35 = .ok (.ireturn, 1) := by decide +kernel
theorem dX7_undo_0 : decode cX7_undo 0 = .ok (.aload_n 0, 1) := by decide +kernel
theorem dX7_undo_1 : decode cX7_undo 1 = .ok (.getfield 26, 3) := by decide +kernel
theorem dX7_undo_4 : decode cX7_undo 4 = .ok (.getfield 270, 3) := by decide +kernel
theorem dX7_undo_7 : decode cX7_undo 7 = .ok (.iconst 1, 1) := by decide +kernel
theorem dX7_undo_8 : decode cX7_undo 8 = .ok (.isub, 1) := by decide +kernel
theorem dX7_undo_9 : decode cX7_undo 9 = .ok (.istore_n 1, 1) := by decide +kernel
theorem dX7_undo_10 : decode cX7_undo 10 = .ok (.iload_n 1, 1) := by decide +kernel
theorem dX7_undo_11 : decode cX7_undo 11 = .ok (.bipush 10, 2) := by decide +kernel
theorem dX7_undo_13 : decode cX7_undo 13 = .ok (.invokestatic 140, 3) := by decide +kernel
theorem dX7_undo_16 : decode cX7_undo 16 = .ok (.ifCond .eq 18, 3) := by decide +kernel
theorem dX7_undo_19 : decode cX7_undo 19 = .ok (.aload_n 0, 1) := by decide +kernel
theorem dX7_undo_20 : decode cX7_undo 20 = .ok (.getfield 26, 3) := by decide +kernel
theorem dX7_undo_23 : decode cX7_undo 23 = .ok (.getfield 271, 3) := by decide +kernel
theorem dX7_undo_26 : decode cX7_undo 26 = .ok (.iload_n 1, 1) := by decide +kernel
theorem dX7_undo_27 : decode cX7_undo 27 = .ok (.iaload, 1) := by decide +kernel
theorem dX7_undo_28 : decode cX7_undo 28 = .ok (.invokestatic 86, 3) := by decide +kernel
theorem dX7_undo_31 : decode cX7_undo 31 = .ok (.ifCond .ne 6, 3) := by decide +kernel
theorem dX7_undo_34 : decode cX7_undo 34 = .ok (.bipush (-7), 2) := by decide +kernel
theorem dX7_undo_36 : decode cX7_undo 36 = .ok (.ireturn, 1) := by decide +kernel
theorem dX7_undo_37 : decode cX7_undo 37 = .ok (.aload_n 0, 1) := by decide +kernel
theorem dX7_undo_38 : decode cX7_undo 38 = .ok (.getfield 26, 3) := by decide +kernel
theorem dX7_undo_41 : decode cX7_undo 41 = .ok (.getfield 271, 3) := by decide +kernel
theorem dX7_undo_44 : decode cX7_undo 44 = .ok (.iload_n 1, 1) := by decide +kernel
theorem dX7_undo_45 : decode cX7_undo 45 = .ok (.iaload, 1) := by decide +kernel
theorem dX7_undo_46 : decode cX7_undo 46 = .ok (.istore_n 2, 1) := by decide +kernel
theorem dX7_undo_47 : decode cX7_undo 47 = .ok (.aload_n 0, 1) := by decide +kernel
theorem dX7_undo_48 : decode cX7_undo 48 = .ok (.getfield 10, 3) := by decide +kernel
theorem dX7_undo_51 : decode cX7_undo 51 = .ok (.getfield 102, 3) := by decide +kernel
theorem dX7_undo_54 : decode cX7_undo 54 = .ok (.iload_n 2, 1) := by decide +kernel
theorem dX7_undo_55 : decode cX7_undo 55 = .ok (.aload_n 0, 1) := by decide +kernel
theorem dX7_undo_56 : decode cX7_undo 56 = .ok (.getfield 26, 3) := by decide +kernel
theorem dX7_undo_59 : decode cX7_undo 59 = .ok (.getfield 274, 3) := by decide +kernel
theorem dX7_undo_62 : decode cX7_undo 62 = .ok (.iload_n 1, 1) := by decide +kernel
theorem dX7_undo_63 : decode cX7_undo 63 = .ok (.laload, 1) := by decide +kernel
theorem dX7_undo_64 : decode cX7_undo 64 = .ok (.lastore, 1) := by decide +kernel
theorem dX7_undo_65 : decode cX7_undo 65 = .ok (.aload_n 0, 1) := by decide +kernel
theorem dX7_undo_66 : decode cX7_undo 66 = .ok (.getfield 26, 3) := by decide +kernel
theorem dX7_undo_69 : decode cX7_undo 69 = .ok (.iload_n 1, 1) := by decide +kernel
theorem dX7_undo_70 : decode cX7_undo 70 = .ok (.putfield 270, 3) := by decide +kernel
theorem dX7_undo_73 : decode cX7_undo 73 = .ok (.iload_n 2, 1) := by decide +kernel
theorem dX7_undo_74 : decode cX7_undo 74 = .ok (.ireturn, 1) := by decide +kernel
theorem dX7_undoable_0 : decode cX7_undoable 0 = .ok (.aload_n 0, 1) := by decide +kernel
theorem dX7_undoable_1 : decode cX7_undoable 1 = .ok (.getfield 26, 3) := by decide +kernel
theorem dX7_undoable_4 : decode cX7_undoable 4 = .ok (.getfield 270, 3) := by decide +kernel
theorem dX7_undoable_7 : decode cX7_undoable 7 = .ok (.ireturn, 1) := by decide +kernel
theorem dX7_save_0 : decode cX7_save 0 = .ok (.aload_n 0, 1) := by decide +kernel
theorem dX7_save_1 : decode cX7_save 1 = .ok (.getfield 16, 3) := by decide +kernel
theorem dX7_save_4 : decode cX7_save 4 = .ok (.aload_n 0, 1) := by decide +kernel
theorem dX7_save_5 : decode cX7_save 5 = .ok (.getfield 10, 3) := by decide +kernel
theorem dX7_save_8 : decode cX7_save 8 = .ok (.invokevirtual 277, 3) := by decide +kernel
theorem dX7_save_11 : decode cX7_save 11 = .ok (.aload_n 0, 1) := by decide +kernel
theorem dX7_save_12 : decode cX7_save 12 = .ok (.iconst 1, 1) := by decide +kernel
theorem dX7_save_13 : decode cX7_save 13 = .ok (.putfield 19, 3) := by decide +kernel
theorem dX7_save_16 : decode cX7_save 16 = .ok (.aload_n 0, 1) := by decide +kernel
theorem dX7_save_17 : decode cX7_save 17 = .ok (.getfield 10, 3) := by decide +kernel
theorem dX7_save_20 : decode cX7_save 20 = .ok (.invokevirtual 108, 3) := by decide +kernel
theorem dX7_save_23 : decode cX7_save 23 = .ok (.ireturn, 1) := by decide +kernel
theorem dX7_restore_0 : decode cX7_restore 0 = .ok (.aload_n 0, 1) := by decide +kernel
theorem dX7_restore_1 : decode cX7_restore 1 = .ok (.getfield 19, 3) := by decide +kernel
theorem dX7_restore_4 : decode cX7_restore 4 = .ok (.ifCond .ne 6, 3) := by decide +kernel
theorem dX7_restore_7 : decode cX7_restore 7 = .ok (.bipush (-7), 2) := by decide +kernel
theorem dX7_restore_9 : decode cX7_restore 9 = .ok (.ireturn, 1) := by decide +kernel
theorem dX7_restore_10 : decode cX7_restore 10 = .ok (.aload_n 0, 1) := by decide +kernel
theorem dX7_restore_11 : decode cX7_restore 11 = .ok (.getfield 10, 3) := by decide +kernel
theorem dX7_restore_14 : decode cX7_restore 14 = .ok (.aload_n 0, 1) := by decide +kernel
theorem dX7_restore_15 : decode cX7_restore 15 = .ok (.getfield 16, 3) := by decide +kernel
theorem dX7_restore_18 : decode cX7_restore 18 = .ok (.invokevirtual 277, 3) := by decide +kernel
theorem dX7_restore_21 : decode cX7_restore 21 = .ok (.aload_n 0, 1) := by decide +kernel
theorem dX7_restore_22 : decode cX7_restore 22 = .ok (.getfield 26, 3) := by decide +kernel
theorem dX7_restore_25 : decode cX7_restore 25 = .ok (.invokevirtual 83, 3) := by decide +kernel
theorem dX7_restore_28 : decode cX7_restore 28 = .ok (.aload_n 0, 1) := by decide +kernel
theorem dX7_restore_29 : decode cX7_restore 29 = .ok (.getfield 10, 3) := by decide +kernel
theorem dX7_restore_32 : decode cX7_restore 32 = .ok (.invokevirtual 108, 3) := by decide +kernel
theorem dX7_restore_35 : decode cX7_restore 35 = .ok (.ireturn, 1) := by decide +kernel
theorem dX7_createArray_0 : decode cX7_createArray 0 = .ok (.iload_n 1, 1) := by decide +kernel
theorem dX7_createArray_1 : decode cX7_createArray 1 = .ok (.iconst 4, 1) := by decide +kernel
theorem dX7_createArray_2 : decode cX7_createArray 2 = .ok (.invokestatic 140, 3) := by decide +kernel
theorem dX7_createArray_5 : decode cX7_createArray 5 = .ok (.ifCond .eq 9, 3) := by decide +kernel
theorem dX7_createArray_8 : decode cX7_createArray 8 = .ok (.iload_n 2, 1) := by decide +kernel
theorem dX7_createArray_9 : decode cX7_createArray 9 = .ok (.bipush 16, 2) := by decide +kernel
theorem dX7_createArray_11 : decode cX7_createArray 11 = .ok (.if_icmp .le 6, 3) := by decide +kernel
theorem dX7_createArray_14 : decode cX7_createArray 14 = .ok (.bipush (-2), 2) := by decide +kernel
theorem dX7_createArray_16 : decode cX7_createArray 16 = .ok (.ireturn, 1) := by decide +kernel
theorem dX7_createArray_17 : decode cX7_createArray 17 = .ok (.iload_n 2, 1) := by decide +kernel
theorem dX7_createArray_18 : decode cX7_createArray 18 = .ok (.ifCond .ge 6, 3) := by decide +kernel
theorem dX7_createArray_21 : decode cX7_createArray 21 = .ok (.bipush (-14), 2) := by decide +kernel
theorem dX7_createArray_23 : decode cX7_createArray 23 = .ok (.ireturn, 1) := by decide +kernel
theorem dX7_createArray_24 : decode cX7_createArray 24 = .ok (.aload_n 0, 1) := by decide +kernel
theorem dX7_createArray_25 : decode cX7_createArray 25 = .ok (.getfield 62, 3) := by decide +kernel
theorem dX7_createArray_28 : decode cX7_createArray 28 = .ok (.iload_n 1, 1) := by decide +kernel
theorem dX7_createArray_29 : decode cX7_createArray 29 = .ok (.iload_n 2, 1) := by decide +kernel
theorem dX7_createArray_30 : decode cX7_createArray 30 = .ok (.iastore, 1) := by decide +kernel
theorem dX7_createArray_31 : decode cX7_createArray 31 = .ok (.iconst 0, 1) := by decide +kernel
theorem dX7_createArray_32 : decode cX7_createArray 32 = .ok (.istore_n 3, 1) := by decide +kernel
theorem dX7_createArray_33 : decode cX7_createArray 33 = .ok (.iload_n 3, 1) := by decide +kernel
theorem dX7_createArray_34 : decode cX7_createArray 34 = .ok (.bipush 16, 2) := by decide +kernel
theorem dX7_createArray_36 : decode cX7_createArray 36 = .ok (.if_icmp .ge 21, 3) := by decide +kernel
theorem dX7_createArray_39 : decode cX7_createArray 39 = .ok (.aload_n 0, 1) := by decide +kernel
theorem dX7_createArray_40 : decode cX7_createArray 40 = .ok (.getfield 58, 3) := by decide +kernel
theorem dX7_createArray_43 : decode cX7_createArray 43 = .ok (.iload_n 1, 1) := by decide +kernel
theorem dX7_createArray_44 : decode cX7_createArray 44 = .ok (.bipush 16, 2) := by decide +kernel
theorem dX7_createArray_46 : decode cX7_createArray 46 = .ok (.imul, 1) := by decide +kernel
theorem dX7_createArray_47 : decode cX7_createArray 47 = .ok (.iload_n 3, 1) := by decide +kernel
theorem dX7_createArray_48 : decode cX7_createArray 48 = .ok (.iadd, 1) := by decide +kernel
theorem dX7_createArray_49 : decode cX7_createArray 49 = .ok (.iconst 0, 1) := by decide +kernel
theorem dX7_createArray_50 : decode cX7_createArray 50 = .ok (.iastore, 1) := by decide +kernel
theorem dX7_createArray_51 : decode cX7_createArray 51 = .ok (.iinc 3 1, 3) := by decide +kernel
theorem dX7_createArray_54 : decode cX7_createArray 54 = .ok (.goto (-21), 3) := by decide +kernel
theorem dX7_createArray_57 : decode cX7_createArray 57 = .ok (.iconst 1, 1) := by decide +kernel
theorem dX7_createArray_58 : decode cX7_createArray 58 = .ok (.ireturn, 1) := by decide +kernel
theorem dX7_setElement_0 : decode cX7_setElement 0 = .ok (.iload_n 1, 1) := by decide +kernel
theorem dX7_setElement_1 : decode cX7_setElement 1 = .ok (.iconst 4, 1) := by decide +kernel
theorem dX7_setElement_2 : decode cX7_setElement 2 = .ok (.invokestatic 140, 3) := by decide +kernel
theorem dX7_setElement_5 : decode cX7_setElement 5 = .ok (.ifCond .ne 6, 3) := by decide +kernel
theorem dX7_setElement_8 : decode cX7_setElement 8 = .ok (.bipush (-2), 2) := by decide +kernel
theorem dX7_setElement_10 : decode cX7_setElement 10 = .ok (.ireturn, 1) := by decide +kernel
theorem dX7_setElement_11 : decode cX7_setElement 11 = .ok (.aload_n 0, 1) := by decide +kernel
theorem dX7_setElement_12 : decode cX7_setElement 12 = .ok (.getfield 62, 3) := by decide +kernel
theorem dX7_setElement_15 : decode cX7_setElement 15 = .ok (.iload_n 1, 1) := by decide +kernel
theorem dX7_setElement_16 : decode cX7_setElement 16 = .ok (.iaload, 1) := by decide +kernel
theorem dX7_setElement_17 : decode cX7_setElement 17 = .ok (.iconst (-1), 1) := by decide +kernel
theorem dX7_setElement_18 : decode cX7_setElement 18 = .ok (.if_icmp .ne 6, 3) := by decide +kernel
theorem dX7_setElement_21 : decode cX7_setElement 21 = .ok (.bipush (-11), 2) := by decide +kernel
theorem dX7_setElement_23 : decode cX7_setElement 23 = .ok (.ireturn, 1) := by decide +kernel
theorem dX7_setElement_24 : decode cX7_setElement 24 = .ok (.iload_n 2, 1) := by decide +kernel
theorem dX7_setElement_25 : decode cX7_setElement 25 = .ok (.aload_n 0, 1) := by decide +kernel
theorem dX7_setElement_26 : decode cX7_setElement 26 = .ok (.getfield 62, 3) := by decide +kernel
theorem dX7_setElement_29 : decode cX7_setElement 29 = .ok (.iload_n 1, 1) := by decide +kernel
theorem dX7_setElement_30 : decode cX7_setElement 30 = .ok (.iaload, 1) := by decide +kernel
theorem dX7_setElement_31 : decode cX7_setElement 31 = .ok (.invokestatic 140, 3) := by decide +kernel
theorem dX7_setElement_34 : decode cX7_setElement 34 = .ok (.ifCond .ne 6, 3) := by decide +kernel
theorem dX7_setElement_37 : decode cX7_setElement 37 = .ok (.bipush (-13), 2) := by decide +kernel
theorem dX7_setElement_39 : decode cX7_setElement 39 = .ok (.ireturn, 1) := by decide +kernel
theorem dX7_setElement_40 : decode cX7_setElement 40 = .ok (.aload_n 0, 1) := by decide +kernel
theorem dX7_setElement_41 : decode cX7_setElement 41 = .ok (.getfield 58, 3) := by decide +kernel
theorem dX7_setElement_44 : decode cX7_setElement 44 = .ok (.iload_n 1, 1) := by decide +kernel
theorem dX7_setElement_45 : decode cX7_setElement 45 = .ok (.bipush 16, 2) := by decide +kernel
theorem dX7_setElement_47 : decode cX7_setElement 47 = .ok (.imul, 1) := by decide +kernel
theorem dX7_setElement_48 : decode cX7_setElement 48 = .ok (.iload_n 2, 1) := by decide +kernel
theorem dX7_setElement_49 : decode cX7_setElement 49 = .ok (.iadd, 1) := by decide +kernel
theorem dX7_setElement_50 : decode cX7_setElement 50 = .ok (.iload_n 3, 1) := by decide +kernel
theorem dX7_setElement_51 : decode cX7_setElement 51 = .ok (.iastore, 1) := by decide +kernel
theorem dX7_setElement_52 : decode cX7_setElement 52 = .ok (.iconst 1, 1) := by decide +kernel
theorem dX7_setElement_53 : decode cX7_setElement 53 = .ok (.ireturn, 1) := by decide +kernel
theorem dX7_element_0 : decode cX7_element 0 = .ok (.iload_n 1, 1) := by decide +kernel
theorem dX7_element_1 : decode cX7_element 1 = .ok (.iconst 4, 1) := by decide +kernel
theorem dX7_element_2 : decode cX7_element 2 = .ok (.invokestatic 140, 3) := by decide +kernel
theorem dX7_element_5 : decode cX7_element 5 = .ok (.ifCond .eq 16, 3) := by decide +kernel
theorem dX7_element_8 : decode cX7_element 8 = .ok (.iload_n 2, 1) := by decide +kernel
theorem dX7_element_9 : decode cX7_element 9 = .ok (.aload_n 0, 1) := by decide +kernel
theorem dX7_element_10 : decode cX7_element 10 = .ok (.getfield 62, 3) := by decide +kernel
theorem dX7_element_13 : decode cX7_element 13 = .ok (.iload_n 1, 1) := by decide +kernel
theorem dX7_element_14 : decode cX7_element 14 = .ok (.iaload, 1) := by decide +kernel
theorem dX7_element_15 : decode cX7_element 15 = .ok (.invokestatic 140, 3) := by decide +kernel
theorem dX7_element_18 : decode cX7_element 18 = .ok (.ifCond .ne 7, 3) := by decide +kernel
theorem dX7_element_21 : decode cX7_element 21 = .ok (.ldc2_w 281, 3) := by decide +kernel
theorem dX7_element_24 : decode cX7_element 24 = .ok (.lreturn, 1) := by decide +kernel
theorem dX7_element_25 : decode cX7_element 25 = .ok (.aload_n 0, 1) := by decide +kernel
theorem dX7_element_26 : decode cX7_element 26 = .ok (.getfield 58, 3) := by decide +kernel
theorem dX7_element_29 : decode cX7_element 29 = .ok (.iload_n 1, 1) := by decide +kernel
theorem dX7_element_30 : decode cX7_element 30 = .ok (.bipush 16, 2) := by decide +kernel
theorem dX7_element_32 : decode cX7_element 32 = .ok (.imul, 1) := by decide +kernel
theorem dX7_element_33 : decode cX7_element 33 = .ok (.iload_n 2, 1) := by decide +kernel
theorem dX7_element_34 : decode cX7_element 34 = .ok (.iadd, 1) := by decide +kernel
theorem dX7_element_35 : decode cX7_element 35 = .ok (.iaload, 1) := by decide +kernel
theorem dX7_element_36 : decode cX7_element 36 = .ok (.i2l, 1) := by decide +kernel
theorem dX7_element_37 : decode cX7_element 37 = .ok (.lreturn, 1) := by decide +kernel
theorem dX7_compare_0 : decode cX7_compare 0 = .ok (.iload_n 1, 1) := by decide +kernel
theorem dX7_compare_1 : decode cX7_compare 1 = .ok (.iconst 4, 1) := by decide +kernel
theorem dX7_compare_2 : decode cX7_compare 2 = .ok (.invokestatic 140, 3) := by decide +kernel
theorem dX7_compare_5 : decode cX7_compare 5 = .ok (.ifCond .ne 6, 3) := by decide +kernel
theorem dX7_compare_8 : decode cX7_compare 8 = .ok (.bipush (-2), 2) := by decide +kernel
theorem dX7_compare_10 : decode cX7_compare 10 = .ok (.ireturn, 1) := by decide +kernel
theorem dX7_compare_11 : decode cX7_compare 11 = .ok (.aload_n 0, 1) := by decide +kernel
theorem dX7_compare_12 : decode cX7_compare 12 = .ok (.iload_n 2, 1) := by decide +kernel
theorem dX7_compare_13 : decode cX7_compare 13 = .ok (.invokevirtual 125, 3) := by decide +kernel
theorem dX7_compare_16 : decode cX7_compare 16 = .ok (.istore_n 3, 1) := by decide +kernel
theorem dX7_compare_17 : decode cX7_compare 17 = .ok (.iload_n 3, 1) := by decide +kernel
theorem dX7_compare_18 : decode cX7_compare 18 = .ok (.ifCond .eq 5, 3) := by decide +kernel
theorem dX7_compare_21 : decode cX7_compare 21 = .ok (.iload_n 3, 1) := by decide +kernel
theorem dX7_compare_22 : decode cX7_compare 22 = .ok (.ireturn, 1) := by decide +kernel
theorem dX7_compare_23 : decode cX7_compare 23 = .ok (.aload_n 0, 1) := by decide +kernel
theorem dX7_compare_24 : decode cX7_compare 24 = .ok (.getfield 62, 3) := by decide +kernel
theorem dX7_compare_27 : decode cX7_compare 27 = .ok (.iload_n 1, 1) := by decide +kernel
theorem dX7_compare_28 : decode cX7_compare 28 = .ok (.iaload, 1) := by decide +kernel
theorem dX7_compare_29 : decode cX7_compare 29 = .ok (.iconst (-1), 1) := by decide +kernel
theorem dX7_compare_30 : decode cX7_compare 30 = .ok (.if_icmp .ne 6, 3) := by decide +kernel
theorem dX7_compare_33 : decode cX7_compare 33 = .ok (.bipush (-11), 2) := by decide +kernel
theorem dX7_compare_35 : decode cX7_compare 35 = .ok (.ireturn, 1) := by decide +kernel
theorem dX7_compare_36 : decode cX7_compare 36 = .ok (.iconst 0, 1) := by decide +kernel
theorem dX7_compare_37 : decode cX7_compare 37 = .ok (.istore 4, 2) := by decide +kernel
theorem dX7_compare_39 : decode cX7_compare 39 = .ok (.iload 4, 2) := by decide +kernel
theorem dX7_compare_41 : decode cX7_compare 41 = .ok (.aload_n 0, 1) := by decide +kernel
theorem dX7_compare_42 : decode cX7_compare 42 = .ok (.getfield 62, 3) := by decide +kernel
theorem dX7_compare_45 : decode cX7_compare 45 = .ok (.iload_n 1, 1) := by decide +kernel
theorem dX7_compare_46 : decode cX7_compare 46 = .ok (.iaload, 1) := by decide +kernel
theorem dX7_compare_47 : decode cX7_compare 47 = .ok (.if_icmp .ge 36, 3) := by decide +kernel
theorem dX7_compare_50 : decode cX7_compare 50 = .ok (.aload_n 0, 1) := by decide +kernel
theorem dX7_compare_51 : decode cX7_compare 51 = .ok (.getfield 58, 3) := by decide +kernel
theorem dX7_compare_54 : decode cX7_compare 54 = .ok (.iload_n 1, 1) := by decide +kernel
theorem dX7_compare_55 : decode cX7_compare 55 = .ok (.bipush 16, 2) := by decide +kernel
theorem dX7_compare_57 : decode cX7_compare 57 = .ok (.imul, 1) := by decide +kernel
theorem dX7_compare_58 : decode cX7_compare 58 = .ok (.iload 4, 2) := by decide +kernel
theorem dX7_compare_60 : decode cX7_compare 60 = .ok (.iadd, 1) := by decide +kernel
theorem dX7_compare_61 : decode cX7_compare 61 = .ok (.iaload, 1) := by decide +kernel
theorem dX7_compare_62 : decode cX7_compare 62 = .ok (.aload_n 0, 1) := by decide +kernel
theorem dX7_compare_63 : decode cX7_compare 63 = .ok (.getfield 33, 3) := by decide +kernel
theorem dX7_compare_66 : decode cX7_compare 66 = .ok (.iload 4, 2) := by decide +kernel
theorem dX7_compare_68 : decode cX7_compare 68 = .ok (.invokevirtual 131, 3) := by decide +kernel
theorem dX7_compare_71 : decode cX7_compare 71 = .ok (.if_icmp .eq 6, 3) := by decide +kernel
theorem dX7_compare_74 : decode cX7_compare 74 = .ok (.iload 4, 2) := by decide +kernel
theorem dX7_compare_76 : decode cX7_compare 76 = .ok (.ireturn, 1) := by decide +kernel
theorem dX7_compare_77 : decode cX7_compare 77 = .ok (.iinc 4 1, 3) := by decide +kernel
theorem dX7_compare_80 : decode cX7_compare 80 = .ok (.goto (-41), 3) := by decide +kernel
theorem dX7_compare_83 : decode cX7_compare 83 = .ok (.iconst (-1), 1) := by decide +kernel
theorem dX7_compare_84 : decode cX7_compare 84 = .ok (.ireturn, 1) := by decide +kernel
theorem dX7_isIndex_0 : decode cX7_isIndex 0 = .ok (.iload_n 0, 1) := by decide +kernel
theorem dX7_isIndex_1 : decode cX7_isIndex 1 = .ok (.ifCond .lt 12, 3) := by decide +kernel
theorem dX7_isIndex_4 : decode cX7_isIndex 4 = .ok (.iload_n 0, 1) := by decide +kernel
theorem dX7_isIndex_5 : decode cX7_isIndex 5 = .ok (.iload_n 1, 1) := by decide +kernel
theorem dX7_isIndex_6 : decode cX7_isIndex 6 = .ok (.if_icmp .ge 7, 3) := by decide +kernel
theorem dX7_isIndex_9 : decode cX7_isIndex 9 = .ok (.iconst 1, 1) := by decide +kernel
theorem dX7_isIndex_10 : decode cX7_isIndex 10 = .ok (.goto 4, 3) := by decide +kernel
theorem dX7_isIndex_13 : decode cX7_isIndex 13 = .ok (.iconst 0, 1) := by decide +kernel
theorem dX7_isIndex_14 : decode cX7_isIndex 14 = .ok (.ireturn, 1) := by decide +kernel
theorem dX7_isSlot_0 : decode cX7_isSlot 0 = .ok (.iload_n 0, 1) := by decide +kernel
theorem dX7_isSlot_1 : decode cX7_isSlot 1 = .ok (.bipush 8, 2) := by decide +kernel
theorem dX7_isSlot_3 : decode cX7_isSlot 3 = .ok (.invokestatic 140, 3) := by decide +kernel
theorem dX7_isSlot_6 : decode cX7_isSlot 6 = .ok (.ireturn, 1) := by decide +kernel
theorem dX7_isBit_0 : decode cX7_isBit 0 = .ok (.iload_n 0, 1) := by decide +kernel
theorem dX7_isBit_1 : decode cX7_isBit 1 = .ok (.ifCond .eq 8, 3) := by decide +kernel
theorem dX7_isBit_4 : decode cX7_isBit 4 = .ok (.iload_n 0, 1) := by decide +kernel
theorem dX7_isBit_5 : decode cX7_isBit 5 = .ok (.iconst 1, 1) := by decide +kernel
theorem dX7_isBit_6 : decode cX7_isBit 6 = .ok (.if_icmp .ne 7, 3) := by decide +kernel
theorem dX7_isBit_9 : decode cX7_isBit 9 = .ok (.iconst 1, 1) := by decide +kernel
theorem dX7_isBit_10 : decode cX7_isBit 10 = .ok (.goto 4, 3) := by decide +kernel
theorem dX7_isBit_13 : decode cX7_isBit 13 = .ok (.iconst 0, 1) := by decide +kernel
theorem dX7_isBit_14 : decode cX7_isBit 14 = .ok (.ireturn, 1) := by decide +kernel
theorem dX7_isPoint_0 : decode cX7_isPoint 0 = .ok (.iload_n 1, 1) := by decide +kernel
theorem dX7_isPoint_1 : decode cX7_isPoint 1 = .ok (.aload_n 0, 1) := by decide +kernel
theorem dX7_isPoint_2 : decode cX7_isPoint 2 = .ok (.getfield 10, 3) := by decide +kernel
theorem dX7_isPoint_5 : decode cX7_isPoint 5 = .ok (.getfield 75, 3) := by decide +kernel
theorem dX7_isPoint_8 : decode cX7_isPoint 8 = .ok (.invokestatic 209, 3) := by decide +kernel
theorem dX7_isPoint_11 : decode cX7_isPoint 11 = .ok (.invokestatic 140, 3) := by decide +kernel
theorem dX7_isPoint_14 : decode cX7_isPoint 14 = .ok (.ireturn, 1) := by decide +kernel
theorem dX7_isVariable_0 : decode cX7_isVariable 0 = .ok (.iload_n 1, 1) := by decide +kernel
theorem dX7_isVariable_1 : decode cX7_isVariable 1 = .ok (.aload_n 0, 1) := by decide +kernel
theorem dX7_isVariable_2 : decode cX7_isVariable 2 = .ok (.getfield 10, 3) := by decide +kernel
theorem dX7_isVariable_5 : decode cX7_isVariable 5 = .ok (.getfield 75, 3) := by decide +kernel
theorem dX7_isVariable_8 : decode cX7_isVariable 8 = .ok (.invokestatic 140, 3) := by decide +kernel
theorem dX7_isVariable_11 : decode cX7_isVariable 11 = .ok (.ireturn, 1) := by decide +kernel
theorem dX7_slotError_0 : decode cX7_slotError 0 = .ok (.iload_n 1, 1) := by decide +kernel
theorem dX7_slotError_1 : decode cX7_slotError 1 = .ok (.invokestatic 86, 3) := by decide +kernel
theorem dX7_slotError_4 : decode cX7_slotError 4 = .ok (.ifCond .ne 6, 3) := by decide +kernel
theorem dX7_slotError_7 : decode cX7_slotError 7 = .ok (.bipush (-2), 2) := by decide +kernel
theorem dX7_slotError_9 : decode cX7_slotError 9 = .ok (.ireturn, 1) := by decide +kernel
theorem dX7_slotError_10 : decode cX7_slotError 10 = .ok (.aload_n 0, 1) := by decide +kernel
theorem dX7_slotError_11 : decode cX7_slotError 11 = .ok (.getfield 10, 3) := by decide +kernel
theorem dX7_slotError_14 : decode cX7_slotError 14 = .ok (.iload_n 1, 1) := by decide +kernel
theorem dX7_slotError_15 : decode cX7_slotError 15 = .ok (.invokevirtual 202, 3) := by decide +kernel
theorem dX7_slotError_18 : decode cX7_slotError 18 = .ok (.ifCond .eq 7, 3) := by decide +kernel
theorem dX7_slotError_21 : decode cX7_slotError 21 = .ok (.iconst 0, 1) := by decide +kernel
theorem dX7_slotError_22 : decode cX7_slotError 22 = .ok (.goto 5, 3) := by decide +kernel
theorem dX7_slotError_25 : decode cX7_slotError 25 = .ok (.bipush (-3), 2) := by decide +kernel
theorem dX7_slotError_27 : decode cX7_slotError 27 = .ok (.ireturn, 1) := by decide +kernel
theorem dX7_store_0 : decode cX7_store 0 = .ok (.aload_n 0, 1) := by decide +kernel
theorem dX7_store_1 : decode cX7_store 1 = .ok (.getfield 26, 3) := by decide +kernel
theorem dX7_store_4 : decode cX7_store 4 = .ok (.iload_n 1, 1) := by decide +kernel
theorem dX7_store_5 : decode cX7_store 5 = .ok (.aload_n 0, 1) := by decide +kernel
theorem dX7_store_6 : decode cX7_store 6 = .ok (.getfield 10, 3) := by decide +kernel
theorem dX7_store_9 : decode cX7_store 9 = .ok (.getfield 102, 3) := by decide +kernel
theorem dX7_store_12 : decode cX7_store 12 = .ok (.iload_n 1, 1) := by decide +kernel
theorem dX7_store_13 : decode cX7_store 13 = .ok (.laload, 1) := by decide +kernel
theorem dX7_store_14 : decode cX7_store 14 = .ok (.invokevirtual 283, 3) := by decide +kernel
theorem dX7_store_17 : decode cX7_store 17 = .ok (.aload_n 0, 1) := by decide +kernel
theorem dX7_store_18 : decode cX7_store 18 = .ok (.getfield 10, 3) := by decide +kernel
theorem dX7_store_21 : decode cX7_store 21 = .ok (.getfield 102, 3) := by decide +kernel
theorem dX7_store_24 : decode cX7_store 24 = .ok (.iload_n 1, 1) := by decide +kernel
theorem dX7_store_25 : decode cX7_store 25 = .ok (.lload_n 2, 1) := by decide +kernel
theorem dX7_store_26 : decode cX7_store 26 = .ok (.lastore, 1) := by decide +kernel
theorem dX7_store_27 : decode cX7_store 27 = .ok (.lload_n 2, 1) := by decide +kernel
theorem dX7_store_28 : decode cX7_store 28 = .ok (.invokestatic 234, 3) := by decide +kernel
theorem dX7_store_31 : decode cX7_store 31 = .ok (.ireturn, 1) := by decide +kernel
theorem dX7_drawGraph_0 : decode cX7_drawGraph 0 = .ok (.aload_n 0, 1) := by decide +kernel
theorem dX7_drawGraph_1 : decode cX7_drawGraph 1 = .ok (.iload_n 1, 1) := by decide +kernel
theorem dX7_drawGraph_2 : decode cX7_drawGraph 2 = .ok (.invokevirtual 98, 3) := by decide +kernel
theorem dX7_drawGraph_5 : decode cX7_drawGraph 5 = .ok (.istore_n 2, 1) := by decide +kernel
theorem dX7_drawGraph_6 : decode cX7_drawGraph 6 = .ok (.iload_n 2, 1) := by decide +kernel
theorem dX7_drawGraph_7 : decode cX7_drawGraph 7 = .ok (.ifCond .eq 5, 3) := by decide +kernel
theorem dX7_drawGraph_10 : decode cX7_drawGraph 10 = .ok (.iload_n 2, 1) := by decide +kernel
theorem dX7_drawGraph_11 : decode cX7_drawGraph 11 = .ok (.ireturn, 1) := by decide +kernel
theorem dX7_drawGraph_12 : decode cX7_drawGraph 12 = .ok (.aload_n 0, 1) := by decide +kernel
theorem dX7_drawGraph_13 : decode cX7_drawGraph 13 = .ok (.getfield 10, 3) := by decide +kernel
theorem dX7_drawGraph_16 : decode cX7_drawGraph 16 = .ok (.getfield 75, 3) := by decide +kernel
theorem dX7_drawGraph_19 : decode cX7_drawGraph 19 = .ok (.aload_n 0, 1) := by decide +kernel
theorem dX7_drawGraph_20 : decode cX7_drawGraph 20 = .ok (.getfield 10, 3) := by decide +kernel
theorem dX7_drawGraph_23 : decode cX7_drawGraph 23 = .ok (.getfield 102, 3) := by decide +kernel
theorem dX7_drawGraph_26 : decode cX7_drawGraph 26 = .ok (.iload_n 1, 1) := by decide +kernel
theorem dX7_drawGraph_27 : decode cX7_drawGraph 27 = .ok (.laload, 1) := by decide +kernel
theorem dX7_drawGraph_28 : decode cX7_drawGraph 28 = .ok (.invokestatic 122, 3) := by decide +kernel
theorem dX7_drawGraph_31 : decode cX7_drawGraph 31 = .ok (.iconst (-1), 1) := by decide +kernel
theorem dX7_drawGraph_32 : decode cX7_drawGraph 32 = .ok (.if_icmp .eq 6, 3) := by decide +kernel
theorem dX7_drawGraph_35 : decode cX7_drawGraph 35 = .ok (.bipush (-4), 2) := by decide +kernel
theorem dX7_drawGraph_37 : decode cX7_drawGraph 37 = .ok (.ireturn, 1) := by decide +kernel
theorem dX7_drawGraph_38 : decode cX7_drawGraph 38 = .ok (.aload_n 0, 1) := by decide +kernel
theorem dX7_drawGraph_39 : decode cX7_drawGraph 39 = .ok (.getfield 33, 3) := by decide +kernel
theorem dX7_drawGraph_42 : decode cX7_drawGraph 42 = .ok (.aload_n 0, 1) := by decide +kernel
theorem dX7_drawGraph_43 : decode cX7_drawGraph 43 = .ok (.getfield 10, 3) := by decide +kernel
theorem dX7_drawGraph_46 : decode cX7_drawGraph 46 = .ok (.getfield 75, 3) := by decide +kernel
theorem dX7_drawGraph_49 : decode cX7_drawGraph 49 = .ok (.aload_n 0, 1) := by decide +kernel
theorem dX7_drawGraph_50 : decode cX7_drawGraph 50 = .ok (.getfield 10, 3) := by decide +kernel
theorem dX7_drawGraph_53 : decode cX7_drawGraph 53 = .ok (.getfield 102, 3) := by decide +kernel
theorem dX7_drawGraph_56 : decode cX7_drawGraph 56 = .ok (.iload_n 1, 1) := by decide +kernel
theorem dX7_drawGraph_57 : decode cX7_drawGraph 57 = .ok (.laload, 1) := by decide +kernel
theorem dX7_drawGraph_58 : decode cX7_drawGraph 58 = .ok (.invokevirtual 287, 3) := by decide +kernel
theorem dX7_drawGraph_61 : decode cX7_drawGraph 61 = .ok (.iconst 0, 1) := by decide +kernel
theorem dX7_drawGraph_62 : decode cX7_drawGraph 62 = .ok (.ireturn, 1) := by decide +kernel
theorem dX7_growCotree_0 : decode cX7_growCotree 0 = .ok (.aload_n 0, 1) := by decide +kernel
theorem dX7_growCotree_1 : decode cX7_growCotree 1 = .ok (.iload_n 1, 1) := by decide +kernel
theorem dX7_growCotree_2 : decode cX7_growCotree 2 = .ok (.invokevirtual 98, 3) := by decide +kernel
theorem dX7_growCotree_5 : decode cX7_growCotree 5 = .ok (.istore_n 2, 1) := by decide +kernel
theorem dX7_growCotree_6 : decode cX7_growCotree 6 = .ok (.iload_n 2, 1) := by decide +kernel
theorem dX7_growCotree_7 : decode cX7_growCotree 7 = .ok (.ifCond .eq 5, 3) := by decide +kernel
theorem dX7_growCotree_10 : decode cX7_growCotree 10 = .ok (.iload_n 2, 1) := by decide +kernel
theorem dX7_growCotree_11 : decode cX7_growCotree 11 = .ok (.ireturn, 1) := by decide +kernel
theorem dX7_growCotree_12 : decode cX7_growCotree 12 = .ok (.aload_n 0, 1) := by decide +kernel
theorem dX7_growCotree_13 : decode cX7_growCotree 13 = .ok (.aload_n 0, 1) := by decide +kernel
theorem dX7_growCotree_14 : decode cX7_growCotree 14 = .ok (.getfield 10, 3) := by decide +kernel
theorem dX7_growCotree_17 : decode cX7_growCotree 17 = .ok (.getfield 102, 3) := by decide +kernel
theorem dX7_growCotree_20 : decode cX7_growCotree 20 = .ok (.iload_n 1, 1) := by decide +kernel
theorem dX7_growCotree_21 : decode cX7_growCotree 21 = .ok (.laload, 1) := by decide +kernel
theorem dX7_growCotree_22 : decode cX7_growCotree 22 = .ok (.invokevirtual 154, 3) := by decide +kernel
theorem dX7_growCotree_25 : decode cX7_growCotree 25 = .ok (.ifCond .eq 6, 3) := by decide +kernel
theorem dX7_growCotree_28 : decode cX7_growCotree 28 = .ok (.bipush (-5), 2) := by decide +kernel
theorem dX7_growCotree_30 : decode cX7_growCotree 30 = .ok (.ireturn, 1) := by decide +kernel
theorem dX7_growCotree_31 : decode cX7_growCotree 31 = .ok (.aload_n 0, 1) := by decide +kernel
theorem dX7_growCotree_32 : decode cX7_growCotree 32 = .ok (.getfield 40, 3) := by decide +kernel
theorem dX7_growCotree_35 : decode cX7_growCotree 35 = .ok (.aload_n 0, 1) := by decide +kernel
theorem dX7_growCotree_36 : decode cX7_growCotree 36 = .ok (.getfield 33, 3) := by decide +kernel
theorem dX7_growCotree_39 : decode cX7_growCotree 39 = .ok (.invokevirtual 289, 3) := by decide +kernel
theorem dX7_growCotree_42 : decode cX7_growCotree 42 = .ok (.iconst 0, 1) := by decide +kernel
theorem dX7_growCotree_43 : decode cX7_growCotree 43 = .ok (.ireturn, 1) := by decide +kernel
theorem dX7_whyNotReadOnce_0 : decode cX7_whyNotReadOnce 0 = .ok (.aload_n 0, 1) := by decide +kernel
theorem dX7_whyNotReadOnce_1 : decode cX7_whyNotReadOnce 1 = .ok (.getfield 10, 3) := by decide +kernel
theorem dX7_whyNotReadOnce_4 : decode cX7_whyNotReadOnce 4 = .ok (.getfield 75, 3) := by decide +kernel
theorem dX7_whyNotReadOnce_7 : decode cX7_whyNotReadOnce 7 = .ok (.lload_n 1, 1) := by decide +kernel
theorem dX7_whyNotReadOnce_8 : decode cX7_whyNotReadOnce 8 = .ok (.invokestatic 122, 3) := by decide +kernel
theorem dX7_whyNotReadOnce_11 : decode cX7_whyNotReadOnce 11 = .ok (.iconst (-1), 1) := by decide +kernel
theorem dX7_whyNotReadOnce_12 : decode cX7_whyNotReadOnce 12 = .ok (.if_icmp .eq 5, 3) := by decide +kernel
theorem dX7_whyNotReadOnce_15 : decode cX7_whyNotReadOnce 15 = .ok (.iconst 1, 1) := by decide +kernel
theorem dX7_whyNotReadOnce_16 : decode cX7_whyNotReadOnce 16 = .ok (.ireturn, 1) := by decide +kernel
theorem dX7_whyNotReadOnce_17 : decode cX7_whyNotReadOnce 17 = .ok (.aload_n 0, 1) := by decide +kernel
theorem dX7_whyNotReadOnce_18 : decode cX7_whyNotReadOnce 18 = .ok (.getfield 33, 3) := by decide +kernel
theorem dX7_whyNotReadOnce_21 : decode cX7_whyNotReadOnce 21 = .ok (.aload_n 0, 1) := by decide +kernel
theorem dX7_whyNotReadOnce_22 : decode cX7_whyNotReadOnce 22 = .ok (.getfield 10, 3) := by decide +kernel
theorem dX7_whyNotReadOnce_25 : decode cX7_whyNotReadOnce 25 = .ok (.getfield 75, 3) := by decide +kernel
theorem dX7_whyNotReadOnce_28 : decode cX7_whyNotReadOnce 28 = .ok (.lload_n 1, 1) := by decide +kernel
theorem dX7_whyNotReadOnce_29 : decode cX7_whyNotReadOnce 29 = .ok (.invokevirtual 287, 3) := by decide +kernel
theorem dX7_whyNotReadOnce_32 : decode cX7_whyNotReadOnce 32 = .ok (.aload_n 0, 1) := by decide +kernel
theorem dX7_whyNotReadOnce_33 : decode cX7_whyNotReadOnce 33 = .ok (.getfield 33, 3) := by decide +kernel
theorem dX7_whyNotReadOnce_36 : decode cX7_whyNotReadOnce 36 = .ok (.invokevirtual 144, 3) := by decide +kernel
theorem dX7_whyNotReadOnce_39 : decode cX7_whyNotReadOnce 39 = .ok (.ifCond .eq 5, 3) := by decide +kernel
theorem dX7_whyNotReadOnce_42 : decode cX7_whyNotReadOnce 42 = .ok (.iconst 2, 1) := by decide +kernel
theorem dX7_whyNotReadOnce_43 : decode cX7_whyNotReadOnce 43 = .ok (.ireturn, 1) := by decide +kernel
theorem dX7_whyNotReadOnce_44 : decode cX7_whyNotReadOnce 44 = .ok (.aload_n 0, 1) := by decide +kernel
theorem dX7_whyNotReadOnce_45 : decode cX7_whyNotReadOnce 45 = .ok (.getfield 33, 3) := by decide +kernel
theorem dX7_whyNotReadOnce_48 : decode cX7_whyNotReadOnce 48 = .ok (.invokevirtual 151, 3) := by decide +kernel
theorem dX7_whyNotReadOnce_51 : decode cX7_whyNotReadOnce 51 = .ok (.iconst (-1), 1) := by decide +kernel
theorem dX7_whyNotReadOnce_52 : decode cX7_whyNotReadOnce 52 = .ok (.if_icmp .ne 7, 3) := by decide +kernel
theorem dX7_whyNotReadOnce_55 : decode cX7_whyNotReadOnce 55 = .ok (.iconst 0, 1) := by decide +kernel
theorem dX7_whyNotReadOnce_56 : decode cX7_whyNotReadOnce 56 = .ok (.goto 4, 3) := by decide +kernel
theorem dX7_whyNotReadOnce_59 : decode cX7_whyNotReadOnce 59 = .ok (.iconst 3, 1) := by decide +kernel
theorem dX7_whyNotReadOnce_60 : decode cX7_whyNotReadOnce 60 = .ok (.ireturn, 1) := by decide +kernel
theorem dX7_runStep_0 : decode cX7_runStep 0 = .ok (.aload_n 0, 1) := by decide +kernel
theorem dX7_runStep_1 : decode cX7_runStep 1 = .ok (.getfield 10, 3) := by decide +kernel
theorem dX7_runStep_4 : decode cX7_runStep 4 = .ok (.getfield 292, 3) := by decide +kernel
theorem dX7_runStep_7 : decode cX7_runStep 7 = .ok (.iload_n 1, 1) := by decide +kernel
theorem dX7_runStep_8 : decode cX7_runStep 8 = .ok (.iaload, 1) := by decide +kernel
theorem dX7_runStep_9 : decode cX7_runStep 9 = .ok (.istore_n 2, 1) := by decide +kernel
theorem dX7_runStep_10 : decode cX7_runStep 10 = .ok (.aload_n 0, 1) := by decide +kernel
theorem dX7_runStep_11 : decode cX7_runStep 11 = .ok (.getfield 10, 3) := by decide +kernel
theorem dX7_runStep_14 : decode cX7_runStep 14 = .ok (.getfield 292, 3) := by decide +kernel
theorem dX7_runStep_17 : decode cX7_runStep 17 = .ok (.iload_n 1, 1) := by decide +kernel
theorem dX7_runStep_18 : decode cX7_runStep 18 = .ok (.iconst 1, 1) := by decide +kernel
theorem dX7_runStep_19 : decode cX7_runStep 19 = .ok (.iadd, 1) := by decide +kernel
theorem dX7_runStep_20 : decode cX7_runStep 20 = .ok (.iaload, 1) := by decide +kernel
theorem dX7_runStep_21 : decode cX7_runStep 21 = .ok (.istore_n 3, 1) := by decide +kernel
theorem dX7_runStep_22 : decode cX7_runStep 22 = .ok (.aload_n 0, 1) := by decide +kernel
theorem dX7_runStep_23 : decode cX7_runStep 23 = .ok (.getfield 10, 3) := by decide +kernel
theorem dX7_runStep_26 : decode cX7_runStep 26 = .ok (.getfield 292, 3) := by decide +kernel
theorem dX7_runStep_29 : decode cX7_runStep 29 = .ok (.iload_n 1, 1) := by decide +kernel
theorem dX7_runStep_30 : decode cX7_runStep 30 = .ok (.iconst 2, 1) := by decide +kernel
theorem dX7_runStep_31 : decode cX7_runStep 31 = .ok (.iadd, 1) := by decide +kernel
theorem dX7_runStep_32 : decode cX7_runStep 32 = .ok (.iaload, 1) := by decide +kernel
theorem dX7_runStep_33 : decode cX7_runStep 33 = .ok (.istore 4, 2) := by decide +kernel
theorem dX7_runStep_35 : decode cX7_runStep 35 = .ok (.aload_n 0, 1) := by decide +kernel
theorem dX7_runStep_36 : decode cX7_runStep 36 = .ok (.getfield 10, 3) := by decide +kernel
theorem dX7_runStep_39 : decode cX7_runStep 39 = .ok (.getfield 292, 3) := by decide +kernel
theorem dX7_runStep_42 : decode cX7_runStep 42 = .ok (.iload_n 1, 1) := by decide +kernel
theorem dX7_runStep_43 : decode cX7_runStep 43 = .ok (.iconst 3, 1) := by decide +kernel
theorem dX7_runStep_44 : decode cX7_runStep 44 = .ok (.iadd, 1) := by decide +kernel
theorem dX7_runStep_45 : decode cX7_runStep 45 = .ok (.iaload, 1) := by decide +kernel
theorem dX7_runStep_46 : decode cX7_runStep 46 = .ok (.istore 5, 2) := by decide +kernel
theorem dX7_runStep_48 : decode cX7_runStep 48 = .ok (.iload_n 2, 1) := by decide +kernel
theorem dX7_runStep_49 : decode cX7_runStep 49 = .ok (.iconst 3, 1) := by decide +kernel
theorem dX7_runStep_50 : decode cX7_runStep 50 = .ok (.if_icmp .ge 14, 3) := by decide +kernel
theorem dX7_runStep_53 : decode cX7_runStep 53 = .ok (.aload_n 0, 1) := by decide +kernel
theorem dX7_runStep_54 : decode cX7_runStep 54 = .ok (.iload_n 2, 1) := by decide +kernel
theorem dX7_runStep_55 : decode cX7_runStep 55 = .ok (.iload_n 3, 1) := by decide +kernel
theorem dX7_runStep_56 : decode cX7_runStep 56 = .ok (.iload 4, 2) := by decide +kernel
theorem dX7_runStep_58 : decode cX7_runStep 58 = .ok (.iload 5, 2) := by decide +kernel
theorem dX7_runStep_60 : decode cX7_runStep 60 = .ok (.invokevirtual 295, 3) := by decide +kernel
theorem dX7_runStep_63 : decode cX7_runStep 63 = .ok (.ireturn, 1) := by decide +kernel
theorem dX7_runStep_64 : decode cX7_runStep 64 = .ok (.iload_n 2, 1) := by decide +kernel
theorem dX7_runStep_65 : decode cX7_runStep 65 = .ok (.iconst 3, 1) := by decide +kernel
theorem dX7_runStep_66 : decode cX7_runStep 66 = .ok (.if_icmp .ne 11, 3) := by decide +kernel
theorem dX7_runStep_69 : decode cX7_runStep 69 = .ok (.aload_n 0, 1) := by decide +kernel
theorem dX7_runStep_70 : decode cX7_runStep 70 = .ok (.iload_n 3, 1) := by decide +kernel
theorem dX7_runStep_71 : decode cX7_runStep 71 = .ok (.iload 5, 2) := by decide +kernel
theorem dX7_runStep_73 : decode cX7_runStep 73 = .ok (.invokevirtual 299, 3) := by decide +kernel
theorem dX7_runStep_76 : decode cX7_runStep 76 = .ok (.ireturn, 1) := by decide +kernel
theorem dX7_runStep_77 : decode cX7_runStep 77 = .ok (.aload_n 0, 1) := by decide +kernel
theorem dX7_runStep_78 : decode cX7_runStep 78 = .ok (.iload_n 3, 1) := by decide +kernel
theorem dX7_runStep_79 : decode cX7_runStep 79 = .ok (.iload 4, 2) := by decide +kernel
theorem dX7_runStep_81 : decode cX7_runStep 81 = .ok (.iload_n 2, 1) := by decide +kernel
theorem dX7_runStep_82 : decode cX7_runStep 82 = .ok (.iconst 3, 1) := by decide +kernel
theorem dX7_runStep_83 : decode cX7_runStep 83 = .ok (.isub, 1) := by decide +kernel
theorem dX7_runStep_84 : decode cX7_runStep 84 = .ok (.iconst 1, 1) := by decide +kernel
theorem dX7_runStep_85 : decode cX7_runStep 85 = .ok (.isub, 1) := by decide +kernel
theorem dX7_runStep_86 : decode cX7_runStep 86 = .ok (.iload 5, 2) := by decide +kernel
theorem dX7_runStep_88 : decode cX7_runStep 88 = .ok (.invokevirtual 303, 3) := by decide +kernel
theorem dX7_runStep_91 : decode cX7_runStep 91 = .ok (.ireturn, 1) := by decide +kernel
theorem dX7_openCatalog_0 : decode cX7_openCatalog 0 = .ok (.aload_n 0, 1) := by decide +kernel
theorem dX7_openCatalog_1 : decode cX7_openCatalog 1 = .ok (.getfield 65, 3) := by decide +kernel
theorem dX7_openCatalog_4 : decode cX7_openCatalog 4 = .ok (.ifnonnull 14, 3) := by decide +kernel
theorem dX7_openCatalog_7 : decode cX7_openCatalog 7 = .ok (.aload_n 0, 1) := by decide +kernel
theorem dX7_openCatalog_8 : decode cX7_openCatalog 8 = .ok (.new 244, 3) := by decide +kernel
theorem dX7_openCatalog_11 : decode cX7_openCatalog 11 = .ok (.dup, 1) := by decide +kernel
theorem dX7_openCatalog_12 : decode cX7_openCatalog 12 = .ok (.invokespecial 306, 3) := by decide +kernel
theorem dX7_openCatalog_15 : decode cX7_openCatalog 15 = .ok (.putfield 65, 3) := by decide +kernel
theorem dX7_openCatalog_18 : decode cX7_openCatalog 18 = .ok (.aload_n 0, 1) := by decide +kernel
theorem dX7_openCatalog_19 : decode cX7_openCatalog 19 = .ok (.getfield 65, 3) := by decide +kernel
theorem dX7_openCatalog_22 : decode cX7_openCatalog 22 = .ok (.areturn, 1) := by decide +kernel
theorem dX7_isExtension_0 : decode cX7_isExtension 0 = .ok (.aload_n 1, 1) := by decide +kernel
theorem dX7_isExtension_1 : decode cX7_isExtension 1 = .ok (.iload_n 2, 1) := by decide +kernel
theorem dX7_isExtension_2 : decode cX7_isExtension 2 = .ok (.invokevirtual 250, 3) := by decide +kernel
theorem dX7_isExtension_5 : decode cX7_isExtension 5 = .ok (.aload_n 0, 1) := by decide +kernel
theorem dX7_isExtension_6 : decode cX7_isExtension 6 = .ok (.getfield 10, 3) := by decide +kernel
theorem dX7_isExtension_9 : decode cX7_isExtension 9 = .ok (.getfield 231, 3) := by decide +kernel
theorem dX7_isExtension_12 : decode cX7_isExtension 12 = .ok (.lxor, 1) := by decide +kernel
theorem dX7_isExtension_13 : decode cX7_isExtension 13 = .ok (.aload_n 0, 1) := by decide +kernel
theorem dX7_isExtension_14 : decode cX7_isExtension 14 = .ok (.getfield 10, 3) := by decide +kernel
theorem dX7_isExtension_17 : decode cX7_isExtension 17 = .ok (.getfield 227, 3) := by decide +kernel
theorem dX7_isExtension_20 : decode cX7_isExtension 20 = .ok (.land, 1) := by decide +kernel
theorem dX7_isExtension_21 : decode cX7_isExtension 21 = .ok (.lstore_n 3, 1) := by decide +kernel
theorem dX7_isExtension_22 : decode cX7_isExtension 22 = .ok (.aload_n 0, 1) := by decide +kernel
theorem dX7_isExtension_23 : decode cX7_isExtension 23 = .ok (.aload_n 1, 1) := by decide +kernel
theorem dX7_isExtension_24 : decode cX7_isExtension 24 = .ok (.iload_n 2, 1) := by decide +kernel
theorem dX7_isExtension_25 : decode cX7_isExtension 25 = .ok (.invokevirtual 253, 3) := by decide +kernel
theorem dX7_isExtension_28 : decode cX7_isExtension 28 = .ok (.invokevirtual 112, 3) := by decide +kernel
theorem dX7_isExtension_31 : decode cX7_isExtension 31 = .ok (.ifCond .eq 13, 3) := by decide +kernel
theorem dX7_isExtension_34 : decode cX7_isExtension 34 = .ok (.lload_n 3, 1) := by decide +kernel
theorem dX7_isExtension_35 : decode cX7_isExtension 35 = .ok (.lconst 0, 1) := by decide +kernel
theorem dX7_isExtension_36 : decode cX7_isExtension 36 = .ok (.lcmp, 1) := by decide +kernel
theorem dX7_isExtension_37 : decode cX7_isExtension 37 = .ok (.ifCond .ne 7, 3) := by decide +kernel
theorem dX7_isExtension_40 : decode cX7_isExtension 40 = .ok (.iconst 1, 1) := by decide +kernel
theorem dX7_isExtension_41 : decode cX7_isExtension 41 = .ok (.goto 4, 3) := by decide +kernel
theorem dX7_isExtension_44 : decode cX7_isExtension 44 = .ok (.iconst 0, 1) := by decide +kernel
theorem dX7_isExtension_45 : decode cX7_isExtension 45 = .ok (.ireturn, 1) := by decide +kernel
theorem dX7_pointCount_0 : decode cX7_pointCount 0 = .ok (.iconst 1, 1) := by decide +kernel
theorem dX7_pointCount_1 : decode cX7_pointCount 1 = .ok (.iload_n 0, 1) := by decide +kernel
theorem dX7_pointCount_2 : decode cX7_pointCount 2 = .ok (.ishl, 1) := by decide +kernel
theorem dX7_pointCount_3 : decode cX7_pointCount 3 = .ok (.ireturn, 1) := by decide +kernel
theorem dX7_fullTable_0 : decode cX7_fullTable 0 = .ok (.lconst 1, 1) := by decide +kernel
theorem dX7_fullTable_1 : decode cX7_fullTable 1 = .ok (.iload_n 0, 1) := by decide +kernel
theorem dX7_fullTable_2 : decode cX7_fullTable 2 = .ok (.invokestatic 209, 3) := by decide +kernel
theorem dX7_fullTable_5 : decode cX7_fullTable 5 = .ok (.lshl, 1) := by decide +kernel
theorem dX7_fullTable_6 : decode cX7_fullTable 6 = .ok (.lconst 1, 1) := by decide +kernel
theorem dX7_fullTable_7 : decode cX7_fullTable 7 = .ok (.lsub, 1) := by decide +kernel
theorem dX7_fullTable_8 : decode cX7_fullTable 8 = .ok (.lreturn, 1) := by decide +kernel
theorem dX7_bitAt_0 : decode cX7_bitAt 0 = .ok (.lload_n 0, 1) := by decide +kernel
theorem dX7_bitAt_1 : decode cX7_bitAt 1 = .ok (.iload_n 2, 1) := by decide +kernel
theorem dX7_bitAt_2 : decode cX7_bitAt 2 = .ok (.lushr, 1) := by decide +kernel
theorem dX7_bitAt_3 : decode cX7_bitAt 3 = .ok (.lconst 1, 1) := by decide +kernel
theorem dX7_bitAt_4 : decode cX7_bitAt 4 = .ok (.land, 1) := by decide +kernel
theorem dX7_bitAt_5 : decode cX7_bitAt 5 = .ok (.l2i, 1) := by decide +kernel
theorem dX7_bitAt_6 : decode cX7_bitAt 6 = .ok (.ireturn, 1) := by decide +kernel
theorem dX7_withBit_0 : decode cX7_withBit 0 = .ok (.iload_n 0, 1) := by decide +kernel
theorem dX7_withBit_1 : decode cX7_withBit 1 = .ok (.iconst 1, 1) := by decide +kernel
theorem dX7_withBit_2 : decode cX7_withBit 2 = .ok (.iload_n 1, 1) := by decide +kernel
theorem dX7_withBit_3 : decode cX7_withBit 3 = .ok (.ishl, 1) := by decide +kernel
theorem dX7_withBit_4 : decode cX7_withBit 4 = .ok (.iconst (-1), 1) := by decide +kernel
theorem dX7_withBit_5 : decode cX7_withBit 5 = .ok (.ixor, 1) := by decide +kernel
theorem dX7_withBit_6 : decode cX7_withBit 6 = .ok (.iand, 1) := by decide +kernel
theorem dX7_withBit_7 : decode cX7_withBit 7 = .ok (.iload_n 2, 1) := by decide +kernel
theorem dX7_withBit_8 : decode cX7_withBit 8 = .ok (.iload_n 1, 1) := by decide +kernel
theorem dX7_withBit_9 : decode cX7_withBit 9 = .ok (.ishl, 1) := by decide +kernel
theorem dX7_withBit_10 : decode cX7_withBit 10 = .ok (.ior, 1) := by decide +kernel
theorem dX7_withBit_11 : decode cX7_withBit 11 = .ok (.ireturn, 1) := by decide +kernel
theorem dX7_essentialSet_0 : decode cX7_essentialSet 0 = .ok (.iconst 0, 1) := by decide +kernel
theorem dX7_essentialSet_1 : decode cX7_essentialSet 1 = .ok (.istore_n 3, 1) := by decide +kernel
theorem dX7_essentialSet_2 : decode cX7_essentialSet 2 = .ok (.iconst 0, 1) := by decide +kernel
theorem dX7_essentialSet_3 : decode cX7_essentialSet 3 = .ok (.istore 4, 2) := by decide +kernel
theorem dX7_essentialSet_5 : decode cX7_essentialSet 5 = .ok (.iload 4, 2) := by decide +kernel
theorem dX7_essentialSet_7 : decode cX7_essentialSet 7 = .ok (.iload_n 0, 1) := by decide +kernel
theorem dX7_essentialSet_8 : decode cX7_essentialSet 8 = .ok (.if_icmp .ge 54, 3) := by decide +kernel
theorem dX7_essentialSet_11 : decode cX7_essentialSet 11 = .ok (.iconst 0, 1) := by decide +kernel
theorem dX7_essentialSet_12 : decode cX7_essentialSet 12 = .ok (.istore 5, 2) := by decide +kernel
theorem dX7_essentialSet_14 : decode cX7_essentialSet 14 = .ok (.iload 5, 2) := by decide +kernel
theorem dX7_essentialSet_16 : decode cX7_essentialSet 16 = .ok (.iload_n 0, 1) := by decide +kernel
theorem dX7_essentialSet_17 : decode cX7_essentialSet 17 = .ok (.invokestatic 209, 3) := by decide +kernel
theorem dX7_essentialSet_20 : decode cX7_essentialSet 20 = .ok (.if_icmp .ge 36, 3) := by decide +kernel
theorem dX7_essentialSet_23 : decode cX7_essentialSet 23 = .ok (.lload_n 1, 1) := by decide +kernel
theorem dX7_essentialSet_24 : decode cX7_essentialSet 24 = .ok (.iload 5, 2) := by decide +kernel
theorem dX7_essentialSet_26 : decode cX7_essentialSet 26 = .ok (.invokestatic 115, 3) := by decide +kernel
theorem dX7_essentialSet_29 : decode cX7_essentialSet 29 = .ok (.lload_n 1, 1) := by decide +kernel
theorem dX7_essentialSet_30 : decode cX7_essentialSet 30 = .ok (.iload 5, 2) := by decide +kernel
theorem dX7_essentialSet_32 : decode cX7_essentialSet 32 = .ok (.iconst 1, 1) := by decide +kernel
theorem dX7_essentialSet_33 : decode cX7_essentialSet 33 = .ok (.iload 4, 2) := by decide +kernel
theorem dX7_essentialSet_35 : decode cX7_essentialSet 35 = .ok (.ishl, 1) := by decide +kernel
theorem dX7_essentialSet_36 : decode cX7_essentialSet 36 = .ok (.ixor, 1) := by decide +kernel
theorem dX7_essentialSet_37 : decode cX7_essentialSet 37 = .ok (.invokestatic 115, 3) := by decide +kernel
theorem dX7_essentialSet_40 : decode cX7_essentialSet 40 = .ok (.if_icmp .eq 10, 3) := by decide +kernel
theorem dX7_essentialSet_43 : decode cX7_essentialSet 43 = .ok (.iload_n 3, 1) := by decide +kernel
theorem dX7_essentialSet_44 : decode cX7_essentialSet 44 = .ok (.iconst 1, 1) := by decide +kernel
theorem dX7_essentialSet_45 : decode cX7_essentialSet 45 = .ok (.iload 4, 2) := by decide +kernel
theorem dX7_essentialSet_47 : decode cX7_essentialSet 47 = .ok (.ishl, 1) := by decide +kernel
theorem dX7_essentialSet_48 : decode cX7_essentialSet 48 = .ok (.ior, 1) := by decide +kernel
theorem dX7_essentialSet_49 : decode cX7_essentialSet 49 = .ok (.istore_n 3, 1) := by decide +kernel
theorem dX7_essentialSet_50 : decode cX7_essentialSet 50 = .ok (.iinc 5 1, 3) := by decide +kernel
theorem dX7_essentialSet_53 : decode cX7_essentialSet 53 = .ok (.goto (-39), 3) := by decide +kernel
theorem dX7_essentialSet_56 : decode cX7_essentialSet 56 = .ok (.iinc 4 1, 3) := by decide +kernel
theorem dX7_essentialSet_59 : decode cX7_essentialSet 59 = .ok (.goto (-54), 3) := by decide +kernel
theorem dX7_essentialSet_62 : decode cX7_essentialSet 62 = .ok (.iload_n 3, 1) := by decide +kernel
theorem dX7_essentialSet_63 : decode cX7_essentialSet 63 = .ok (.ireturn, 1) := by decide +kernel
theorem dX7_lowestViolation_0 : decode cX7_lowestViolation 0 = .ok (.iconst 0, 1) := by decide +kernel
theorem dX7_lowestViolation_1 : decode cX7_lowestViolation 1 = .ok (.istore_n 3, 1) := by decide +kernel
theorem dX7_lowestViolation_2 : decode cX7_lowestViolation 2 = .ok (.iload_n 3, 1) := by decide +kernel
theorem dX7_lowestViolation_3 : decode cX7_lowestViolation 3 = .ok (.iload_n 0, 1) := by decide +kernel
theorem dX7_lowestViolation_4 : decode cX7_lowestViolation 4 = .ok (.invokestatic 209, 3) := by decide +kernel
theorem dX7_lowestViolation_7 : decode cX7_lowestViolation 7 = .ok (.if_icmp .ge 29, 3) := by decide +kernel
theorem dX7_lowestViolation_10 : decode cX7_lowestViolation 10 = .ok (.lload_n 1, 1) := by decide +kernel
theorem dX7_lowestViolation_11 : decode cX7_lowestViolation 11 = .ok (.iload_n 3, 1) := by decide +kernel
theorem dX7_lowestViolation_12 : decode cX7_lowestViolation 12 = .ok (.invokestatic 115, 3) := by decide +kernel
theorem dX7_lowestViolation_15 : decode cX7_lowestViolation 15 = .ok (.iconst 1, 1) := by decide +kernel
theorem dX7_lowestViolation_16 : decode cX7_lowestViolation 16 = .ok (.if_icmp .ne 14, 3) := by decide +kernel
theorem dX7_lowestViolation_19 : decode cX7_lowestViolation 19 = .ok (.iload_n 0, 1) := by decide +kernel
theorem dX7_lowestViolation_20 : decode cX7_lowestViolation 20 = .ok (.lload_n 1, 1) := by decide +kernel
theorem dX7_lowestViolation_21 : decode cX7_lowestViolation 21 = .ok (.iload_n 3, 1) := by decide +kernel
theorem dX7_lowestViolation_22 : decode cX7_lowestViolation 22 = .ok (.invokestatic 307, 3) := by decide +kernel
theorem dX7_lowestViolation_25 : decode cX7_lowestViolation 25 = .ok (.ifCond .eq 5, 3) := by decide +kernel
theorem dX7_lowestViolation_28 : decode cX7_lowestViolation 28 = .ok (.iload_n 3, 1) := by decide +kernel
theorem dX7_lowestViolation_29 : decode cX7_lowestViolation 29 = .ok (.ireturn, 1) := by decide +kernel
theorem dX7_lowestViolation_30 : decode cX7_lowestViolation 30 = .ok (.iinc 3 1, 3) := by decide +kernel
theorem dX7_lowestViolation_33 : decode cX7_lowestViolation 33 = .ok (.goto (-31), 3) := by decide +kernel
theorem dX7_lowestViolation_36 : decode cX7_lowestViolation 36 = .ok (.iconst (-1), 1) := by decide +kernel
theorem dX7_lowestViolation_37 : decode cX7_lowestViolation 37 = .ok (.ireturn, 1) := by decide +kernel
theorem dX7_fallsAbove_0 : decode cX7_fallsAbove 0 = .ok (.iconst 0, 1) := by decide +kernel
theorem dX7_fallsAbove_1 : decode cX7_fallsAbove 1 = .ok (.istore 4, 2) := by decide +kernel
theorem dX7_fallsAbove_3 : decode cX7_fallsAbove 3 = .ok (.iload 4, 2) := by decide +kernel
theorem dX7_fallsAbove_5 : decode cX7_fallsAbove 5 = .ok (.iload_n 0, 1) := by decide +kernel
theorem dX7_fallsAbove_6 : decode cX7_fallsAbove 6 = .ok (.if_icmp .ge 24, 3) := by decide +kernel
theorem dX7_fallsAbove_9 : decode cX7_fallsAbove 9 = .ok (.lload_n 1, 1) := by decide +kernel
theorem dX7_fallsAbove_10 : decode cX7_fallsAbove 10 = .ok (.iload_n 3, 1) := by decide +kernel
theorem dX7_fallsAbove_11 : decode cX7_fallsAbove 11 = .ok (.iconst 1, 1) := by decide +kernel
theorem dX7_fallsAbove_12 : decode cX7_fallsAbove 12 = .ok (.iload 4, 2) := by decide +kernel
theorem dX7_fallsAbove_14 : decode cX7_fallsAbove 14 = .ok (.ishl, 1) := by decide +kernel
theorem dX7_fallsAbove_15 : decode cX7_fallsAbove 15 = .ok (.ior, 1) := by decide +kernel
theorem dX7_fallsAbove_16 : decode cX7_fallsAbove 16 = .ok (.invokestatic 115, 3) := by decide +kernel
theorem dX7_fallsAbove_19 : decode cX7_fallsAbove 19 = .ok (.ifCond .ne 5, 3) := by decide +kernel
theorem dX7_fallsAbove_22 : decode cX7_fallsAbove 22 = .ok (.iconst 1, 1) := by decide +kernel
theorem dX7_fallsAbove_23 : decode cX7_fallsAbove 23 = .ok (.ireturn, 1) := by decide +kernel
theorem dX7_fallsAbove_24 : decode cX7_fallsAbove 24 = .ok (.iinc 4 1, 3) := by decide +kernel
theorem dX7_fallsAbove_27 : decode cX7_fallsAbove 27 = .ok (.goto (-24), 3) := by decide +kernel
theorem dX7_fallsAbove_30 : decode cX7_fallsAbove 30 = .ok (.iconst 0, 1) := by decide +kernel
theorem dX7_fallsAbove_31 : decode cX7_fallsAbove 31 = .ok (.ireturn, 1) := by decide +kernel
theorem dX7_applied_0 : decode cX7_applied 0 = .ok (.iload_n 0, 1) := by decide +kernel
theorem dX7_applied_1 : decode cX7_applied 1 = .ok (.ifCond .ne 7, 3) := by decide +kernel
theorem dX7_applied_4 : decode cX7_applied 4 = .ok (.lload_n 1, 1) := by decide +kernel
theorem dX7_applied_5 : decode cX7_applied 5 = .ok (.lload_n 3, 1) := by decide +kernel
theorem dX7_applied_6 : decode cX7_applied 6 = .ok (.land, 1) := by decide +kernel
theorem dX7_applied_7 : decode cX7_applied 7 = .ok (.lreturn, 1) := by decide +kernel
theorem dX7_applied_8 : decode cX7_applied 8 = .ok (.iload_n 0, 1) := by decide +kernel
theorem dX7_applied_9 : decode cX7_applied 9 = .ok (.iconst 1, 1) := by decide +kernel
theorem dX7_applied_10 : decode cX7_applied 10 = .ok (.if_icmp .ne 9, 3) := by decide +kernel
theorem dX7_applied_13 : decode cX7_applied 13 = .ok (.lload_n 1, 1) := by decide +kernel
theorem dX7_applied_14 : decode cX7_applied 14 = .ok (.lload_n 3, 1) := by decide +kernel
theorem dX7_applied_15 : decode cX7_applied 15 = .ok (.lor, 1) := by decide +kernel
theorem dX7_applied_16 : decode cX7_applied 16 = .ok (.goto 6, 3) := by decide +kernel
theorem dX7_applied_19 : decode cX7_applied 19 = .ok (.lload_n 1, 1) := by decide +kernel
theorem dX7_applied_20 : decode cX7_applied 20 = .ok (.lload_n 3, 1) := by decide +kernel
theorem dX7_applied_21 : decode cX7_applied 21 = .ok (.lxor, 1) := by decide +kernel
theorem dX7_applied_22 : decode cX7_applied 22 = .ok (.lreturn, 1) := by decide +kernel
theorem dX7_substituted_0 : decode cX7_substituted 0 = .ok (.lconst 0, 1) := by decide +kernel
theorem dX7_substituted_1 : decode cX7_substituted 1 = .ok (.lstore 6, 2) := by decide +kernel
theorem dX7_substituted_3 : decode cX7_substituted 3 = .ok (.iconst 0, 1) := by decide +kernel
theorem dX7_substituted_4 : decode cX7_substituted 4 = .ok (.istore 8, 2) := by decide +kernel
theorem dX7_substituted_6 : decode cX7_substituted 6 = .ok (.iload 8, 2) := by decide +kernel
theorem dX7_substituted_8 : decode cX7_substituted 8 = .ok (.aload_n 0, 1) := by decide +kernel
theorem dX7_substituted_9 : decode cX7_substituted 9 = .ok (.getfield 10, 3) := by decide +kernel
theorem dX7_substituted_12 : decode cX7_substituted 12 = .ok (.getfield 75, 3) := by decide +kernel
theorem dX7_substituted_15 : decode cX7_substituted 15 = .ok (.invokestatic 209, 3) := by decide +kernel
theorem dX7_substituted_18 : decode cX7_substituted 18 = .ok (.if_icmp .ge 39, 3) := by decide +kernel
theorem dX7_substituted_21 : decode cX7_substituted 21 = .ok (.iload 8, 2) := by decide +kernel
theorem dX7_substituted_23 : decode cX7_substituted 23 = .ok (.iload_n 3, 1) := by decide +kernel
theorem dX7_substituted_24 : decode cX7_substituted 24 = .ok (.lload 4, 2) := by decide +kernel
theorem dX7_substituted_26 : decode cX7_substituted 26 = .ok (.iload 8, 2) := by decide +kernel
theorem dX7_substituted_28 : decode cX7_substituted 28 = .ok (.invokestatic 115, 3) := by decide +kernel
theorem dX7_substituted_31 : decode cX7_substituted 31 = .ok (.invokestatic 219, 3) := by decide +kernel
theorem dX7_substituted_34 : decode cX7_substituted 34 = .ok (.istore 9, 2) := by decide +kernel
theorem dX7_substituted_36 : decode cX7_substituted 36 = .ok (.lload 6, 2) := by decide +kernel
theorem dX7_substituted_38 : decode cX7_substituted 38 = .ok (.lload_n 1, 1) := by decide +kernel
theorem dX7_substituted_39 : decode cX7_substituted 39 = .ok (.iload 9, 2) := by decide +kernel
theorem dX7_substituted_41 : decode cX7_substituted 41 = .ok (.invokestatic 115, 3) := by decide +kernel
theorem dX7_substituted_44 : decode cX7_substituted 44 = .ok (.i2l, 1) := by decide +kernel
theorem dX7_substituted_45 : decode cX7_substituted 45 = .ok (.iload 8, 2) := by decide +kernel
theorem dX7_substituted_47 : decode cX7_substituted 47 = .ok (.lshl, 1) := by decide +kernel
theorem dX7_substituted_48 : decode cX7_substituted 48 = .ok (.lor, 1) := by decide +kernel
theorem dX7_substituted_49 : decode cX7_substituted 49 = .ok (.lstore 6, 2) := by decide +kernel
theorem dX7_substituted_51 : decode cX7_substituted 51 = .ok (.iinc 8 1, 3) := by decide +kernel
theorem dX7_substituted_54 : decode cX7_substituted 54 = .ok (.goto (-48), 3) := by decide +kernel
theorem dX7_substituted_57 : decode cX7_substituted 57 = .ok (.lload 6, 2) := by decide +kernel
theorem dX7_substituted_59 : decode cX7_substituted 59 = .ok (.lreturn, 1) := by decide +kernel
theorem dX7_drawnTable_0 : decode cX7_drawnTable 0 = .ok (.aload_n 0, 1) := by decide +kernel
theorem dX7_drawnTable_1 : decode cX7_drawnTable 1 = .ok (.getfield 10, 3) := by decide +kernel
theorem dX7_drawnTable_4 : decode cX7_drawnTable 4 = .ok (.getfield 75, 3) := by decide +kernel
theorem dX7_drawnTable_7 : decode cX7_drawnTable 7 = .ok (.invokestatic 209, 3) := by decide +kernel
theorem dX7_drawnTable_10 : decode cX7_drawnTable 10 = .ok (.istore_n 3, 1) := by decide +kernel
theorem dX7_drawnTable_11 : decode cX7_drawnTable 11 = .ok (.iload_n 1, 1) := by decide +kernel
theorem dX7_drawnTable_12 : decode cX7_drawnTable 12 = .ok (.istore 4, 2) := by decide +kernel
theorem dX7_drawnTable_14 : decode cX7_drawnTable 14 = .ok (.lconst 0, 1) := by decide +kernel
theorem dX7_drawnTable_15 : decode cX7_drawnTable 15 = .ok (.lstore 5, 2) := by decide +kernel
theorem dX7_drawnTable_17 : decode cX7_drawnTable 17 = .ok (.iconst 0, 1) := by decide +kernel
theorem dX7_drawnTable_18 : decode cX7_drawnTable 18 = .ok (.istore 7, 2) := by decide +kernel
theorem dX7_drawnTable_20 : decode cX7_drawnTable 20 = .ok (.iload 7, 2) := by decide +kernel
theorem dX7_drawnTable_22 : decode cX7_drawnTable 22 = .ok (.iload_n 2, 1) := by decide +kernel
theorem dX7_drawnTable_23 : decode cX7_drawnTable 23 = .ok (.if_icmp .ge 39, 3) := by decide +kernel
theorem dX7_drawnTable_26 : decode cX7_drawnTable 26 = .ok (.iload 4, 2) := by decide +kernel
theorem dX7_drawnTable_28 : decode cX7_drawnTable 28 = .ok (.ldc_w 311, 3) := by decide +kernel
theorem dX7_drawnTable_31 : decode cX7_drawnTable 31 = .ok (.imul, 1) := by decide +kernel
theorem dX7_drawnTable_32 : decode cX7_drawnTable 32 = .ok (.sipush 12345, 3) := by decide +kernel
theorem dX7_drawnTable_35 : decode cX7_drawnTable 35 = .ok (.iadd, 1) := by decide +kernel
theorem dX7_drawnTable_36 : decode cX7_drawnTable 36 = .ok (.istore 4, 2) := by decide +kernel
theorem dX7_drawnTable_38 : decode cX7_drawnTable 38 = .ok (.lload 5, 2) := by decide +kernel
theorem dX7_drawnTable_40 : decode cX7_drawnTable 40 = .ok (.iload_n 3, 1) := by decide +kernel
theorem dX7_drawnTable_41 : decode cX7_drawnTable 41 = .ok (.iload 4, 2) := by decide +kernel
theorem dX7_drawnTable_43 : decode cX7_drawnTable 43 = .ok (.bipush 16, 2) := by decide +kernel
theorem dX7_drawnTable_45 : decode cX7_drawnTable 45 = .ok (.iushr, 1) := by decide +kernel
theorem dX7_drawnTable_46 : decode cX7_drawnTable 46 = .ok (.iload_n 3, 1) := by decide +kernel
theorem dX7_drawnTable_47 : decode cX7_drawnTable 47 = .ok (.iconst 1, 1) := by decide +kernel
theorem dX7_drawnTable_48 : decode cX7_drawnTable 48 = .ok (.isub, 1) := by decide +kernel
theorem dX7_drawnTable_49 : decode cX7_drawnTable 49 = .ok (.iand, 1) := by decide +kernel
theorem dX7_drawnTable_50 : decode cX7_drawnTable 50 = .ok (.invokestatic 312, 3) := by decide +kernel
theorem dX7_drawnTable_53 : decode cX7_drawnTable 53 = .ok (.lor, 1) := by decide +kernel
theorem dX7_drawnTable_54 : decode cX7_drawnTable 54 = .ok (.lstore 5, 2) := by decide +kernel
theorem dX7_drawnTable_56 : decode cX7_drawnTable 56 = .ok (.iinc 7 1, 3) := by decide +kernel
theorem dX7_drawnTable_59 : decode cX7_drawnTable 59 = .ok (.goto (-39), 3) := by decide +kernel
theorem dX7_drawnTable_62 : decode cX7_drawnTable 62 = .ok (.lload 5, 2) := by decide +kernel
theorem dX7_drawnTable_64 : decode cX7_drawnTable 64 = .ok (.lreturn, 1) := by decide +kernel
theorem dX7_supersets_0 : decode cX7_supersets 0 = .ok (.lconst 0, 1) := by decide +kernel
theorem dX7_supersets_1 : decode cX7_supersets 1 = .ok (.lstore_n 2, 1) := by decide +kernel
theorem dX7_supersets_2 : decode cX7_supersets 2 = .ok (.iconst 0, 1) := by decide +kernel
theorem dX7_supersets_3 : decode cX7_supersets 3 = .ok (.istore 4, 2) := by decide +kernel
theorem dX7_supersets_5 : decode cX7_supersets 5 = .ok (.iload 4, 2) := by decide +kernel
theorem dX7_supersets_7 : decode cX7_supersets 7 = .ok (.iload_n 0, 1) := by decide +kernel
theorem dX7_supersets_8 : decode cX7_supersets 8 = .ok (.if_icmp .ge 24, 3) := by decide +kernel
theorem dX7_supersets_11 : decode cX7_supersets 11 = .ok (.iload 4, 2) := by decide +kernel
theorem dX7_supersets_13 : decode cX7_supersets 13 = .ok (.iload_n 1, 1) := by decide +kernel
theorem dX7_supersets_14 : decode cX7_supersets 14 = .ok (.iand, 1) := by decide +kernel
theorem dX7_supersets_15 : decode cX7_supersets 15 = .ok (.iload_n 1, 1) := by decide +kernel
theorem dX7_supersets_16 : decode cX7_supersets 16 = .ok (.if_icmp .ne 10, 3) := by decide +kernel
theorem dX7_supersets_19 : decode cX7_supersets 19 = .ok (.lload_n 2, 1) := by decide +kernel
theorem dX7_supersets_20 : decode cX7_supersets 20 = .ok (.lconst 1, 1) := by decide +kernel
theorem dX7_supersets_21 : decode cX7_supersets 21 = .ok (.iload 4, 2) := by decide +kernel
theorem dX7_supersets_23 : decode cX7_supersets 23 = .ok (.lshl, 1) := by decide +kernel
theorem dX7_supersets_24 : decode cX7_supersets 24 = .ok (.lor, 1) := by decide +kernel
theorem dX7_supersets_25 : decode cX7_supersets 25 = .ok (.lstore_n 2, 1) := by decide +kernel
theorem dX7_supersets_26 : decode cX7_supersets 26 = .ok (.iinc 4 1, 3) := by decide +kernel
theorem dX7_supersets_29 : decode cX7_supersets 29 = .ok (.goto (-24), 3) := by decide +kernel
theorem dX7_supersets_32 : decode cX7_supersets 32 = .ok (.lload_n 2, 1) := by decide +kernel
theorem dX7_supersets_33 : decode cX7_supersets 33 = .ok (.lreturn, 1) := by decide +kernel
theorem dX7_hasVariable_0 : decode cX7_hasVariable 0 = .ok (.iload_n 0, 1) := by decide +kernel
theorem dX7_hasVariable_1 : decode cX7_hasVariable 1 = .ok (.iload_n 1, 1) := by decide +kernel
theorem dX7_hasVariable_2 : decode cX7_hasVariable 2 = .ok (.ishr, 1) := by decide +kernel
theorem dX7_hasVariable_3 : decode cX7_hasVariable 3 = .ok (.iconst 1, 1) := by decide +kernel
theorem dX7_hasVariable_4 : decode cX7_hasVariable 4 = .ok (.iand, 1) := by decide +kernel
theorem dX7_hasVariable_5 : decode cX7_hasVariable 5 = .ok (.iconst 1, 1) := by decide +kernel
theorem dX7_hasVariable_6 : decode cX7_hasVariable 6 = .ok (.if_icmp .ne 7, 3) := by decide +kernel
theorem dX7_hasVariable_9 : decode cX7_hasVariable 9 = .ok (.iconst 1, 1) := by decide +kernel
theorem dX7_hasVariable_10 : decode cX7_hasVariable 10 = .ok (.goto 4, 3) := by decide +kernel
theorem dX7_hasVariable_13 : decode cX7_hasVariable 13 = .ok (.iconst 0, 1) := by decide +kernel
theorem dX7_hasVariable_14 : decode cX7_hasVariable 14 = .ok (.ireturn, 1) := by decide +kernel
theorem dX7_lowestVariable_0 : decode cX7_lowestVariable 0 = .ok (.iconst 0, 1) := by decide +kernel
theorem dX7_lowestVariable_1 : decode cX7_lowestVariable 1 = .ok (.istore_n 1, 1) := by decide +kernel
theorem dX7_lowestVariable_2 : decode cX7_lowestVariable 2 = .ok (.iload_n 1, 1) := by decide +kernel
theorem dX7_lowestVariable_3 : decode cX7_lowestVariable 3 = .ok (.iconst 5, 1) := by decide +kernel
theorem dX7_lowestVariable_4 : decode cX7_lowestVariable 4 = .ok (.if_icmp .ge 19, 3) := by decide +kernel
theorem dX7_lowestVariable_7 : decode cX7_lowestVariable 7 = .ok (.iload_n 0, 1) := by decide +kernel
theorem dX7_lowestVariable_8 : decode cX7_lowestVariable 8 = .ok (.iload_n 1, 1) := by decide +kernel
theorem dX7_lowestVariable_9 : decode cX7_lowestVariable 9 = .ok (.invokestatic 315, 3) := by decide +kernel
theorem dX7_lowestVariable_12 : decode cX7_lowestVariable 12 = .ok (.ifCond .eq 5, 3) := by decide +kernel
theorem dX7_lowestVariable_15 : decode cX7_lowestVariable 15 = .ok (.iload_n 1, 1) := by decide +kernel
theorem dX7_lowestVariable_16 : decode cX7_lowestVariable 16 = .ok (.ireturn, 1) := by decide +kernel
theorem dX7_lowestVariable_17 : decode cX7_lowestVariable 17 = .ok (.iinc 1 1, 3) := by decide +kernel
theorem dX7_lowestVariable_20 : decode cX7_lowestVariable 20 = .ok (.goto (-18), 3) := by decide +kernel
theorem dX7_lowestVariable_23 : decode cX7_lowestVariable 23 = .ok (.iconst (-1), 1) := by decide +kernel
theorem dX7_lowestVariable_24 : decode cX7_lowestVariable 24 = .ok (.ireturn, 1) := by decide +kernel
theorem dJ6_bitCount_0f7a4_0 : decode cJ6_bitCount_0f7a4 0 = .ok (.iload_n 0, 1) := by decide +kernel
theorem dJ6_bitCount_0f7a4_1 : decode cJ6_bitCount_0f7a4 1 = .ok (.iload_n 0, 1) := by decide +kernel
theorem dJ6_bitCount_0f7a4_2 : decode cJ6_bitCount_0f7a4 2 = .ok (.iconst 1, 1) := by decide +kernel
theorem dJ6_bitCount_0f7a4_3 : decode cJ6_bitCount_0f7a4 3 = .ok (.iushr, 1) := by decide +kernel
theorem dJ6_bitCount_0f7a4_4 : decode cJ6_bitCount_0f7a4 4 = .ok (.ldc_w 265, 3) := by decide +kernel
theorem dJ6_bitCount_0f7a4_7 : decode cJ6_bitCount_0f7a4 7 = .ok (.iand, 1) := by decide +kernel
theorem dJ6_bitCount_0f7a4_8 : decode cJ6_bitCount_0f7a4 8 = .ok (.isub, 1) := by decide +kernel
theorem dJ6_bitCount_0f7a4_9 : decode cJ6_bitCount_0f7a4 9 = .ok (.istore_n 0, 1) := by decide +kernel
theorem dJ6_bitCount_0f7a4_10 : decode cJ6_bitCount_0f7a4 10 = .ok (.iload_n 0, 1) := by decide +kernel
theorem dJ6_bitCount_0f7a4_11 : decode cJ6_bitCount_0f7a4 11 = .ok (.ldc_w 266, 3) := by decide +kernel
theorem dJ6_bitCount_0f7a4_14 : decode cJ6_bitCount_0f7a4 14 = .ok (.iand, 1) := by decide +kernel
theorem dJ6_bitCount_0f7a4_15 : decode cJ6_bitCount_0f7a4 15 = .ok (.iload_n 0, 1) := by decide +kernel
theorem dJ6_bitCount_0f7a4_16 : decode cJ6_bitCount_0f7a4 16 = .ok (.iconst 2, 1) := by decide +kernel
theorem dJ6_bitCount_0f7a4_17 : decode cJ6_bitCount_0f7a4 17 = .ok (.iushr, 1) := by decide +kernel
theorem dJ6_bitCount_0f7a4_18 : decode cJ6_bitCount_0f7a4 18 = .ok (.ldc_w 266, 3) := by decide +kernel
theorem dJ6_bitCount_0f7a4_21 : decode cJ6_bitCount_0f7a4 21 = .ok (.iand, 1) := by decide +kernel
theorem dJ6_bitCount_0f7a4_22 : decode cJ6_bitCount_0f7a4 22 = .ok (.iadd, 1) := by decide +kernel
theorem dJ6_bitCount_0f7a4_23 : decode cJ6_bitCount_0f7a4 23 = .ok (.istore_n 0, 1) := by decide +kernel
theorem dJ6_bitCount_0f7a4_24 : decode cJ6_bitCount_0f7a4 24 = .ok (.iload_n 0, 1) := by decide +kernel
theorem dJ6_bitCount_0f7a4_25 : decode cJ6_bitCount_0f7a4 25 = .ok (.iload_n 0, 1) := by decide +kernel
theorem dJ6_bitCount_0f7a4_26 : decode cJ6_bitCount_0f7a4 26 = .ok (.iconst 4, 1) := by decide +kernel
theorem dJ6_bitCount_0f7a4_27 : decode cJ6_bitCount_0f7a4 27 = .ok (.iushr, 1) := by decide +kernel
theorem dJ6_bitCount_0f7a4_28 : decode cJ6_bitCount_0f7a4 28 = .ok (.iadd, 1) := by decide +kernel
theorem dJ6_bitCount_0f7a4_29 : decode cJ6_bitCount_0f7a4 29 = .ok (.ldc_w 267, 3) := by decide +kernel
theorem dJ6_bitCount_0f7a4_32 : decode cJ6_bitCount_0f7a4 32 = .ok (.iand, 1) := by decide +kernel
theorem dJ6_bitCount_0f7a4_33 : decode cJ6_bitCount_0f7a4 33 = .ok (.istore_n 0, 1) := by decide +kernel
theorem dJ6_bitCount_0f7a4_34 : decode cJ6_bitCount_0f7a4 34 = .ok (.iload_n 0, 1) := by decide +kernel
theorem dJ6_bitCount_0f7a4_35 : decode cJ6_bitCount_0f7a4 35 = .ok (.iload_n 0, 1) := by decide +kernel
theorem dJ6_bitCount_0f7a4_36 : decode cJ6_bitCount_0f7a4 36 = .ok (.bipush 8, 2) := by decide +kernel
theorem dJ6_bitCount_0f7a4_38 : decode cJ6_bitCount_0f7a4 38 = .ok (.iushr, 1) := by decide +kernel
theorem dJ6_bitCount_0f7a4_39 : decode cJ6_bitCount_0f7a4 39 = .ok (.iadd, 1) := by decide +kernel
theorem dJ6_bitCount_0f7a4_40 : decode cJ6_bitCount_0f7a4 40 = .ok (.istore_n 0, 1) := by decide +kernel
theorem dJ6_bitCount_0f7a4_41 : decode cJ6_bitCount_0f7a4 41 = .ok (.iload_n 0, 1) := by decide +kernel
theorem dJ6_bitCount_0f7a4_42 : decode cJ6_bitCount_0f7a4 42 = .ok (.iload_n 0, 1) := by decide +kernel
theorem dJ6_bitCount_0f7a4_43 : decode cJ6_bitCount_0f7a4 43 = .ok (.bipush 16, 2) := by decide +kernel
theorem dJ6_bitCount_0f7a4_45 : decode cJ6_bitCount_0f7a4 45 = .ok (.iushr, 1) := by decide +kernel
theorem dJ6_bitCount_0f7a4_46 : decode cJ6_bitCount_0f7a4 46 = .ok (.iadd, 1) := by decide +kernel
theorem dJ6_bitCount_0f7a4_47 : decode cJ6_bitCount_0f7a4 47 = .ok (.istore_n 0, 1) := by decide +kernel
theorem dJ6_bitCount_0f7a4_48 : decode cJ6_bitCount_0f7a4 48 = .ok (.iload_n 0, 1) := by decide +kernel
theorem dJ6_bitCount_0f7a4_49 : decode cJ6_bitCount_0f7a4 49 = .ok (.bipush 63, 2) := by decide +kernel
theorem dJ6_bitCount_0f7a4_51 : decode cJ6_bitCount_0f7a4 51 = .ok (.iand, 1) := by decide +kernel
theorem dJ6_bitCount_0f7a4_52 : decode cJ6_bitCount_0f7a4 52 = .ok (.ireturn, 1) := by decide +kernel
theorem dJ13_bitCount_95d88_0 : decode cJ13_bitCount_95d88 0 = .ok (.lload_n 0, 1) := by decide +kernel
theorem dJ13_bitCount_95d88_1 : decode cJ13_bitCount_95d88 1 = .ok (.lload_n 0, 1) := by decide +kernel
theorem dJ13_bitCount_95d88_2 : decode cJ13_bitCount_95d88 2 = .ok (.iconst 1, 1) := by decide +kernel
theorem dJ13_bitCount_95d88_3 : decode cJ13_bitCount_95d88 3 = .ok (.lushr, 1) := by decide +kernel
theorem dJ13_bitCount_95d88_4 : decode cJ13_bitCount_95d88 4 = .ok (.ldc2_w 314, 3) := by decide +kernel
theorem dJ13_bitCount_95d88_7 : decode cJ13_bitCount_95d88 7 = .ok (.land, 1) := by decide +kernel
theorem dJ13_bitCount_95d88_8 : decode cJ13_bitCount_95d88 8 = .ok (.lsub, 1) := by decide +kernel
theorem dJ13_bitCount_95d88_9 : decode cJ13_bitCount_95d88 9 = .ok (.lstore_n 0, 1) := by decide +kernel
theorem dJ13_bitCount_95d88_10 : decode cJ13_bitCount_95d88 10 = .ok (.lload_n 0, 1) := by decide +kernel
theorem dJ13_bitCount_95d88_11 : decode cJ13_bitCount_95d88 11 = .ok (.ldc2_w 316, 3) := by decide +kernel
theorem dJ13_bitCount_95d88_14 : decode cJ13_bitCount_95d88 14 = .ok (.land, 1) := by decide +kernel
theorem dJ13_bitCount_95d88_15 : decode cJ13_bitCount_95d88 15 = .ok (.lload_n 0, 1) := by decide +kernel
theorem dJ13_bitCount_95d88_16 : decode cJ13_bitCount_95d88 16 = .ok (.iconst 2, 1) := by decide +kernel
theorem dJ13_bitCount_95d88_17 : decode cJ13_bitCount_95d88 17 = .ok (.lushr, 1) := by decide +kernel
theorem dJ13_bitCount_95d88_18 : decode cJ13_bitCount_95d88 18 = .ok (.ldc2_w 316, 3) := by decide +kernel
theorem dJ13_bitCount_95d88_21 : decode cJ13_bitCount_95d88 21 = .ok (.land, 1) := by decide +kernel
theorem dJ13_bitCount_95d88_22 : decode cJ13_bitCount_95d88 22 = .ok (.ladd, 1) := by decide +kernel
theorem dJ13_bitCount_95d88_23 : decode cJ13_bitCount_95d88 23 = .ok (.lstore_n 0, 1) := by decide +kernel
theorem dJ13_bitCount_95d88_24 : decode cJ13_bitCount_95d88 24 = .ok (.lload_n 0, 1) := by decide +kernel
theorem dJ13_bitCount_95d88_25 : decode cJ13_bitCount_95d88 25 = .ok (.lload_n 0, 1) := by decide +kernel
theorem dJ13_bitCount_95d88_26 : decode cJ13_bitCount_95d88 26 = .ok (.iconst 4, 1) := by decide +kernel
theorem dJ13_bitCount_95d88_27 : decode cJ13_bitCount_95d88 27 = .ok (.lushr, 1) := by decide +kernel
theorem dJ13_bitCount_95d88_28 : decode cJ13_bitCount_95d88 28 = .ok (.ladd, 1) := by decide +kernel
theorem dJ13_bitCount_95d88_29 : decode cJ13_bitCount_95d88 29 = .ok (.ldc2_w 318, 3) := by decide +kernel
theorem dJ13_bitCount_95d88_32 : decode cJ13_bitCount_95d88 32 = .ok (.land, 1) := by decide +kernel
theorem dJ13_bitCount_95d88_33 : decode cJ13_bitCount_95d88 33 = .ok (.lstore_n 0, 1) := by decide +kernel
theorem dJ13_bitCount_95d88_34 : decode cJ13_bitCount_95d88 34 = .ok (.lload_n 0, 1) := by decide +kernel
theorem dJ13_bitCount_95d88_35 : decode cJ13_bitCount_95d88 35 = .ok (.lload_n 0, 1) := by decide +kernel
theorem dJ13_bitCount_95d88_36 : decode cJ13_bitCount_95d88 36 = .ok (.bipush 8, 2) := by decide +kernel
theorem dJ13_bitCount_95d88_38 : decode cJ13_bitCount_95d88 38 = .ok (.lushr, 1) := by decide +kernel
theorem dJ13_bitCount_95d88_39 : decode cJ13_bitCount_95d88 39 = .ok (.ladd, 1) := by decide +kernel
theorem dJ13_bitCount_95d88_40 : decode cJ13_bitCount_95d88 40 = .ok (.lstore_n 0, 1) := by decide +kernel
theorem dJ13_bitCount_95d88_41 : decode cJ13_bitCount_95d88 41 = .ok (.lload_n 0, 1) := by decide +kernel
theorem dJ13_bitCount_95d88_42 : decode cJ13_bitCount_95d88 42 = .ok (.lload_n 0, 1) := by decide +kernel
theorem dJ13_bitCount_95d88_43 : decode cJ13_bitCount_95d88 43 = .ok (.bipush 16, 2) := by decide +kernel
theorem dJ13_bitCount_95d88_45 : decode cJ13_bitCount_95d88 45 = .ok (.lushr, 1) := by decide +kernel
theorem dJ13_bitCount_95d88_46 : decode cJ13_bitCount_95d88 46 = .ok (.ladd, 1) := by decide +kernel
theorem dJ13_bitCount_95d88_47 : decode cJ13_bitCount_95d88 47 = .ok (.lstore_n 0, 1) := by decide +kernel
theorem dJ13_bitCount_95d88_48 : decode cJ13_bitCount_95d88 48 = .ok (.lload_n 0, 1) := by decide +kernel
theorem dJ13_bitCount_95d88_49 : decode cJ13_bitCount_95d88 49 = .ok (.lload_n 0, 1) := by decide +kernel
theorem dJ13_bitCount_95d88_50 : decode cJ13_bitCount_95d88 50 = .ok (.bipush 32, 2) := by decide +kernel
theorem dJ13_bitCount_95d88_52 : decode cJ13_bitCount_95d88 52 = .ok (.lushr, 1) := by decide +kernel
theorem dJ13_bitCount_95d88_53 : decode cJ13_bitCount_95d88 53 = .ok (.ladd, 1) := by decide +kernel
theorem dJ13_bitCount_95d88_54 : decode cJ13_bitCount_95d88 54 = .ok (.lstore_n 0, 1) := by decide +kernel
theorem dJ13_bitCount_95d88_55 : decode cJ13_bitCount_95d88 55 = .ok (.lload_n 0, 1) := by decide +kernel
theorem dJ13_bitCount_95d88_56 : decode cJ13_bitCount_95d88 56 = .ok (.l2i, 1) := by decide +kernel
theorem dJ13_bitCount_95d88_57 : decode cJ13_bitCount_95d88 57 = .ok (.bipush 127, 2) := by decide +kernel
theorem dJ13_bitCount_95d88_59 : decode cJ13_bitCount_95d88 59 = .ok (.iand, 1) := by decide +kernel
theorem dJ13_bitCount_95d88_60 : decode cJ13_bitCount_95d88 60 = .ok (.ireturn, 1) := by decide +kernel
theorem dJ7_fill_d0a16_0 : decode cJ7_fill_d0a16 0 = .ok (.iconst 0, 1) := by decide +kernel
theorem dJ7_fill_d0a16_1 : decode cJ7_fill_d0a16 1 = .ok (.istore_n 3, 1) := by decide +kernel
theorem dJ7_fill_d0a16_2 : decode cJ7_fill_d0a16 2 = .ok (.aload_n 0, 1) := by decide +kernel
theorem dJ7_fill_d0a16_3 : decode cJ7_fill_d0a16 3 = .ok (.arraylength, 1) := by decide +kernel
theorem dJ7_fill_d0a16_4 : decode cJ7_fill_d0a16 4 = .ok (.istore 4, 2) := by decide +kernel
theorem dJ7_fill_d0a16_6 : decode cJ7_fill_d0a16 6 = .ok (.iload_n 3, 1) := by decide +kernel
theorem dJ7_fill_d0a16_7 : decode cJ7_fill_d0a16 7 = .ok (.iload 4, 2) := by decide +kernel
theorem dJ7_fill_d0a16_9 : decode cJ7_fill_d0a16 9 = .ok (.if_icmp .ge 13, 3) := by decide +kernel
theorem dJ7_fill_d0a16_12 : decode cJ7_fill_d0a16 12 = .ok (.aload_n 0, 1) := by decide +kernel
theorem dJ7_fill_d0a16_13 : decode cJ7_fill_d0a16 13 = .ok (.iload_n 3, 1) := by decide +kernel
theorem dJ7_fill_d0a16_14 : decode cJ7_fill_d0a16 14 = .ok (.lload_n 1, 1) := by decide +kernel
theorem dJ7_fill_d0a16_15 : decode cJ7_fill_d0a16 15 = .ok (.lastore, 1) := by decide +kernel
theorem dJ7_fill_d0a16_16 : decode cJ7_fill_d0a16 16 = .ok (.iinc 3 1, 3) := by decide +kernel
theorem dJ7_fill_d0a16_19 : decode cJ7_fill_d0a16 19 = .ok (.goto (-13), 3) := by decide +kernel
theorem dJ7_fill_d0a16_22 : decode cJ7_fill_d0a16 22 = .ok (.return_, 1) := by decide +kernel
theorem dJ7_fill_53178_0 : decode cJ7_fill_53178 0 = .ok (.iconst 0, 1) := by decide +kernel
theorem dJ7_fill_53178_1 : decode cJ7_fill_53178 1 = .ok (.istore_n 2, 1) := by decide +kernel
theorem dJ7_fill_53178_2 : decode cJ7_fill_53178 2 = .ok (.aload_n 0, 1) := by decide +kernel
theorem dJ7_fill_53178_3 : decode cJ7_fill_53178 3 = .ok (.arraylength, 1) := by decide +kernel
theorem dJ7_fill_53178_4 : decode cJ7_fill_53178 4 = .ok (.istore_n 3, 1) := by decide +kernel
theorem dJ7_fill_53178_5 : decode cJ7_fill_53178 5 = .ok (.iload_n 2, 1) := by decide +kernel
theorem dJ7_fill_53178_6 : decode cJ7_fill_53178 6 = .ok (.iload_n 3, 1) := by decide +kernel
theorem dJ7_fill_53178_7 : decode cJ7_fill_53178 7 = .ok (.if_icmp .ge 13, 3) := by decide +kernel
theorem dJ7_fill_53178_10 : decode cJ7_fill_53178 10 = .ok (.aload_n 0, 1) := by decide +kernel
theorem dJ7_fill_53178_11 : decode cJ7_fill_53178 11 = .ok (.iload_n 2, 1) := by decide +kernel
theorem dJ7_fill_53178_12 : decode cJ7_fill_53178 12 = .ok (.iload_n 1, 1) := by decide +kernel
theorem dJ7_fill_53178_13 : decode cJ7_fill_53178 13 = .ok (.iastore, 1) := by decide +kernel
theorem dJ7_fill_53178_14 : decode cJ7_fill_53178 14 = .ok (.iinc 2 1, 3) := by decide +kernel
theorem dJ7_fill_53178_17 : decode cJ7_fill_53178 17 = .ok (.goto (-12), 3) := by decide +kernel
theorem dJ7_fill_53178_20 : decode cJ7_fill_53178 20 = .ok (.return_, 1) := by decide +kernel
