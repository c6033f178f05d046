theorem dX2_firstBottleIn_0 : decode cX2_firstBottleIn 0 = .ok (.aload_n 0, 1) := by decide +kernel
theorem dX2_firstBottleIn_1 : decode cX2_firstBottleIn 1 = .ok (.getfield 10, 3) := by decide +kernel
theorem dX2_firstBottleIn_4 : decode cX2_firstBottleIn 4 = .ok (.invokevirtual 68, 3) := by decide +kernel
theorem dX2_firstBottleIn_7 : decode cX2_firstBottleIn 7 = .ok (.ifCond .le 5, 3) := by decide +kernel
theorem dX2_firstBottleIn_10 : decode cX2_firstBottleIn 10 = .ok (.iconst 0, 1) := by decide +kernel
theorem dX2_firstBottleIn_11 : decode cX2_firstBottleIn 11 = .ok (.ireturn, 1) := by decide +kernel
theorem dX2_firstBottleIn_12 : decode cX2_firstBottleIn 12 = .ok (.aload_n 0, 1) := by decide +kernel
theorem dX2_firstBottleIn_13 : decode cX2_firstBottleIn 13 = .ok (.getfield 16, 3) := by decide +kernel
theorem dX2_firstBottleIn_16 : decode cX2_firstBottleIn 16 = .ok (.aload_n 0, 1) := by decide +kernel
theorem dX2_firstBottleIn_17 : decode cX2_firstBottleIn 17 = .ok (.getfield 10, 3) := by decide +kernel
theorem dX2_firstBottleIn_20 : decode cX2_firstBottleIn 20 = .ok (.invokevirtual 129, 3) := by decide +kernel
theorem dX2_firstBottleIn_23 : decode cX2_firstBottleIn 23 = .ok (.iconst 1, 1) := by decide +kernel
theorem dX2_firstBottleIn_24 : decode cX2_firstBottleIn 24 = .ok (.istore_n 1, 1) := by decide +kernel
theorem dX2_firstBottleIn_25 : decode cX2_firstBottleIn 25 = .ok (.iload_n 1, 1) := by decide +kernel
theorem dX2_firstBottleIn_26 : decode cX2_firstBottleIn 26 = .ok (.bipush 60, 2) := by decide +kernel
theorem dX2_firstBottleIn_28 : decode cX2_firstBottleIn 28 = .ok (.if_icmp .gt 47, 3) := by decide +kernel
theorem dX2_firstBottleIn_31 : decode cX2_firstBottleIn 31 = .ok (.aload_n 0, 1) := by decide +kernel
theorem dX2_firstBottleIn_32 : decode cX2_firstBottleIn 32 = .ok (.getfield 16, 3) := by decide +kernel
theorem dX2_firstBottleIn_35 : decode cX2_firstBottleIn 35 = .ok (.bipush 100, 2) := by decide +kernel
theorem dX2_firstBottleIn_37 : decode cX2_firstBottleIn 37 = .ok (.invokevirtual 55, 3) := by decide +kernel
theorem dX2_firstBottleIn_40 : decode cX2_firstBottleIn 40 = .ok (.pop2, 1) := by decide +kernel
theorem dX2_firstBottleIn_41 : decode cX2_firstBottleIn 41 = .ok (.aload_n 0, 1) := by decide +kernel
theorem dX2_firstBottleIn_42 : decode cX2_firstBottleIn 42 = .ok (.getfield 16, 3) := by decide +kernel
theorem dX2_firstBottleIn_45 : decode cX2_firstBottleIn 45 = .ok (.invokevirtual 59, 3) := by decide +kernel
theorem dX2_firstBottleIn_48 : decode cX2_firstBottleIn 48 = .ok (.pop2, 1) := by decide +kernel
theorem dX2_firstBottleIn_49 : decode cX2_firstBottleIn 49 = .ok (.aload_n 0, 1) := by decide +kernel
theorem dX2_firstBottleIn_50 : decode cX2_firstBottleIn 50 = .ok (.getfield 16, 3) := by decide +kernel
theorem dX2_firstBottleIn_53 : decode cX2_firstBottleIn 53 = .ok (.invokevirtual 63, 3) := by decide +kernel
theorem dX2_firstBottleIn_56 : decode cX2_firstBottleIn 56 = .ok (.pop2, 1) := by decide +kernel
theorem dX2_firstBottleIn_57 : decode cX2_firstBottleIn 57 = .ok (.aload_n 0, 1) := by decide +kernel
theorem dX2_firstBottleIn_58 : decode cX2_firstBottleIn 58 = .ok (.getfield 16, 3) := by decide +kernel
theorem dX2_firstBottleIn_61 : decode cX2_firstBottleIn 61 = .ok (.invokevirtual 68, 3) := by decide +kernel
theorem dX2_firstBottleIn_64 : decode cX2_firstBottleIn 64 = .ok (.ifCond .le 5, 3) := by decide +kernel
theorem dX2_firstBottleIn_67 : decode cX2_firstBottleIn 67 = .ok (.iload_n 1, 1) := by decide +kernel
theorem dX2_firstBottleIn_68 : decode cX2_firstBottleIn 68 = .ok (.ireturn, 1) := by decide +kernel
theorem dX2_firstBottleIn_69 : decode cX2_firstBottleIn 69 = .ok (.iinc 1 1, 3) := by decide +kernel
theorem dX2_firstBottleIn_72 : decode cX2_firstBottleIn 72 = .ok (.goto (-47), 3) := by decide +kernel
theorem dX2_firstBottleIn_75 : decode cX2_firstBottleIn 75 = .ok (.iconst (-1), 1) := by decide +kernel
theorem dX2_firstBottleIn_76 : decode cX2_firstBottleIn 76 = .ok (.ireturn, 1) := by decide +kernel
theorem dX2_barrelNumbered_0 : decode cX2_barrelNumbered 0 = .ok (.iload_n 1, 1) := by decide +kernel
theorem dX2_barrelNumbered_1 : decode cX2_barrelNumbered 1 = .ok (.ifCond .lt 14, 3) := by decide +kernel
theorem dX2_barrelNumbered_4 : decode cX2_barrelNumbered 4 = .ok (.iload_n 1, 1) := by decide +kernel
theorem dX2_barrelNumbered_5 : decode cX2_barrelNumbered 5 = .ok (.aload_n 0, 1) := by decide +kernel
theorem dX2_barrelNumbered_6 : decode cX2_barrelNumbered 6 = .ok (.getfield 10, 3) := by decide +kernel
theorem dX2_barrelNumbered_9 : decode cX2_barrelNumbered 9 = .ok (.getfield 100, 3) := by decide +kernel
theorem dX2_barrelNumbered_12 : decode cX2_barrelNumbered 12 = .ok (.if_icmp .lt 13, 3) := by decide +kernel
theorem dX2_barrelNumbered_15 : decode cX2_barrelNumbered 15 = .ok (.new 133, 3) := by decide +kernel
theorem dX2_barrelNumbered_18 : decode cX2_barrelNumbered 18 = .ok (.dup, 1) := by decide +kernel
theorem dX2_barrelNumbered_19 : decode cX2_barrelNumbered 19 = .ok (.ldc 135, 2) := by decide +kernel
theorem dX2_barrelNumbered_21 : decode cX2_barrelNumbered 21 = .ok (.invokespecial 137, 3) := by decide +kernel
theorem dX2_barrelNumbered_24 : decode cX2_barrelNumbered 24 = .ok (.athrow, 1) := by decide +kernel
theorem dX2_barrelNumbered_25 : decode cX2_barrelNumbered 25 = .ok (.aload_n 0, 1) := by decide +kernel
theorem dX2_barrelNumbered_26 : decode cX2_barrelNumbered 26 = .ok (.getfield 10, 3) := by decide +kernel
theorem dX2_barrelNumbered_29 : decode cX2_barrelNumbered 29 = .ok (.getfield 138, 3) := by decide +kernel
theorem dX2_barrelNumbered_32 : decode cX2_barrelNumbered 32 = .ok (.iload_n 1, 1) := by decide +kernel
theorem dX2_barrelNumbered_33 : decode cX2_barrelNumbered 33 = .ok (.aaload, 1) := by decide +kernel
theorem dX2_barrelNumbered_34 : decode cX2_barrelNumbered 34 = .ok (.areturn, 1) := by decide +kernel
theorem dX2_kindAt_0 : decode cX2_kindAt 0 = .ok (.dload_n 0, 1) := by decide +kernel
theorem dX2_kindAt_1 : decode cX2_kindAt 1 = .ok (.ldc2_w 142, 3) := by decide +kernel
theorem dX2_kindAt_4 : decode cX2_kindAt 4 = .ok (.dcmp .g, 1) := by decide +kernel
theorem dX2_kindAt_5 : decode cX2_kindAt 5 = .ok (.ifCond .ge 5, 3) := by decide +kernel
theorem dX2_kindAt_8 : decode cX2_kindAt 8 = .ok (.iconst 0, 1) := by decide +kernel
theorem dX2_kindAt_9 : decode cX2_kindAt 9 = .ok (.ireturn, 1) := by decide +kernel
theorem dX2_kindAt_10 : decode cX2_kindAt 10 = .ok (.dload_n 0, 1) := by decide +kernel
theorem dX2_kindAt_11 : decode cX2_kindAt 11 = .ok (.ldc2_w 144, 3) := by decide +kernel
theorem dX2_kindAt_14 : decode cX2_kindAt 14 = .ok (.dcmp .g, 1) := by decide +kernel
theorem dX2_kindAt_15 : decode cX2_kindAt 15 = .ok (.ifCond .ge 7, 3) := by decide +kernel
theorem dX2_kindAt_18 : decode cX2_kindAt 18 = .ok (.iconst 1, 1) := by decide +kernel
theorem dX2_kindAt_19 : decode cX2_kindAt 19 = .ok (.goto 4, 3) := by decide +kernel
theorem dX2_kindAt_22 : decode cX2_kindAt 22 = .ok (.iconst 2, 1) := by decide +kernel
theorem dX2_kindAt_23 : decode cX2_kindAt 23 = .ok (.ireturn, 1) := by decide +kernel
theorem dX3_init_0 : decode cX3_init 0 = .ok (.aload_n 0, 1) := by decide +kernel
theorem dX3_init_1 : decode cX3_init 1 = .ok (.invokespecial 1, 3) := by decide +kernel
theorem dX3_init_4 : decode cX3_init 4 = .ok (.aload_n 0, 1) := by decide +kernel
theorem dX3_init_5 : decode cX3_init 5 = .ok (.bipush 8, 2) := by decide +kernel
theorem dX3_init_7 : decode cX3_init 7 = .ok (.newarray .int, 2) := by decide +kernel
theorem dX3_init_9 : decode cX3_init 9 = .ok (.putfield 7, 3) := by decide +kernel
theorem dX3_init_12 : decode cX3_init 12 = .ok (.aload_n 0, 1) := by decide +kernel
theorem dX3_init_13 : decode cX3_init 13 = .ok (.bipush 8, 2) := by decide +kernel
theorem dX3_init_15 : decode cX3_init 15 = .ok (.newarray .int, 2) := by decide +kernel
theorem dX3_init_17 : decode cX3_init 17 = .ok (.putfield 13, 3) := by decide +kernel
theorem dX3_init_20 : decode cX3_init 20 = .ok (.aload_n 0, 1) := by decide +kernel
theorem dX3_init_21 : decode cX3_init 21 = .ok (.bipush 32, 2) := by decide +kernel
theorem dX3_init_23 : decode cX3_init 23 = .ok (.newarray .double, 2) := by decide +kernel
theorem dX3_init_25 : decode cX3_init 25 = .ok (.putfield 16, 3) := by decide +kernel
theorem dX3_init_28 : decode cX3_init 28 = .ok (.aload_n 0, 1) := by decide +kernel
theorem dX3_init_29 : decode cX3_init 29 = .ok (.bipush 32, 2) := by decide +kernel
theorem dX3_init_31 : decode cX3_init 31 = .ok (.newarray .double, 2) := by decide +kernel
theorem dX3_init_33 : decode cX3_init 33 = .ok (.putfield 20, 3) := by decide +kernel
theorem dX3_init_36 : decode cX3_init 36 = .ok (.aload_n 0, 1) := by decide +kernel
theorem dX3_init_37 : decode cX3_init 37 = .ok (.bipush 18, 2) := by decide +kernel
theorem dX3_init_39 : decode cX3_init 39 = .ok (.putfield 23, 3) := by decide +kernel
theorem dX3_init_42 : decode cX3_init 42 = .ok (.aload_n 0, 1) := by decide +kernel
theorem dX3_init_43 : decode cX3_init 43 = .ok (.iconst (-1), 1) := by decide +kernel
theorem dX3_init_44 : decode cX3_init 44 = .ok (.putfield 27, 3) := by decide +kernel
theorem dX3_init_47 : decode cX3_init 47 = .ok (.return_, 1) := by decide +kernel
theorem dX3_thrown_0 : decode cX3_thrown 0 = .ok (.aload_n 0, 1) := by decide +kernel
theorem dX3_thrown_1 : decode cX3_thrown 1 = .ok (.getfield 30, 3) := by decide +kernel
theorem dX3_thrown_4 : decode cX3_thrown 4 = .ok (.ireturn, 1) := by decide +kernel
theorem dX3_isThere_0 : decode cX3_isThere 0 = .ok (.aload_n 0, 1) := by decide +kernel
theorem dX3_isThere_1 : decode cX3_isThere 1 = .ok (.iload_n 1, 1) := by decide +kernel
theorem dX3_isThere_2 : decode cX3_isThere 2 = .ok (.ifCond .lt 15, 3) := by decide +kernel
theorem dX3_isThere_5 : decode cX3_isThere 5 = .ok (.iload_n 1, 1) := by decide +kernel
theorem dX3_isThere_6 : decode cX3_isThere 6 = .ok (.aload_n 0, 1) := by decide +kernel
theorem dX3_isThere_7 : decode cX3_isThere 7 = .ok (.getfield 33, 3) := by decide +kernel
theorem dX3_isThere_10 : decode cX3_isThere 10 = .ok (.if_icmp .ge 7, 3) := by decide +kernel
theorem dX3_isThere_13 : decode cX3_isThere 13 = .ok (.iconst 0, 1) := by decide +kernel
theorem dX3_isThere_14 : decode cX3_isThere 14 = .ok (.goto 4, 3) := by decide +kernel
theorem dX3_isThere_17 : decode cX3_isThere 17 = .ok (.iconst 1, 1) := by decide +kernel
theorem dX3_isThere_18 : decode cX3_isThere 18 = .ok (.putfield 30, 3) := by decide +kernel
theorem dX3_isThere_21 : decode cX3_isThere 21 = .ok (.aload_n 0, 1) := by decide +kernel
theorem dX3_isThere_22 : decode cX3_isThere 22 = .ok (.getfield 30, 3) := by decide +kernel
theorem dX3_isThere_25 : decode cX3_isThere 25 = .ok (.ifCond .ne 7, 3) := by decide +kernel
theorem dX3_isThere_28 : decode cX3_isThere 28 = .ok (.iconst 1, 1) := by decide +kernel
theorem dX3_isThere_29 : decode cX3_isThere 29 = .ok (.goto 4, 3) := by decide +kernel
theorem dX3_isThere_32 : decode cX3_isThere 32 = .ok (.iconst 0, 1) := by decide +kernel
theorem dX3_isThere_33 : decode cX3_isThere 33 = .ok (.ireturn, 1) := by decide +kernel
theorem dX3_isEmpty_0 : decode cX3_isEmpty 0 = .ok (.aload_n 0, 1) := by decide +kernel
theorem dX3_isEmpty_1 : decode cX3_isEmpty 1 = .ok (.getfield 16, 3) := by decide +kernel
theorem dX3_isEmpty_4 : decode cX3_isEmpty 4 = .ok (.iconst 0, 1) := by decide +kernel
theorem dX3_isEmpty_5 : decode cX3_isEmpty 5 = .ok (.iload_n 1, 1) := by decide +kernel
theorem dX3_isEmpty_6 : decode cX3_isEmpty 6 = .ok (.iadd, 1) := by decide +kernel
theorem dX3_isEmpty_7 : decode cX3_isEmpty 7 = .ok (.daload, 1) := by decide +kernel
theorem dX3_isEmpty_8 : decode cX3_isEmpty 8 = .ok (.dconst 0, 1) := by decide +kernel
theorem dX3_isEmpty_9 : decode cX3_isEmpty 9 = .ok (.dcmp .g, 1) := by decide +kernel
theorem dX3_isEmpty_10 : decode cX3_isEmpty 10 = .ok (.ifCond .gt 7, 3) := by decide +kernel
theorem dX3_isEmpty_13 : decode cX3_isEmpty 13 = .ok (.iconst 1, 1) := by decide +kernel
theorem dX3_isEmpty_14 : decode cX3_isEmpty 14 = .ok (.goto 4, 3) := by decide +kernel
theorem dX3_isEmpty_17 : decode cX3_isEmpty 17 = .ok (.iconst 0, 1) := by decide +kernel
theorem dX3_isEmpty_18 : decode cX3_isEmpty 18 = .ok (.ireturn, 1) := by decide +kernel
theorem dX3_lesser_0 : decode cX3_lesser 0 = .ok (.dload_n 0, 1) := by decide +kernel
theorem dX3_lesser_1 : decode cX3_lesser 1 = .ok (.dload_n 2, 1) := by decide +kernel
theorem dX3_lesser_2 : decode cX3_lesser 2 = .ok (.dcmp .g, 1) := by decide +kernel
theorem dX3_lesser_3 : decode cX3_lesser 3 = .ok (.ifCond .ge 7, 3) := by decide +kernel
theorem dX3_lesser_6 : decode cX3_lesser 6 = .ok (.dload_n 0, 1) := by decide +kernel
theorem dX3_lesser_7 : decode cX3_lesser 7 = .ok (.goto 4, 3) := by decide +kernel
theorem dX3_lesser_10 : decode cX3_lesser 10 = .ok (.dload_n 2, 1) := by decide +kernel
theorem dX3_lesser_11 : decode cX3_lesser 11 = .ok (.dreturn, 1) := by decide +kernel
theorem dX3_mixes_0 : decode cX3_mixes 0 = .ok (.aload_n 0, 1) := by decide +kernel
theorem dX3_mixes_1 : decode cX3_mixes 1 = .ok (.getfield 16, 3) := by decide +kernel
theorem dX3_mixes_4 : decode cX3_mixes 4 = .ok (.iconst 0, 1) := by decide +kernel
theorem dX3_mixes_5 : decode cX3_mixes 5 = .ok (.iload_n 1, 1) := by decide +kernel
theorem dX3_mixes_6 : decode cX3_mixes 6 = .ok (.iadd, 1) := by decide +kernel
theorem dX3_mixes_7 : decode cX3_mixes 7 = .ok (.daload, 1) := by decide +kernel
theorem dX3_mixes_8 : decode cX3_mixes 8 = .ok (.dstore 7, 2) := by decide +kernel
theorem dX3_mixes_10 : decode cX3_mixes 10 = .ok (.aload_n 0, 1) := by decide +kernel
theorem dX3_mixes_11 : decode cX3_mixes 11 = .ok (.getfield 16, 3) := by decide +kernel
theorem dX3_mixes_14 : decode cX3_mixes 14 = .ok (.iload_n 2, 1) := by decide +kernel
theorem dX3_mixes_15 : decode cX3_mixes 15 = .ok (.iload_n 1, 1) := by decide +kernel
theorem dX3_mixes_16 : decode cX3_mixes 16 = .ok (.iadd, 1) := by decide +kernel
theorem dX3_mixes_17 : decode cX3_mixes 17 = .ok (.daload, 1) := by decide +kernel
theorem dX3_mixes_18 : decode cX3_mixes 18 = .ok (.dstore 9, 2) := by decide +kernel
theorem dX3_mixes_20 : decode cX3_mixes 20 = .ok (.aload_n 0, 1) := by decide +kernel
theorem dX3_mixes_21 : decode cX3_mixes 21 = .ok (.getfield 16, 3) := by decide +kernel
theorem dX3_mixes_24 : decode cX3_mixes 24 = .ok (.iload_n 2, 1) := by decide +kernel
theorem dX3_mixes_25 : decode cX3_mixes 25 = .ok (.iload_n 1, 1) := by decide +kernel
theorem dX3_mixes_26 : decode cX3_mixes 26 = .ok (.iadd, 1) := by decide +kernel
theorem dX3_mixes_27 : decode cX3_mixes 27 = .ok (.dload 7, 2) := by decide +kernel
theorem dX3_mixes_29 : decode cX3_mixes 29 = .ok (.dload 9, 2) := by decide +kernel
theorem dX3_mixes_31 : decode cX3_mixes 31 = .ok (.dmul, 1) := by decide +kernel
theorem dX3_mixes_32 : decode cX3_mixes 32 = .ok (.dload_n 3, 1) := by decide +kernel
theorem dX3_mixes_33 : decode cX3_mixes 33 = .ok (.dload 5, 2) := by decide +kernel
theorem dX3_mixes_35 : decode cX3_mixes 35 = .ok (.dmul, 1) := by decide +kernel
theorem dX3_mixes_36 : decode cX3_mixes 36 = .ok (.dadd, 1) := by decide +kernel
theorem dX3_mixes_37 : decode cX3_mixes 37 = .ok (.dload 7, 2) := by decide +kernel
theorem dX3_mixes_39 : decode cX3_mixes 39 = .ok (.dload_n 3, 1) := by decide +kernel
theorem dX3_mixes_40 : decode cX3_mixes 40 = .ok (.dadd, 1) := by decide +kernel
theorem dX3_mixes_41 : decode cX3_mixes 41 = .ok (.ddiv, 1) := by decide +kernel
theorem dX3_mixes_42 : decode cX3_mixes 42 = .ok (.dastore, 1) := by decide +kernel
theorem dX3_mixes_43 : decode cX3_mixes 43 = .ok (.return_, 1) := by decide +kernel
set_option maxRecDepth 20000 in
theorem ggX3_gets_X3_mixes : GoodIn wsX3_gets wsX3_mixes := goodIn_r _ [6, 1, 7, 8, 9, 10, 11, 12, 13, 14, 15, 16, 17, 18, 19] (by decide +kernel) (by decide +kernel)
set_option maxRecDepth 20000 in
theorem gX3_gets_X3_mixes : GoodIn wsX3_gets (wsV RX3 36 RX3 yX3_mixes wsX3_mixes) := goodIn_app (goodIn_of _ (by decide +kernel)) ggX3_gets_X3_mixes
theorem dX3_gets_0 : decode cX3_gets 0 = .ok (.dload_n 2, 1) := by decide +kernel
theorem dX3_gets_1 : decode cX3_gets 1 = .ok (.dconst 0, 1) := by decide +kernel
theorem dX3_gets_2 : decode cX3_gets 2 = .ok (.dcmp .l, 1) := by decide +kernel
theorem dX3_gets_3 : decode cX3_gets 3 = .ok (.ifCond .le 51, 3) := by decide +kernel
theorem dX3_gets_6 : decode cX3_gets 6 = .ok (.aload_n 0, 1) := by decide +kernel
theorem dX3_gets_7 : decode cX3_gets 7 = .ok (.iload_n 1, 1) := by decide +kernel
theorem dX3_gets_8 : decode cX3_gets 8 = .ok (.bipush 8, 2) := by decide +kernel
theorem dX3_gets_10 : decode cX3_gets 10 = .ok (.dload_n 2, 1) := by decide +kernel
theorem dX3_gets_11 : decode cX3_gets 11 = .ok (.dload 4, 2) := by decide +kernel
theorem dX3_gets_13 : decode cX3_gets 13 = .ok (.invokevirtual 36, 3) := by decide +kernel
theorem dX3_gets_16 : decode cX3_gets 16 = .ok (.aload_n 0, 1) := by decide +kernel
theorem dX3_gets_17 : decode cX3_gets 17 = .ok (.iload_n 1, 1) := by decide +kernel
theorem dX3_gets_18 : decode cX3_gets 18 = .ok (.bipush 16, 2) := by decide +kernel
theorem dX3_gets_20 : decode cX3_gets 20 = .ok (.dload_n 2, 1) := by decide +kernel
theorem dX3_gets_21 : decode cX3_gets 21 = .ok (.dload 6, 2) := by decide +kernel
theorem dX3_gets_23 : decode cX3_gets 23 = .ok (.invokevirtual 36, 3) := by decide +kernel
theorem dX3_gets_26 : decode cX3_gets 26 = .ok (.aload_n 0, 1) := by decide +kernel
theorem dX3_gets_27 : decode cX3_gets 27 = .ok (.iload_n 1, 1) := by decide +kernel
theorem dX3_gets_28 : decode cX3_gets 28 = .ok (.bipush 24, 2) := by decide +kernel
theorem dX3_gets_30 : decode cX3_gets 30 = .ok (.dload_n 2, 1) := by decide +kernel
theorem dX3_gets_31 : decode cX3_gets 31 = .ok (.dload 8, 2) := by decide +kernel
theorem dX3_gets_33 : decode cX3_gets 33 = .ok (.invokevirtual 36, 3) := by decide +kernel
theorem dX3_gets_36 : decode cX3_gets 36 = .ok (.aload_n 0, 1) := by decide +kernel
theorem dX3_gets_37 : decode cX3_gets 37 = .ok (.getfield 16, 3) := by decide +kernel
theorem dX3_gets_40 : decode cX3_gets 40 = .ok (.iconst 0, 1) := by decide +kernel
theorem dX3_gets_41 : decode cX3_gets 41 = .ok (.iload_n 1, 1) := by decide +kernel
theorem dX3_gets_42 : decode cX3_gets 42 = .ok (.iadd, 1) := by decide +kernel
theorem dX3_gets_43 : decode cX3_gets 43 = .ok (.aload_n 0, 1) := by decide +kernel
theorem dX3_gets_44 : decode cX3_gets 44 = .ok (.getfield 16, 3) := by decide +kernel
theorem dX3_gets_47 : decode cX3_gets 47 = .ok (.iconst 0, 1) := by decide +kernel
theorem dX3_gets_48 : decode cX3_gets 48 = .ok (.iload_n 1, 1) := by decide +kernel
theorem dX3_gets_49 : decode cX3_gets 49 = .ok (.iadd, 1) := by decide +kernel
theorem dX3_gets_50 : decode cX3_gets 50 = .ok (.daload, 1) := by decide +kernel
theorem dX3_gets_51 : decode cX3_gets 51 = .ok (.dload_n 2, 1) := by decide +kernel
theorem dX3_gets_52 : decode cX3_gets 52 = .ok (.dadd, 1) := by decide +kernel
theorem dX3_gets_53 : decode cX3_gets 53 = .ok (.dastore, 1) := by decide +kernel
theorem dX3_gets_54 : decode cX3_gets 54 = .ok (.return_, 1) := by decide +kernel
set_option maxRecDepth 20000 in
theorem ggX3_pours_X3_gets : GoodIn wsX3_pours wsX3_gets := goodIn_r _ [6, 7, 8, 9, 10, 5, 11, 12, 13, 14, 15, 16, 17, 18, 19, 20, 21, 22, 23, 24] (by decide +kernel) (by decide +kernel)
set_option maxRecDepth 20000 in
theorem gX3_pours_X3_gets : GoodIn wsX3_pours (wsV RX3 42 RX3 yX3_gets wsX3_gets) := goodIn_app (goodIn_of _ (by decide +kernel)) ggX3_pours_X3_gets
theorem dX3_pours_0 : decode cX3_pours 0 = .ok (.aload_n 0, 1) := by decide +kernel
theorem dX3_pours_1 : decode cX3_pours 1 = .ok (.iconst 0, 1) := by decide +kernel
theorem dX3_pours_2 : decode cX3_pours 2 = .ok (.dload_n 1, 1) := by decide +kernel
theorem dX3_pours_3 : decode cX3_pours 3 = .ok (.dconst 0, 1) := by decide +kernel
theorem dX3_pours_4 : decode cX3_pours 4 = .ok (.dconst 1, 1) := by decide +kernel
theorem dX3_pours_5 : decode cX3_pours 5 = .ok (.ldc2_w 40, 3) := by decide +kernel
theorem dX3_pours_8 : decode cX3_pours 8 = .ok (.invokevirtual 42, 3) := by decide +kernel
theorem dX3_pours_11 : decode cX3_pours 11 = .ok (.dload_n 1, 1) := by decide +kernel
theorem dX3_pours_12 : decode cX3_pours 12 = .ok (.dconst 0, 1) := by decide +kernel
theorem dX3_pours_13 : decode cX3_pours 13 = .ok (.dcmp .l, 1) := by decide +kernel
theorem dX3_pours_14 : decode cX3_pours 14 = .ok (.ifCond .le 7, 3) := by decide +kernel
theorem dX3_pours_17 : decode cX3_pours 17 = .ok (.dload_n 1, 1) := by decide +kernel
theorem dX3_pours_18 : decode cX3_pours 18 = .ok (.goto 4, 3) := by decide +kernel
theorem dX3_pours_21 : decode cX3_pours 21 = .ok (.dconst 0, 1) := by decide +kernel
theorem dX3_pours_22 : decode cX3_pours 22 = .ok (.dreturn, 1) := by decide +kernel
theorem dX3_room_0 : decode cX3_room 0 = .ok (.aload_n 0, 1) := by decide +kernel
theorem dX3_room_1 : decode cX3_room 1 = .ok (.getfield 13, 3) := by decide +kernel
theorem dX3_room_4 : decode cX3_room 4 = .ok (.iconst 0, 1) := by decide +kernel
theorem dX3_room_5 : decode cX3_room 5 = .ok (.iaload, 1) := by decide +kernel
theorem dX3_room_6 : decode cX3_room 6 = .ok (.i2d, 1) := by decide +kernel
theorem dX3_room_7 : decode cX3_room 7 = .ok (.aload_n 0, 1) := by decide +kernel
theorem dX3_room_8 : decode cX3_room 8 = .ok (.getfield 16, 3) := by decide +kernel
theorem dX3_room_11 : decode cX3_room 11 = .ok (.iconst 0, 1) := by decide +kernel
theorem dX3_room_12 : decode cX3_room 12 = .ok (.daload, 1) := by decide +kernel
theorem dX3_room_13 : decode cX3_room 13 = .ok (.dsub, 1) := by decide +kernel
theorem dX3_room_14 : decode cX3_room 14 = .ok (.dreturn, 1) := by decide +kernel
set_option maxRecDepth 20000 in
theorem ggX3_topsUp_X3_lesser : GoodIn wsX3_topsUp wsX3_lesser := goodIn_r _ [9] (by decide +kernel) (by decide +kernel)
set_option maxRecDepth 20000 in
theorem gX3_topsUp_X3_lesser : GoodIn wsX3_topsUp (va_wsS RX3 50 yX3_lesser wsX3_lesser) := goodIn_app (goodIn_of _ (by decide +kernel)) ggX3_topsUp_X3_lesser
set_option maxRecDepth 20000 in
theorem ggX3_topsUp_X3_gets : GoodIn wsX3_topsUp wsX3_gets := goodIn_r _ [13, 4, 14, 15, 16, 8, 17, 18, 19, 20, 21, 22, 23, 24, 25, 26, 27, 28, 29, 30] (by decide +kernel) (by decide +kernel)
set_option maxRecDepth 20000 in
theorem gX3_topsUp_X3_gets : GoodIn wsX3_topsUp (wsV RX3 42 RX3 yX3_gets wsX3_gets) := goodIn_app (goodIn_of _ (by decide +kernel)) ggX3_topsUp_X3_gets
theorem dX3_topsUp_0 : decode cX3_topsUp 0 = .ok (.dconst 0, 1) := by decide +kernel
theorem dX3_topsUp_1 : decode cX3_topsUp 1 = .ok (.dstore_n 1, 1) := by decide +kernel
theorem dX3_topsUp_2 : decode cX3_topsUp 2 = .ok (.aload_n 0, 1) := by decide +kernel
theorem dX3_topsUp_3 : decode cX3_topsUp 3 = .ok (.getfield 33, 3) := by decide +kernel
theorem dX3_topsUp_6 : decode cX3_topsUp 6 = .ok (.iconst 1, 1) := by decide +kernel
theorem dX3_topsUp_7 : decode cX3_topsUp 7 = .ok (.isub, 1) := by decide +kernel
theorem dX3_topsUp_8 : decode cX3_topsUp 8 = .ok (.istore_n 3, 1) := by decide +kernel
theorem dX3_topsUp_9 : decode cX3_topsUp 9 = .ok (.iload_n 3, 1) := by decide +kernel
theorem dX3_topsUp_10 : decode cX3_topsUp 10 = .ok (.ifCond .le 141, 3) := by decide +kernel
theorem dX3_topsUp_13 : decode cX3_topsUp 13 = .ok (.ldc2_w 46, 3) := by decide +kernel
theorem dX3_topsUp_16 : decode cX3_topsUp 16 = .ok (.aload_n 0, 1) := by decide +kernel
theorem dX3_topsUp_17 : decode cX3_topsUp 17 = .ok (.getfield 13, 3) := by decide +kernel
theorem dX3_topsUp_20 : decode cX3_topsUp 20 = .ok (.iload_n 3, 1) := by decide +kernel
theorem dX3_topsUp_21 : decode cX3_topsUp 21 = .ok (.iaload, 1) := by decide +kernel
theorem dX3_topsUp_22 : decode cX3_topsUp 22 = .ok (.i2d, 1) := by decide +kernel
theorem dX3_topsUp_23 : decode cX3_topsUp 23 = .ok (.dmul, 1) := by decide +kernel
theorem dX3_topsUp_24 : decode cX3_topsUp 24 = .ok (.dstore 4, 2) := by decide +kernel
theorem dX3_topsUp_26 : decode cX3_topsUp 26 = .ok (.aload_n 0, 1) := by decide +kernel
theorem dX3_topsUp_27 : decode cX3_topsUp 27 = .ok (.getfield 16, 3) := by decide +kernel
theorem dX3_topsUp_30 : decode cX3_topsUp 30 = .ok (.iconst 0, 1) := by decide +kernel
theorem dX3_topsUp_31 : decode cX3_topsUp 31 = .ok (.iload_n 3, 1) := by decide +kernel
theorem dX3_topsUp_32 : decode cX3_topsUp 32 = .ok (.iadd, 1) := by decide +kernel
theorem dX3_topsUp_33 : decode cX3_topsUp 33 = .ok (.daload, 1) := by decide +kernel
theorem dX3_topsUp_34 : decode cX3_topsUp 34 = .ok (.dload 4, 2) := by decide +kernel
theorem dX3_topsUp_36 : decode cX3_topsUp 36 = .ok (.dcmp .g, 1) := by decide +kernel
theorem dX3_topsUp_37 : decode cX3_topsUp 37 = .ok (.ifCond .ge 108, 3) := by decide +kernel
theorem dX3_topsUp_40 : decode cX3_topsUp 40 = .ok (.dload 4, 2) := by decide +kernel
theorem dX3_topsUp_42 : decode cX3_topsUp 42 = .ok (.aload_n 0, 1) := by decide +kernel
theorem dX3_topsUp_43 : decode cX3_topsUp 43 = .ok (.getfield 16, 3) := by decide +kernel
theorem dX3_topsUp_46 : decode cX3_topsUp 46 = .ok (.iconst 0, 1) := by decide +kernel
theorem dX3_topsUp_47 : decode cX3_topsUp 47 = .ok (.iload_n 3, 1) := by decide +kernel
theorem dX3_topsUp_48 : decode cX3_topsUp 48 = .ok (.iadd, 1) := by decide +kernel
theorem dX3_topsUp_49 : decode cX3_topsUp 49 = .ok (.daload, 1) := by decide +kernel
theorem dX3_topsUp_50 : decode cX3_topsUp 50 = .ok (.dsub, 1) := by decide +kernel
theorem dX3_topsUp_51 : decode cX3_topsUp 51 = .ok (.ldc2_w 48, 3) := by decide +kernel
theorem dX3_topsUp_54 : decode cX3_topsUp 54 = .ok (.aload_n 0, 1) := by decide +kernel
theorem dX3_topsUp_55 : decode cX3_topsUp 55 = .ok (.getfield 16, 3) := by decide +kernel
theorem dX3_topsUp_58 : decode cX3_topsUp 58 = .ok (.iconst 0, 1) := by decide +kernel
theorem dX3_topsUp_59 : decode cX3_topsUp 59 = .ok (.iload_n 3, 1) := by decide +kernel
theorem dX3_topsUp_60 : decode cX3_topsUp 60 = .ok (.iadd, 1) := by decide +kernel
theorem dX3_topsUp_61 : decode cX3_topsUp 61 = .ok (.iconst 1, 1) := by decide +kernel
theorem dX3_topsUp_62 : decode cX3_topsUp 62 = .ok (.isub, 1) := by decide +kernel
theorem dX3_topsUp_63 : decode cX3_topsUp 63 = .ok (.daload, 1) := by decide +kernel
theorem dX3_topsUp_64 : decode cX3_topsUp 64 = .ok (.dmul, 1) := by decide +kernel
theorem dX3_topsUp_65 : decode cX3_topsUp 65 = .ok (.invokestatic 50, 3) := by decide +kernel
theorem dX3_topsUp_68 : decode cX3_topsUp 68 = .ok (.dstore 6, 2) := by decide +kernel
theorem dX3_topsUp_70 : decode cX3_topsUp 70 = .ok (.dload 6, 2) := by decide +kernel
theorem dX3_topsUp_72 : decode cX3_topsUp 72 = .ok (.dconst 0, 1) := by decide +kernel
theorem dX3_topsUp_73 : decode cX3_topsUp 73 = .ok (.dcmp .l, 1) := by decide +kernel
theorem dX3_topsUp_74 : decode cX3_topsUp 74 = .ok (.ifCond .le 71, 3) := by decide +kernel
theorem dX3_topsUp_77 : decode cX3_topsUp 77 = .ok (.aload_n 0, 1) := by decide +kernel
theorem dX3_topsUp_78 : decode cX3_topsUp 78 = .ok (.iload_n 3, 1) := by decide +kernel
theorem dX3_topsUp_79 : decode cX3_topsUp 79 = .ok (.dload 6, 2) := by decide +kernel
theorem dX3_topsUp_81 : decode cX3_topsUp 81 = .ok (.aload_n 0, 1) := by decide +kernel
theorem dX3_topsUp_82 : decode cX3_topsUp 82 = .ok (.getfield 16, 3) := by decide +kernel
theorem dX3_topsUp_85 : decode cX3_topsUp 85 = .ok (.bipush 8, 2) := by decide +kernel
theorem dX3_topsUp_87 : decode cX3_topsUp 87 = .ok (.iload_n 3, 1) := by decide +kernel
theorem dX3_topsUp_88 : decode cX3_topsUp 88 = .ok (.iadd, 1) := by decide +kernel
theorem dX3_topsUp_89 : decode cX3_topsUp 89 = .ok (.iconst 1, 1) := by decide +kernel
theorem dX3_topsUp_90 : decode cX3_topsUp 90 = .ok (.isub, 1) := by decide +kernel
theorem dX3_topsUp_91 : decode cX3_topsUp 91 = .ok (.daload, 1) := by decide +kernel
theorem dX3_topsUp_92 : decode cX3_topsUp 92 = .ok (.aload_n 0, 1) := by decide +kernel
theorem dX3_topsUp_93 : decode cX3_topsUp 93 = .ok (.getfield 16, 3) := by decide +kernel
theorem dX3_topsUp_96 : decode cX3_topsUp 96 = .ok (.bipush 16, 2) := by decide +kernel
theorem dX3_topsUp_98 : decode cX3_topsUp 98 = .ok (.iload_n 3, 1) := by decide +kernel
theorem dX3_topsUp_99 : decode cX3_topsUp 99 = .ok (.iadd, 1) := by decide +kernel
theorem dX3_topsUp_100 : decode cX3_topsUp 100 = .ok (.iconst 1, 1) := by decide +kernel
theorem dX3_topsUp_101 : decode cX3_topsUp 101 = .ok (.isub, 1) := by decide +kernel
theorem dX3_topsUp_102 : decode cX3_topsUp 102 = .ok (.daload, 1) := by decide +kernel
theorem dX3_topsUp_103 : decode cX3_topsUp 103 = .ok (.aload_n 0, 1) := by decide +kernel
theorem dX3_topsUp_104 : decode cX3_topsUp 104 = .ok (.getfield 16, 3) := by decide +kernel
theorem dX3_topsUp_107 : decode cX3_topsUp 107 = .ok (.bipush 24, 2) := by decide +kernel
theorem dX3_topsUp_109 : decode cX3_topsUp 109 = .ok (.iload_n 3, 1) := by decide +kernel
theorem dX3_topsUp_110 : decode cX3_topsUp 110 = .ok (.iadd, 1) := by decide +kernel
theorem dX3_topsUp_111 : decode cX3_topsUp 111 = .ok (.iconst 1, 1) := by decide +kernel
theorem dX3_topsUp_112 : decode cX3_topsUp 112 = .ok (.isub, 1) := by decide +kernel
theorem dX3_topsUp_113 : decode cX3_topsUp 113 = .ok (.daload, 1) := by decide +kernel
theorem dX3_topsUp_114 : decode cX3_topsUp 114 = .ok (.invokevirtual 42, 3) := by decide +kernel
theorem dX3_topsUp_117 : decode cX3_topsUp 117 = .ok (.aload_n 0, 1) := by decide +kernel
theorem dX3_topsUp_118 : decode cX3_topsUp 118 = .ok (.getfield 16, 3) := by decide +kernel
theorem dX3_topsUp_121 : decode cX3_topsUp 121 = .ok (.iconst 0, 1) := by decide +kernel
theorem dX3_topsUp_122 : decode cX3_topsUp 122 = .ok (.iload_n 3, 1) := by decide +kernel
theorem dX3_topsUp_123 : decode cX3_topsUp 123 = .ok (.iadd, 1) := by decide +kernel
theorem dX3_topsUp_124 : decode cX3_topsUp 124 = .ok (.iconst 1, 1) := by decide +kernel
theorem dX3_topsUp_125 : decode cX3_topsUp 125 = .ok (.isub, 1) := by decide +kernel
theorem dX3_topsUp_126 : decode cX3_topsUp 126 = .ok (.aload_n 0, 1) := by decide +kernel
theorem dX3_topsUp_127 : decode cX3_topsUp 127 = .ok (.getfield 16, 3) := by decide +kernel
theorem dX3_topsUp_130 : decode cX3_topsUp 130 = .ok (.iconst 0, 1) := by decide +kernel
theorem dX3_topsUp_131 : decode cX3_topsUp 131 = .ok (.iload_n 3, 1) := by decide +kernel
theorem dX3_topsUp_132 : decode cX3_topsUp 132 = .ok (.iadd, 1) := by decide +kernel
theorem dX3_topsUp_133 : decode cX3_topsUp 133 = .ok (.iconst 1, 1) := by decide +kernel
theorem dX3_topsUp_134 : decode cX3_topsUp 134 = .ok (.isub, 1) := by decide +kernel
theorem dX3_topsUp_135 : decode cX3_topsUp 135 = .ok (.daload, 1) := by decide +kernel
theorem dX3_topsUp_136 : decode cX3_topsUp 136 = .ok (.dload 6, 2) := by decide +kernel
theorem dX3_topsUp_138 : decode cX3_topsUp 138 = .ok (.dsub, 1) := by decide +kernel
theorem dX3_topsUp_139 : decode cX3_topsUp 139 = .ok (.dastore, 1) := by decide +kernel
theorem dX3_topsUp_140 : decode cX3_topsUp 140 = .ok (.dload_n 1, 1) := by decide +kernel
theorem dX3_topsUp_141 : decode cX3_topsUp 141 = .ok (.dload 6, 2) := by decide +kernel
theorem dX3_topsUp_143 : decode cX3_topsUp 143 = .ok (.dadd, 1) := by decide +kernel
theorem dX3_topsUp_144 : decode cX3_topsUp 144 = .ok (.dstore_n 1, 1) := by decide +kernel
theorem dX3_topsUp_145 : decode cX3_topsUp 145 = .ok (.iinc 3 (-1), 3) := by decide +kernel
theorem dX3_topsUp_148 : decode cX3_topsUp 148 = .ok (.goto (-139), 3) := by decide +kernel
theorem dX3_topsUp_151 : decode cX3_topsUp 151 = .ok (.dload_n 1, 1) := by decide +kernel
theorem dX3_topsUp_152 : decode cX3_topsUp 152 = .ok (.dreturn, 1) := by decide +kernel
theorem dX3_share_0 : decode cX3_share 0 = .ok (.iload_n 0, 1) := by decide +kernel
theorem dX3_share_1 : decode cX3_share 1 = .ok (.ifCond .ne 9, 3) := by decide +kernel
theorem dX3_share_4 : decode cX3_share 4 = .ok (.ldc2_w 54, 3) := by decide +kernel
theorem dX3_share_7 : decode cX3_share 7 = .ok (.goto 28, 3) := by decide +kernel
theorem dX3_share_10 : decode cX3_share 10 = .ok (.iload_n 0, 1) := by decide +kernel
theorem dX3_share_11 : decode cX3_share 11 = .ok (.iconst 1, 1) := by decide +kernel
theorem dX3_share_12 : decode cX3_share 12 = .ok (.if_icmp .ne 9, 3) := by decide +kernel
theorem dX3_share_15 : decode cX3_share 15 = .ok (.ldc2_w 56, 3) := by decide +kernel
theorem dX3_share_18 : decode cX3_share 18 = .ok (.goto 17, 3) := by decide +kernel
theorem dX3_share_21 : decode cX3_share 21 = .ok (.iload_n 0, 1) := by decide +kernel
theorem dX3_share_22 : decode cX3_share 22 = .ok (.iconst 2, 1) := by decide +kernel
theorem dX3_share_23 : decode cX3_share 23 = .ok (.if_icmp .ne 9, 3) := by decide +kernel
theorem dX3_share_26 : decode cX3_share 26 = .ok (.ldc2_w 58, 3) := by decide +kernel
theorem dX3_share_29 : decode cX3_share 29 = .ok (.goto 6, 3) := by decide +kernel
theorem dX3_share_32 : decode cX3_share 32 = .ok (.ldc2_w 60, 3) := by decide +kernel
theorem dX3_share_35 : decode cX3_share 35 = .ok (.dreturn, 1) := by decide +kernel
theorem dX3_draught_0 : decode cX3_draught 0 = .ok (.dconst 1, 1) := by decide +kernel
theorem dX3_draught_1 : decode cX3_draught 1 = .ok (.ldc2_w 62, 3) := by decide +kernel
theorem dX3_draught_4 : decode cX3_draught 4 = .ok (.aload_n 0, 1) := by decide +kernel
theorem dX3_draught_5 : decode cX3_draught 5 = .ok (.getfield 23, 3) := by decide +kernel
theorem dX3_draught_8 : decode cX3_draught 8 = .ok (.bipush 18, 2) := by decide +kernel
theorem dX3_draught_10 : decode cX3_draught 10 = .ok (.isub, 1) := by decide +kernel
theorem dX3_draught_11 : decode cX3_draught 11 = .ok (.i2d, 1) := by decide +kernel
theorem dX3_draught_12 : decode cX3_draught 12 = .ok (.dmul, 1) := by decide +kernel
theorem dX3_draught_13 : decode cX3_draught 13 = .ok (.dadd, 1) := by decide +kernel
theorem dX3_draught_14 : decode cX3_draught 14 = .ok (.dstore_n 1, 1) := by decide +kernel
theorem dX3_draught_15 : decode cX3_draught 15 = .ok (.dload_n 1, 1) := by decide +kernel
theorem dX3_draught_16 : decode cX3_draught 16 = .ok (.ldc2_w 64, 3) := by decide +kernel
theorem dX3_draught_19 : decode cX3_draught 19 = .ok (.dcmp .g, 1) := by decide +kernel
theorem dX3_draught_20 : decode cX3_draught 20 = .ok (.ifCond .ge 9, 3) := by decide +kernel
theorem dX3_draught_23 : decode cX3_draught 23 = .ok (.ldc2_w 64, 3) := by decide +kernel
theorem dX3_draught_26 : decode cX3_draught 26 = .ok (.goto 4, 3) := by decide +kernel
theorem dX3_draught_29 : decode cX3_draught 29 = .ok (.dload_n 1, 1) := by decide +kernel
theorem dX3_draught_30 : decode cX3_draught 30 = .ok (.dreturn, 1) := by decide +kernel
set_option maxRecDepth 20000 in
theorem ggX3_ages_X3_share : GoodIn wsX3_ages wsX3_share := goodIn_r _ [13, 14, 15, 16, 17] (by decide +kernel) (by decide +kernel)
set_option maxRecDepth 20000 in
theorem gX3_ages_X3_share : GoodIn wsX3_ages (va_wsS RX3 66 yX3_share wsX3_share) := goodIn_app (goodIn_of _ (by decide +kernel)) ggX3_ages_X3_share
set_option maxRecDepth 20000 in
theorem ggX3_ages_X3_draught : GoodIn wsX3_ages wsX3_draught := goodIn_r _ [21, 22, 23, 24, 28, 29, 30, 31, 32, 33, 34, 35, 36, 37, 38, 39, 40] (by decide +kernel) (by decide +kernel)
set_option maxRecDepth 20000 in
theorem gX3_ages_X3_draught : GoodIn wsX3_ages (wsV RX3 70 RX3 yX3_draught wsX3_draught) := goodIn_app (goodIn_of _ (by decide +kernel)) ggX3_ages_X3_draught
set_option maxRecDepth 20000 in
theorem ggX3_ages_X3_lesser : GoodIn wsX3_ages wsX3_lesser := goodIn_r _ [27] (by decide +kernel) (by decide +kernel)
set_option maxRecDepth 20000 in
theorem gX3_ages_X3_lesser : GoodIn wsX3_ages (va_wsS RX3 50 yX3_lesser wsX3_lesser) := goodIn_app (goodIn_of _ (by decide +kernel)) ggX3_ages_X3_lesser
theorem dX3_ages_0 : decode cX3_ages 0 = .ok (.aload_n 0, 1) := by decide +kernel
theorem dX3_ages_1 : decode cX3_ages 1 = .ok (.getfield 16, 3) := by decide +kernel
theorem dX3_ages_4 : decode cX3_ages 4 = .ok (.iconst 0, 1) := by decide +kernel
theorem dX3_ages_5 : decode cX3_ages 5 = .ok (.iload_n 1, 1) := by decide +kernel
theorem dX3_ages_6 : decode cX3_ages 6 = .ok (.iadd, 1) := by decide +kernel
theorem dX3_ages_7 : decode cX3_ages 7 = .ok (.daload, 1) := by decide +kernel
theorem dX3_ages_8 : decode cX3_ages 8 = .ok (.dstore_n 2, 1) := by decide +kernel
theorem dX3_ages_9 : decode cX3_ages 9 = .ok (.dload_n 2, 1) := by decide +kernel
theorem dX3_ages_10 : decode cX3_ages 10 = .ok (.aload_n 0, 1) := by decide +kernel
theorem dX3_ages_11 : decode cX3_ages 11 = .ok (.getfield 7, 3) := by decide +kernel
theorem dX3_ages_14 : decode cX3_ages 14 = .ok (.iload_n 1, 1) := by decide +kernel
theorem dX3_ages_15 : decode cX3_ages 15 = .ok (.iaload, 1) := by decide +kernel
theorem dX3_ages_16 : decode cX3_ages 16 = .ok (.invokestatic 66, 3) := by decide +kernel
theorem dX3_ages_19 : decode cX3_ages 19 = .ok (.dmul, 1) := by decide +kernel
theorem dX3_ages_20 : decode cX3_ages 20 = .ok (.aload_n 0, 1) := by decide +kernel
theorem dX3_ages_21 : decode cX3_ages 21 = .ok (.invokevirtual 70, 3) := by decide +kernel
theorem dX3_ages_24 : decode cX3_ages 24 = .ok (.dmul, 1) := by decide +kernel
theorem dX3_ages_25 : decode cX3_ages 25 = .ok (.dstore 4, 2) := by decide +kernel
theorem dX3_ages_27 : decode cX3_ages 27 = .ok (.dload_n 2, 1) := by decide +kernel
theorem dX3_ages_28 : decode cX3_ages 28 = .ok (.dload 4, 2) := by decide +kernel
theorem dX3_ages_30 : decode cX3_ages 30 = .ok (.dsub, 1) := by decide +kernel
theorem dX3_ages_31 : decode cX3_ages 31 = .ok (.dstore 6, 2) := by decide +kernel
theorem dX3_ages_33 : decode cX3_ages 33 = .ok (.aload_n 0, 1) := by decide +kernel
theorem dX3_ages_34 : decode cX3_ages 34 = .ok (.getfield 16, 3) := by decide +kernel
theorem dX3_ages_37 : decode cX3_ages 37 = .ok (.iconst 0, 1) := by decide +kernel
theorem dX3_ages_38 : decode cX3_ages 38 = .ok (.iload_n 1, 1) := by decide +kernel
theorem dX3_ages_39 : decode cX3_ages 39 = .ok (.iadd, 1) := by decide +kernel
theorem dX3_ages_40 : decode cX3_ages 40 = .ok (.dload 6, 2) := by decide +kernel
theorem dX3_ages_42 : decode cX3_ages 42 = .ok (.dastore, 1) := by decide +kernel
theorem dX3_ages_43 : decode cX3_ages 43 = .ok (.aload_n 0, 1) := by decide +kernel
theorem dX3_ages_44 : decode cX3_ages 44 = .ok (.getfield 16, 3) := by decide +kernel
theorem dX3_ages_47 : decode cX3_ages 47 = .ok (.bipush 24, 2) := by decide +kernel
theorem dX3_ages_49 : decode cX3_ages 49 = .ok (.iload_n 1, 1) := by decide +kernel
theorem dX3_ages_50 : decode cX3_ages 50 = .ok (.iadd, 1) := by decide +kernel
theorem dX3_ages_51 : decode cX3_ages 51 = .ok (.aload_n 0, 1) := by decide +kernel
theorem dX3_ages_52 : decode cX3_ages 52 = .ok (.getfield 16, 3) := by decide +kernel
theorem dX3_ages_55 : decode cX3_ages 55 = .ok (.bipush 24, 2) := by decide +kernel
theorem dX3_ages_57 : decode cX3_ages 57 = .ok (.iload_n 1, 1) := by decide +kernel
theorem dX3_ages_58 : decode cX3_ages 58 = .ok (.iadd, 1) := by decide +kernel
theorem dX3_ages_59 : decode cX3_ages 59 = .ok (.daload, 1) := by decide +kernel
theorem dX3_ages_60 : decode cX3_ages 60 = .ok (.dload_n 2, 1) := by decide +kernel
theorem dX3_ages_61 : decode cX3_ages 61 = .ok (.dmul, 1) := by decide +kernel
theorem dX3_ages_62 : decode cX3_ages 62 = .ok (.dload 6, 2) := by decide +kernel
theorem dX3_ages_64 : decode cX3_ages 64 = .ok (.ddiv, 1) := by decide +kernel
theorem dX3_ages_65 : decode cX3_ages 65 = .ok (.ldc2_w 74, 3) := by decide +kernel
theorem dX3_ages_68 : decode cX3_ages 68 = .ok (.invokestatic 50, 3) := by decide +kernel
theorem dX3_ages_71 : decode cX3_ages 71 = .ok (.dastore, 1) := by decide +kernel
theorem dX3_ages_72 : decode cX3_ages 72 = .ok (.aload_n 0, 1) := by decide +kernel
theorem dX3_ages_73 : decode cX3_ages 73 = .ok (.getfield 16, 3) := by decide +kernel
theorem dX3_ages_76 : decode cX3_ages 76 = .ok (.bipush 24, 2) := by decide +kernel
theorem dX3_ages_78 : decode cX3_ages 78 = .ok (.iload_n 1, 1) := by decide +kernel
theorem dX3_ages_79 : decode cX3_ages 79 = .ok (.iadd, 1) := by decide +kernel
theorem dX3_ages_80 : decode cX3_ages 80 = .ok (.daload, 1) := by decide +kernel
theorem dX3_ages_81 : decode cX3_ages 81 = .ok (.ldc2_w 76, 3) := by decide +kernel
theorem dX3_ages_84 : decode cX3_ages 84 = .ok (.dcmp .l, 1) := by decide +kernel
theorem dX3_ages_85 : decode cX3_ages 85 = .ok (.ifCond .le 66, 3) := by decide +kernel
theorem dX3_ages_88 : decode cX3_ages 88 = .ok (.aload_n 0, 1) := by decide +kernel
theorem dX3_ages_89 : decode cX3_ages 89 = .ok (.getfield 16, 3) := by decide +kernel
theorem dX3_ages_92 : decode cX3_ages 92 = .ok (.bipush 16, 2) := by decide +kernel
theorem dX3_ages_94 : decode cX3_ages 94 = .ok (.iload_n 1, 1) := by decide +kernel
theorem dX3_ages_95 : decode cX3_ages 95 = .ok (.iadd, 1) := by decide +kernel
theorem dX3_ages_96 : decode cX3_ages 96 = .ok (.daload, 1) := by decide +kernel
theorem dX3_ages_97 : decode cX3_ages 97 = .ok (.ldc2_w 78, 3) := by decide +kernel
theorem dX3_ages_100 : decode cX3_ages 100 = .ok (.dcmp .g, 1) := by decide +kernel
theorem dX3_ages_101 : decode cX3_ages 101 = .ok (.ifCond .ge 50, 3) := by decide +kernel
theorem dX3_ages_104 : decode cX3_ages 104 = .ok (.aload_n 0, 1) := by decide +kernel
theorem dX3_ages_105 : decode cX3_ages 105 = .ok (.getfield 16, 3) := by decide +kernel
theorem dX3_ages_108 : decode cX3_ages 108 = .ok (.bipush 16, 2) := by decide +kernel
theorem dX3_ages_110 : decode cX3_ages 110 = .ok (.iload_n 1, 1) := by decide +kernel
theorem dX3_ages_111 : decode cX3_ages 111 = .ok (.iadd, 1) := by decide +kernel
theorem dX3_ages_112 : decode cX3_ages 112 = .ok (.aload_n 0, 1) := by decide +kernel
theorem dX3_ages_113 : decode cX3_ages 113 = .ok (.getfield 16, 3) := by decide +kernel
theorem dX3_ages_116 : decode cX3_ages 116 = .ok (.bipush 16, 2) := by decide +kernel
theorem dX3_ages_118 : decode cX3_ages 118 = .ok (.iload_n 1, 1) := by decide +kernel
theorem dX3_ages_119 : decode cX3_ages 119 = .ok (.iadd, 1) := by decide +kernel
theorem dX3_ages_120 : decode cX3_ages 120 = .ok (.daload, 1) := by decide +kernel
theorem dX3_ages_121 : decode cX3_ages 121 = .ok (.ldc2_w 80, 3) := by decide +kernel
theorem dX3_ages_124 : decode cX3_ages 124 = .ok (.dadd, 1) := by decide +kernel
theorem dX3_ages_125 : decode cX3_ages 125 = .ok (.dastore, 1) := by decide +kernel
theorem dX3_ages_126 : decode cX3_ages 126 = .ok (.aload_n 0, 1) := by decide +kernel
theorem dX3_ages_127 : decode cX3_ages 127 = .ok (.getfield 16, 3) := by decide +kernel
theorem dX3_ages_130 : decode cX3_ages 130 = .ok (.bipush 24, 2) := by decide +kernel
theorem dX3_ages_132 : decode cX3_ages 132 = .ok (.iload_n 1, 1) := by decide +kernel
theorem dX3_ages_133 : decode cX3_ages 133 = .ok (.iadd, 1) := by decide +kernel
theorem dX3_ages_134 : decode cX3_ages 134 = .ok (.aload_n 0, 1) := by decide +kernel
theorem dX3_ages_135 : decode cX3_ages 135 = .ok (.getfield 16, 3) := by decide +kernel
theorem dX3_ages_138 : decode cX3_ages 138 = .ok (.bipush 24, 2) := by decide +kernel
theorem dX3_ages_140 : decode cX3_ages 140 = .ok (.iload_n 1, 1) := by decide +kernel
theorem dX3_ages_141 : decode cX3_ages 141 = .ok (.iadd, 1) := by decide +kernel
theorem dX3_ages_142 : decode cX3_ages 142 = .ok (.daload, 1) := by decide +kernel
theorem dX3_ages_143 : decode cX3_ages 143 = .ok (.ldc2_w 82, 3) := by decide +kernel
theorem dX3_ages_146 : decode cX3_ages 146 = .ok (.dsub, 1) := by decide +kernel
theorem dX3_ages_147 : decode cX3_ages 147 = .ok (.dastore, 1) := by decide +kernel
theorem dX3_ages_148 : decode cX3_ages 148 = .ok (.goto 31, 3) := by decide +kernel
theorem dX3_ages_151 : decode cX3_ages 151 = .ok (.aload_n 0, 1) := by decide +kernel
theorem dX3_ages_152 : decode cX3_ages 152 = .ok (.getfield 16, 3) := by decide +kernel
theorem dX3_ages_155 : decode cX3_ages 155 = .ok (.bipush 16, 2) := by decide +kernel
theorem dX3_ages_157 : decode cX3_ages 157 = .ok (.iload_n 1, 1) := by decide +kernel
theorem dX3_ages_158 : decode cX3_ages 158 = .ok (.iadd, 1) := by decide +kernel
theorem dX3_ages_159 : decode cX3_ages 159 = .ok (.aload_n 0, 1) := by decide +kernel
theorem dX3_ages_160 : decode cX3_ages 160 = .ok (.getfield 16, 3) := by decide +kernel
theorem dX3_ages_163 : decode cX3_ages 163 = .ok (.bipush 16, 2) := by decide +kernel
theorem dX3_ages_165 : decode cX3_ages 165 = .ok (.iload_n 1, 1) := by decide +kernel
theorem dX3_ages_166 : decode cX3_ages 166 = .ok (.iadd, 1) := by decide +kernel
theorem dX3_ages_167 : decode cX3_ages 167 = .ok (.daload, 1) := by decide +kernel
theorem dX3_ages_168 : decode cX3_ages 168 = .ok (.ldc2_w 84, 3) := by decide +kernel
theorem dX3_ages_171 : decode cX3_ages 171 = .ok (.dadd, 1) := by decide +kernel
theorem dX3_ages_172 : decode cX3_ages 172 = .ok (.ldc2_w 86, 3) := by decide +kernel
theorem dX3_ages_175 : decode cX3_ages 175 = .ok (.invokestatic 50, 3) := by decide +kernel
theorem dX3_ages_178 : decode cX3_ages 178 = .ok (.dastore, 1) := by decide +kernel
theorem dX3_ages_179 : decode cX3_ages 179 = .ok (.aload_n 0, 1) := by decide +kernel
theorem dX3_ages_180 : decode cX3_ages 180 = .ok (.getfield 16, 3) := by decide +kernel
theorem dX3_ages_183 : decode cX3_ages 183 = .ok (.bipush 8, 2) := by decide +kernel
theorem dX3_ages_185 : decode cX3_ages 185 = .ok (.iload_n 1, 1) := by decide +kernel
theorem dX3_ages_186 : decode cX3_ages 186 = .ok (.iadd, 1) := by decide +kernel
theorem dX3_ages_187 : decode cX3_ages 187 = .ok (.aload_n 0, 1) := by decide +kernel
theorem dX3_ages_188 : decode cX3_ages 188 = .ok (.getfield 16, 3) := by decide +kernel
theorem dX3_ages_191 : decode cX3_ages 191 = .ok (.bipush 8, 2) := by decide +kernel
theorem dX3_ages_193 : decode cX3_ages 193 = .ok (.iload_n 1, 1) := by decide +kernel
theorem dX3_ages_194 : decode cX3_ages 194 = .ok (.iadd, 1) := by decide +kernel
theorem dX3_ages_195 : decode cX3_ages 195 = .ok (.daload, 1) := by decide +kernel
theorem dX3_ages_196 : decode cX3_ages 196 = .ok (.dconst 1, 1) := by decide +kernel
theorem dX3_ages_197 : decode cX3_ages 197 = .ok (.dadd, 1) := by decide +kernel
theorem dX3_ages_198 : decode cX3_ages 198 = .ok (.dastore, 1) := by decide +kernel
theorem dX3_ages_199 : decode cX3_ages 199 = .ok (.dload 4, 2) := by decide +kernel
theorem dX3_ages_201 : decode cX3_ages 201 = .ok (.dreturn, 1) := by decide +kernel
set_option maxRecDepth 20000 in
theorem ggX3_oldestNow_X3_isEmpty : GoodIn wsX3_oldestNow wsX3_isEmpty := goodIn_r _ [7, 2, 8, 9, 10, 11, 12, 13, 14, 15, 16, 17, 18, 19, 20] (by decide +kernel) (by decide +kernel)
set_option maxRecDepth 20000 in
theorem gX3_oldestNow_X3_isEmpty : GoodIn wsX3_oldestNow (wsV RX3 88 RX3 yX3_isEmpty wsX3_isEmpty) := goodIn_app (goodIn_of _ (by decide +kernel)) ggX3_oldestNow_X3_isEmpty
theorem dX3_oldestNow_0 : decode cX3_oldestNow 0 = .ok (.iconst (-1), 1) := by decide +kernel
theorem dX3_oldestNow_1 : decode cX3_oldestNow 1 = .ok (.istore_n 1, 1) := by decide +kernel
theorem dX3_oldestNow_2 : decode cX3_oldestNow 2 = .ok (.iconst 0, 1) := by decide +kernel
theorem dX3_oldestNow_3 : decode cX3_oldestNow 3 = .ok (.istore_n 2, 1) := by decide +kernel
theorem dX3_oldestNow_4 : decode cX3_oldestNow 4 = .ok (.iload_n 2, 1) := by decide +kernel
theorem dX3_oldestNow_5 : decode cX3_oldestNow 5 = .ok (.aload_n 0, 1) := by decide +kernel
theorem dX3_oldestNow_6 : decode cX3_oldestNow 6 = .ok (.getfield 33, 3) := by decide +kernel
theorem dX3_oldestNow_9 : decode cX3_oldestNow 9 = .ok (.if_icmp .ge 49, 3) := by decide +kernel
theorem dX3_oldestNow_12 : decode cX3_oldestNow 12 = .ok (.aload_n 0, 1) := by decide +kernel
theorem dX3_oldestNow_13 : decode cX3_oldestNow 13 = .ok (.iload_n 2, 1) := by decide +kernel
theorem dX3_oldestNow_14 : decode cX3_oldestNow 14 = .ok (.invokevirtual 88, 3) := by decide +kernel
theorem dX3_oldestNow_17 : decode cX3_oldestNow 17 = .ok (.ifCond .ne 33, 3) := by decide +kernel
theorem dX3_oldestNow_20 : decode cX3_oldestNow 20 = .ok (.iload_n 1, 1) := by decide +kernel
theorem dX3_oldestNow_21 : decode cX3_oldestNow 21 = .ok (.ifCond .lt 25, 3) := by decide +kernel
theorem dX3_oldestNow_24 : decode cX3_oldestNow 24 = .ok (.aload_n 0, 1) := by decide +kernel
theorem dX3_oldestNow_25 : decode cX3_oldestNow 25 = .ok (.getfield 16, 3) := by decide +kernel
theorem dX3_oldestNow_28 : decode cX3_oldestNow 28 = .ok (.bipush 8, 2) := by decide +kernel
theorem dX3_oldestNow_30 : decode cX3_oldestNow 30 = .ok (.iload_n 2, 1) := by decide +kernel
theorem dX3_oldestNow_31 : decode cX3_oldestNow 31 = .ok (.iadd, 1) := by decide +kernel
theorem dX3_oldestNow_32 : decode cX3_oldestNow 32 = .ok (.daload, 1) := by decide +kernel
theorem dX3_oldestNow_33 : decode cX3_oldestNow 33 = .ok (.aload_n 0, 1) := by decide +kernel
theorem dX3_oldestNow_34 : decode cX3_oldestNow 34 = .ok (.getfield 16, 3) := by decide +kernel
theorem dX3_oldestNow_37 : decode cX3_oldestNow 37 = .ok (.bipush 8, 2) := by decide +kernel
theorem dX3_oldestNow_39 : decode cX3_oldestNow 39 = .ok (.iload_n 1, 1) := by decide +kernel
theorem dX3_oldestNow_40 : decode cX3_oldestNow 40 = .ok (.iadd, 1) := by decide +kernel
theorem dX3_oldestNow_41 : decode cX3_oldestNow 41 = .ok (.daload, 1) := by decide +kernel
theorem dX3_oldestNow_42 : decode cX3_oldestNow 42 = .ok (.dcmp .l, 1) := by decide +kernel
theorem dX3_oldestNow_43 : decode cX3_oldestNow 43 = .ok (.ifCond .lt 7, 3) := by decide +kernel
theorem dX3_oldestNow_46 : decode cX3_oldestNow 46 = .ok (.iload_n 2, 1) := by decide +kernel
theorem dX3_oldestNow_47 : decode cX3_oldestNow 47 = .ok (.goto 4, 3) := by decide +kernel
theorem dX3_oldestNow_50 : decode cX3_oldestNow 50 = .ok (.iload_n 1, 1) := by decide +kernel
theorem dX3_oldestNow_51 : decode cX3_oldestNow 51 = .ok (.istore_n 1, 1) := by decide +kernel
theorem dX3_oldestNow_52 : decode cX3_oldestNow 52 = .ok (.iinc 2 1, 3) := by decide +kernel
theorem dX3_oldestNow_55 : decode cX3_oldestNow 55 = .ok (.goto (-51), 3) := by decide +kernel
theorem dX3_oldestNow_58 : decode cX3_oldestNow 58 = .ok (.iload_n 1, 1) := by decide +kernel
theorem dX3_oldestNow_59 : decode cX3_oldestNow 59 = .ok (.ireturn, 1) := by decide +kernel
set_option maxRecDepth 20000 in
theorem ggX3_passes_X3_isEmpty : GoodIn wsX3_passes wsX3_isEmpty := goodIn_r _ [11, 5, 45, 46, 47, 48, 49, 50, 51, 52, 53, 54, 55, 56, 57] (by decide +kernel) (by decide +kernel)
set_option maxRecDepth 20000 in
theorem gX3_passes_X3_isEmpty : GoodIn wsX3_passes (wsV RX3 88 RX3 yX3_isEmpty wsX3_isEmpty) := goodIn_app (goodIn_of _ (by decide +kernel)) ggX3_passes_X3_isEmpty
set_option maxRecDepth 20000 in
theorem ggX3_passes_X3_ages : GoodIn wsX3_passes wsX3_ages := goodIn_r _ [15, 5, 16, 17, 18, 19, 20, 21, 22, 23, 24, 25, 10, 26, 27, 28, 29, 30, 31, 32, 33, 34, 35, 36, 37, 38, 39, 40, 45, 46, 47, 48, 49, 50, 51, 52, 53, 54, 55, 56, 57] (by decide +kernel) (by decide +kernel)
set_option maxRecDepth 20000 in
theorem gX3_passes_X3_ages : GoodIn wsX3_passes (wsV RX3 92 RX3 yX3_ages wsX3_ages) := goodIn_app (goodIn_of _ (by decide +kernel)) ggX3_passes_X3_ages
set_option maxRecDepth 20000 in
theorem ggX3_passes_X3_oldestNow : GoodIn wsX3_passes wsX3_oldestNow := goodIn_r _ [44, 1, 5, 7, 8, 9, 10, 11, 45, 46, 47, 48, 49, 50, 51, 52, 53, 54, 55, 56, 57] (by decide +kernel) (by decide +kernel)
set_option maxRecDepth 20000 in
theorem gX3_passes_X3_oldestNow : GoodIn wsX3_passes (wsV RX3 98 RX3 yX3_oldestNow wsX3_oldestNow) := goodIn_app (goodIn_of _ (by decide +kernel)) ggX3_passes_X3_oldestNow
theorem dX3_passes_0 : decode cX3_passes 0 = .ok (.dconst 0, 1) := by decide +kernel
theorem dX3_passes_1 : decode cX3_passes 1 = .ok (.dstore_n 1, 1) := by decide +kernel
theorem dX3_passes_2 : decode cX3_passes 2 = .ok (.iconst 0, 1) := by decide +kernel
theorem dX3_passes_3 : decode cX3_passes 3 = .ok (.istore_n 3, 1) := by decide +kernel
theorem dX3_passes_4 : decode cX3_passes 4 = .ok (.iload_n 3, 1) := by decide +kernel
theorem dX3_passes_5 : decode cX3_passes 5 = .ok (.aload_n 0, 1) := by decide +kernel
theorem dX3_passes_6 : decode cX3_passes 6 = .ok (.getfield 33, 3) := by decide +kernel
theorem dX3_passes_9 : decode cX3_passes 9 = .ok (.if_icmp .ge 25, 3) := by decide +kernel
theorem dX3_passes_12 : decode cX3_passes 12 = .ok (.aload_n 0, 1) := by decide +kernel
theorem dX3_passes_13 : decode cX3_passes 13 = .ok (.iload_n 3, 1) := by decide +kernel
theorem dX3_passes_14 : decode cX3_passes 14 = .ok (.invokevirtual 88, 3) := by decide +kernel
theorem dX3_passes_17 : decode cX3_passes 17 = .ok (.ifCond .ne 11, 3) := by decide +kernel
theorem dX3_passes_20 : decode cX3_passes 20 = .ok (.dload_n 1, 1) := by decide +kernel
theorem dX3_passes_21 : decode cX3_passes 21 = .ok (.aload_n 0, 1) := by decide +kernel
theorem dX3_passes_22 : decode cX3_passes 22 = .ok (.iload_n 3, 1) := by decide +kernel
theorem dX3_passes_23 : decode cX3_passes 23 = .ok (.invokevirtual 92, 3) := by decide +kernel
theorem dX3_passes_26 : decode cX3_passes 26 = .ok (.dadd, 1) := by decide +kernel
theorem dX3_passes_27 : decode cX3_passes 27 = .ok (.dstore_n 1, 1) := by decide +kernel
theorem dX3_passes_28 : decode cX3_passes 28 = .ok (.iinc 3 1, 3) := by decide +kernel
theorem dX3_passes_31 : decode cX3_passes 31 = .ok (.goto (-27), 3) := by decide +kernel
theorem dX3_passes_34 : decode cX3_passes 34 = .ok (.aload_n 0, 1) := by decide +kernel
theorem dX3_passes_35 : decode cX3_passes 35 = .ok (.dup, 1) := by decide +kernel
theorem dX3_passes_36 : decode cX3_passes 36 = .ok (.getfield 95, 3) := by decide +kernel
