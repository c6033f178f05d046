theorem dX2_firstBottleIn_0 : decode cX2_firstBottleIn 0 = .ok (.aload_n 0, 1) := by decide +kernel
theorem dX2_firstBottleIn_1 : decode cX2_firstBottleIn 1 = .ok (.getfield 10, 3) := by decide +kernel
theorem dX2_firstBottleIn_4 : decode cX2_firstBottleIn 4 = .ok (.invokevirtual 68, 3) := by decide +kernel
theorem dX2_firstBottleIn_7 : decode cX2_firstBottleIn 7 = .ok (.ifCond .le 5, 3) := by decide +kernel
theorem dX2_firstBottleIn_10 : decode cX2_firstBottleIn 10 = .ok (.iconst 0, 1) := by decide +kernel
theorem dX2_firstBottleIn_11 : decode cX2_firstBottleIn 11 = .ok (.ireturn, 1) := by decide +kernel
theorem dX2_firstBottleIn_12 : decode cX2_firstBottleIn 12 = .ok (.aload_n 0, 1) := by decide +kernel
theorem dX2_firstBottleIn_13 : decode cX2_firstBottleIn 13 = .ok (.getfield 16, 3) := by decide +kernel
theorem dX2_firstBottleIn_16 : decode cX2_firstBottleIn 16 = .ok (.aload_n 0, 1) := by decide +kernel
theorem dX2_firstBottleIn_17 : decode cX2_firstBottleIn 17 = .ok (.getfield 10, 3) := by decide +kernel
theorem dX2_firstBottleIn_20 : decode cX2_firstBottleIn 20 = .ok (.invokevirtual 129, 3) := by decide +kernel
theorem dX2_firstBottleIn_23 : decode cX2_firstBottleIn 23 = .ok (.iconst 1, 1) := by decide +kernel
theorem dX2_firstBottleIn_24 : decode cX2_firstBottleIn 24 = .ok (.istore_n 1, 1) := by decide +kernel
theorem dX2_firstBottleIn_25 : decode cX2_firstBottleIn 25 = .ok (.iload_n 1, 1) := by decide +kernel
theorem dX2_firstBottleIn_26 : decode cX2_firstBottleIn 26 = .ok (.bipush 60, 2) := by decide +kernel
theorem dX2_firstBottleIn_28 : decode cX2_firstBottleIn 28 = .ok (.if_icmp .gt 47, 3) := by decide +kernel
theorem dX2_firstBottleIn_31 : decode cX2_firstBottleIn 31 = .ok (.aload_n 0, 1) := by decide +kernel
theorem dX2_firstBottleIn_32 : decode cX2_firstBottleIn 32 = .ok (.getfield 16, 3) := by decide +kernel
theorem dX2_firstBottleIn_35 : decode cX2_firstBottleIn 35 = .ok (.bipush 100, 2) := by decide +kernel
theorem dX2_firstBottleIn_37 : decode cX2_firstBottleIn 37 = .ok (.invokevirtual 55, 3) := by decide +kernel
theorem dX2_firstBottleIn_40 : decode cX2_firstBottleIn 40 = .ok (.pop2, 1) := by decide +kernel
theorem dX2_firstBottleIn_41 : decode cX2_firstBottleIn 41 = .ok (.aload_n 0, 1) := by decide +kernel
theorem dX2_firstBottleIn_42 : decode cX2_firstBottleIn 42 = .ok (.getfield 16, 3) := by decide +kernel
theorem dX2_firstBottleIn_45 : decode cX2_firstBottleIn 45 = .ok (.invokevirtual 59, 3) := by decide +kernel
theorem dX2_firstBottleIn_48 : decode cX2_firstBottleIn 48 = .ok (.pop2, 1) := by decide +kernel
theorem dX2_firstBottleIn_49 : decode cX2_firstBottleIn 49 = .ok (.aload_n 0, 1) := by decide +kernel
theorem dX2_firstBottleIn_50 : decode cX2_firstBottleIn 50 = .ok (.getfield 16, 3) := by decide +kernel
theorem dX2_firstBottleIn_53 : decode cX2_firstBottleIn 53 = .ok (.invokevirtual 63, 3) := by decide +kernel
theorem dX2_firstBottleIn_56 : decode cX2_firstBottleIn 56 = .ok (.pop2, 1) := by decide +kernel
theorem dX2_firstBottleIn_57 : decode cX2_firstBottleIn 57 = .ok (.aload_n 0, 1) := by decide +kernel
theorem dX2_firstBottleIn_58 : decode cX2_firstBottleIn 58 = .ok (.getfield 16, 3) := by decide +kernel
theorem dX2_firstBottleIn_61 : decode cX2_firstBottleIn 61 = .ok (.invokevirtual 68, 3) := by decide +kernel
theorem dX2_firstBottleIn_64 : decode cX2_firstBottleIn 64 = .ok (.ifCond .le 5, 3) := by decide +kernel
theorem dX2_firstBottleIn_67 : decode cX2_firstBottleIn 67 = .ok (.iload_n 1, 1) := by decide +kernel
theorem dX2_firstBottleIn_68 : decode cX2_firstBottleIn 68 = .ok (.ireturn, 1) := by decide +kernel
theorem dX2_firstBottleIn_69 : decode cX2_firstBottleIn 69 = .ok (.iinc 1 1, 3) := by decide +kernel
theorem dX2_firstBottleIn_72 : decode cX2_firstBottleIn 72 = .ok (.goto (-47), 3) := by decide +kernel
theorem dX2_firstBottleIn_75 : decode cX2_firstBottleIn 75 = .ok (.iconst (-1), 1) := by decide +kernel
theorem dX2_firstBottleIn_76 : decode cX2_firstBottleIn 76 = .ok (.ireturn, 1) := by decide +kernel
theorem dX2_barrelNumbered_0 : decode cX2_barrelNumbered 0 = .ok (.iload_n 1, 1) := by decide +kernel
theorem dX2_barrelNumbered_1 : decode cX2_barrelNumbered 1 = .ok (.ifCond .lt 14, 3) := by decide +kernel
theorem dX2_barrelNumbered_4 : decode cX2_barrelNumbered 4 = .ok (.iload_n 1, 1) := by decide +kernel
theorem dX2_barrelNumbered_5 : decode cX2_barrelNumbered 5 = .ok (.aload_n 0, 1) := by decide +kernel
theorem dX2_barrelNumbered_6 : decode cX2_barrelNumbered 6 = .ok (.getfield 10, 3) := by decide +kernel
theorem dX2_barrelNumbered_9 : decode cX2_barrelNumbered 9 = .ok (.getfield 100, 3) := by decide +kernel
theorem dX2_barrelNumbered_12 : decode cX2_barrelNumbered 12 = .ok (.if_icmp .lt 13, 3) := by decide +kernel
theorem dX2_barrelNumbered_15 : decode cX2_barrelNumbered 15 = .ok (.new 133, 3) := by decide +kernel
theorem dX2_barrelNumbered_18 : decode cX2_barrelNumbered 18 = .ok (.dup, 1) := by decide +kernel
theorem dX2_barrelNumbered_19 : decode cX2_barrelNumbered 19 = .ok (.ldc 135, 2) := by decide +kernel
theorem dX2_barrelNumbered_21 : decode cX2_barrelNumbered 21 = .ok (.invokespecial 137, 3) := by decide +kernel
theorem dX2_barrelNumbered_24 : decode cX2_barrelNumbered 24 = .ok (.athrow, 1) := by decide +kernel
theorem dX2_barrelNumbered_25 : decode cX2_barrelNumbered 25 = .ok (.aload_n 0, 1) := by decide +kernel
theorem dX2_barrelNumbered_26 : decode cX2_barrelNumbered 26 = .ok (.getfield 10, 3) := by decide +kernel
theorem dX2_barrelNumbered_29 : decode cX2_barrelNumbered 29 = .ok (.getfield 138, 3) := by decide +kernel
theorem dX2_barrelNumbered_32 : decode cX2_barrelNumbered 32 = .ok (.iload_n 1, 1) := by decide +kernel
theorem dX2_barrelNumbered_33 : decode cX2_barrelNumbered 33 = .ok (.aaload, 1) := by decide +kernel
theorem dX2_barrelNumbered_34 : decode cX2_barrelNumbered 34 = .ok (.areturn, 1) := by decide +kernel
theorem dX2_kindAt_0 : decode cX2_kindAt 0 = .ok (.dload_n 0, 1) := by decide +kernel
theorem dX2_kindAt_1 : decode cX2_kindAt 1 = .ok (.ldc2_w 142, 3) := by decide +kernel
theorem dX2_kindAt_4 : decode cX2_kindAt 4 = .ok (.dcmp .g, 1) := by decide +kernel
theorem dX2_kindAt_5 : decode cX2_kindAt 5 = .ok (.ifCond .ge 5, 3) := by decide +kernel
theorem dX2_kindAt_8 : decode cX2_kindAt 8 = .ok (.iconst 0, 1) := by decide +kernel
theorem dX2_kindAt_9 : decode cX2_kindAt 9 = .ok (.ireturn, 1) := by decide +kernel
theorem dX2_kindAt_10 : decode cX2_kindAt 10 = .ok (.dload_n 0, 1) := by decide +kernel
theorem dX2_kindAt_11 : decode cX2_kindAt 11 = .ok (.ldc2_w 144, 3) := by decide +kernel
theorem dX2_kindAt_14 : decode cX2_kindAt 14 = .ok (.dcmp .g, 1) := by decide +kernel
theorem dX2_kindAt_15 : decode cX2_kindAt 15 = .ok (.ifCond .ge 7, 3) := by decide +kernel
theorem dX2_kindAt_18 : decode cX2_kindAt 18 = .ok (.iconst 1, 1) := by decide +kernel
theorem dX2_kindAt_19 : decode cX2_kindAt 19 = .ok (.goto 4, 3) := by decide +kernel
theorem dX2_kindAt_22 : decode cX2_kindAt 22 = .ok (.iconst 2, 1) := by decide +kernel
theorem dX2_kindAt_23 : decode cX2_kindAt 23 = .ok (.ireturn, 1) := by decide +kernel
theorem dL_drawn_0 : decode cL_drawn 0 = .ok (.iload_n 1, 1) := by decide +kernel
theorem dL_drawn_1 : decode cL_drawn 1 = .ok (.aload_n 0, 1) := by decide +kernel
theorem dL_drawn_2 : decode cL_drawn 2 = .ok (.arraylength, 1) := by decide +kernel
theorem dL_drawn_3 : decode cL_drawn 3 = .ok (.if_icmp .ge 9, 3) := by decide +kernel
theorem dL_drawn_6 : decode cL_drawn 6 = .ok (.aload_n 0, 1) := by decide +kernel
theorem dL_drawn_7 : decode cL_drawn 7 = .ok (.iload_n 1, 1) := by decide +kernel
theorem dL_drawn_8 : decode cL_drawn 8 = .ok (.iaload, 1) := by decide +kernel
theorem dL_drawn_9 : decode cL_drawn 9 = .ok (.goto 11, 3) := by decide +kernel
theorem dL_drawn_12 : decode cL_drawn 12 = .ok (.ldc 7, 2) := by decide +kernel
theorem dL_drawn_14 : decode cL_drawn 14 = .ok (.iload_n 1, 1) := by decide +kernel
theorem dL_drawn_15 : decode cL_drawn 15 = .ok (.imul, 1) := by decide +kernel
theorem dL_drawn_16 : decode cL_drawn 16 = .ok (.sipush 2593, 3) := by decide +kernel
theorem dL_drawn_19 : decode cL_drawn 19 = .ok (.iadd, 1) := by decide +kernel
theorem dL_drawn_20 : decode cL_drawn 20 = .ok (.istore_n 3, 1) := by decide +kernel
theorem dL_drawn_21 : decode cL_drawn 21 = .ok (.iload_n 3, 1) := by decide +kernel
theorem dL_drawn_22 : decode cL_drawn 22 = .ok (.iconst 1, 1) := by decide +kernel
theorem dL_drawn_23 : decode cL_drawn 23 = .ok (.iushr, 1) := by decide +kernel
theorem dL_drawn_24 : decode cL_drawn 24 = .ok (.iload_n 2, 1) := by decide +kernel
theorem dL_drawn_25 : decode cL_drawn 25 = .ok (.irem, 1) := by decide +kernel
theorem dL_drawn_26 : decode cL_drawn 26 = .ok (.ireturn, 1) := by decide +kernel
theorem dL_isNear_0 : decode cL_isNear 0 = .ok (.dload_n 0, 1) := by decide +kernel
theorem dL_isNear_1 : decode cL_isNear 1 = .ok (.dload_n 2, 1) := by decide +kernel
theorem dL_isNear_2 : decode cL_isNear 2 = .ok (.dcmp .l, 1) := by decide +kernel
theorem dL_isNear_3 : decode cL_isNear 3 = .ok (.ifCond .le 9, 3) := by decide +kernel
theorem dL_isNear_6 : decode cL_isNear 6 = .ok (.dload_n 0, 1) := by decide +kernel
theorem dL_isNear_7 : decode cL_isNear 7 = .ok (.dload_n 2, 1) := by decide +kernel
theorem dL_isNear_8 : decode cL_isNear 8 = .ok (.dsub, 1) := by decide +kernel
theorem dL_isNear_9 : decode cL_isNear 9 = .ok (.goto 6, 3) := by decide +kernel
theorem dL_isNear_12 : decode cL_isNear 12 = .ok (.dload_n 2, 1) := by decide +kernel
theorem dL_isNear_13 : decode cL_isNear 13 = .ok (.dload_n 0, 1) := by decide +kernel
theorem dL_isNear_14 : decode cL_isNear 14 = .ok (.dsub, 1) := by decide +kernel
theorem dL_isNear_15 : decode cL_isNear 15 = .ok (.dstore 4, 2) := by decide +kernel
theorem dL_isNear_17 : decode cL_isNear 17 = .ok (.dload_n 0, 1) := by decide +kernel
theorem dL_isNear_18 : decode cL_isNear 18 = .ok (.dconst 1, 1) := by decide +kernel
theorem dL_isNear_19 : decode cL_isNear 19 = .ok (.dcmp .l, 1) := by decide +kernel
theorem dL_isNear_20 : decode cL_isNear 20 = .ok (.ifCond .le 7, 3) := by decide +kernel
theorem dL_isNear_23 : decode cL_isNear 23 = .ok (.dload_n 0, 1) := by decide +kernel
theorem dL_isNear_24 : decode cL_isNear 24 = .ok (.goto 4, 3) := by decide +kernel
theorem dL_isNear_27 : decode cL_isNear 27 = .ok (.dconst 1, 1) := by decide +kernel
theorem dL_isNear_28 : decode cL_isNear 28 = .ok (.dstore 6, 2) := by decide +kernel
theorem dL_isNear_30 : decode cL_isNear 30 = .ok (.dload 4, 2) := by decide +kernel
theorem dL_isNear_32 : decode cL_isNear 32 = .ok (.ldc2_w 8, 3) := by decide +kernel
theorem dL_isNear_35 : decode cL_isNear 35 = .ok (.dload 6, 2) := by decide +kernel
theorem dL_isNear_37 : decode cL_isNear 37 = .ok (.dmul, 1) := by decide +kernel
theorem dL_isNear_38 : decode cL_isNear 38 = .ok (.dcmp .g, 1) := by decide +kernel
theorem dL_isNear_39 : decode cL_isNear 39 = .ok (.ifCond .ge 7, 3) := by decide +kernel
theorem dL_isNear_42 : decode cL_isNear 42 = .ok (.iconst 1, 1) := by decide +kernel
theorem dL_isNear_43 : decode cL_isNear 43 = .ok (.goto 4, 3) := by decide +kernel
theorem dL_isNear_46 : decode cL_isNear 46 = .ok (.iconst 0, 1) := by decide +kernel
theorem dL_isNear_47 : decode cL_isNear 47 = .ok (.ireturn, 1) := by decide +kernel
set_option maxRecDepth 20000 in
theorem ggL_litres_X2_barrels : GoodIn wsL_litres wsX2_barrels := goodIn_r _ [5, 6, 7, 20, 21, 22, 23, 24, 25, 26, 27, 28] (by decide +kernel) (by decide +kernel)
set_option maxRecDepth 20000 in
theorem gL_litres_X2_barrels : GoodIn wsL_litres (wsV RL 10 RX2 yX2_barrels wsX2_barrels) := goodIn_app (goodIn_of _ (by decide +kernel)) ggL_litres_X2_barrels
set_option maxRecDepth 20000 in
theorem ggL_litres_X2_litresIn : GoodIn wsL_litres wsX2_litresIn := goodIn_ca (goodIn_r _ [11, 12, 13, 14, 15, 4, 16, 17, 18, 6, 7, 19, 29, 30, 31, 32, 33, 34, 20, 21, 22, 23, 24, 25, 26, 27, 28] (by decide +kernel) (by decide +kernel)) (goodIn_sub (fun _ h => List.mem_cons_of_mem _ (List.mem_append_right _ h)) (by decide +kernel))
set_option maxRecDepth 20000 in
theorem gL_litres_X2_litresIn : GoodIn wsL_litres (wsV RL 16 RX2 yX2_litresIn wsX2_litresIn) := goodIn_app (goodIn_of _ (by decide +kernel)) ggL_litres_X2_litresIn
theorem dL_litres_0 : decode cL_litres 0 = .ok (.dconst 0, 1) := by decide +kernel
theorem dL_litres_1 : decode cL_litres 1 = .ok (.dstore_n 1, 1) := by decide +kernel
theorem dL_litres_2 : decode cL_litres 2 = .ok (.iconst 0, 1) := by decide +kernel
theorem dL_litres_3 : decode cL_litres 3 = .ok (.istore_n 3, 1) := by decide +kernel
theorem dL_litres_4 : decode cL_litres 4 = .ok (.iload_n 3, 1) := by decide +kernel
theorem dL_litres_5 : decode cL_litres 5 = .ok (.aload_n 0, 1) := by decide +kernel
theorem dL_litres_6 : decode cL_litres 6 = .ok (.invokevirtual 10, 3) := by decide +kernel
theorem dL_litres_9 : decode cL_litres 9 = .ok (.if_icmp .ge 17, 3) := by decide +kernel
theorem dL_litres_12 : decode cL_litres 12 = .ok (.dload_n 1, 1) := by decide +kernel
theorem dL_litres_13 : decode cL_litres 13 = .ok (.aload_n 0, 1) := by decide +kernel
theorem dL_litres_14 : decode cL_litres 14 = .ok (.iload_n 3, 1) := by decide +kernel
theorem dL_litres_15 : decode cL_litres 15 = .ok (.invokevirtual 16, 3) := by decide +kernel
theorem dL_litres_18 : decode cL_litres 18 = .ok (.dadd, 1) := by decide +kernel
theorem dL_litres_19 : decode cL_litres 19 = .ok (.dstore_n 1, 1) := by decide +kernel
theorem dL_litres_20 : decode cL_litres 20 = .ok (.iinc 3 1, 3) := by decide +kernel
theorem dL_litres_23 : decode cL_litres 23 = .ok (.goto (-19), 3) := by decide +kernel
theorem dL_litres_26 : decode cL_litres 26 = .ok (.dload_n 1, 1) := by decide +kernel
theorem dL_litres_27 : decode cL_litres 27 = .ok (.dreturn, 1) := by decide +kernel
set_option maxRecDepth 20000 in
theorem ggL_acid_X2_barrels : GoodIn wsL_acid wsX2_barrels := goodIn_r _ [5, 6, 7, 25, 26, 27, 28, 29, 30, 31, 32, 33] (by decide +kernel) (by decide +kernel)
set_option maxRecDepth 20000 in
theorem gL_acid_X2_barrels : GoodIn wsL_acid (wsV RL 10 RX2 yX2_barrels wsX2_barrels) := goodIn_app (goodIn_of _ (by decide +kernel)) ggL_acid_X2_barrels
set_option maxRecDepth 20000 in
theorem ggL_acid_X2_litresIn : GoodIn wsL_acid wsX2_litresIn := goodIn_ca (goodIn_r _ [11, 12, 13, 14, 15, 4, 16, 17, 18, 6, 7, 19, 34, 35, 36, 37, 38, 39, 25, 26, 27, 28, 29, 30, 31, 32, 33] (by decide +kernel) (by decide +kernel)) (goodIn_sub (fun _ h => List.mem_cons_of_mem _ (List.mem_append_right _ h)) (by decide +kernel))
set_option maxRecDepth 20000 in
theorem gL_acid_X2_litresIn : GoodIn wsL_acid (wsV RL 16 RX2 yX2_litresIn wsX2_litresIn) := goodIn_app (goodIn_of _ (by decide +kernel)) ggL_acid_X2_litresIn
set_option maxRecDepth 20000 in
theorem ggL_acid_X2_acidOf : GoodIn wsL_acid wsX2_acidOf := goodIn_ca (goodIn_r _ [23, 24, 13, 14, 15, 4, 16, 17, 18, 6, 7, 19, 34, 35, 36, 37, 38, 39, 25, 26, 27, 28, 29, 30, 31, 32, 33] (by decide +kernel) (by decide +kernel)) (goodIn_sub (fun _ h => List.mem_cons_of_mem _ (List.mem_append_right _ h)) (by decide +kernel))
set_option maxRecDepth 20000 in
theorem gL_acid_X2_acidOf : GoodIn wsL_acid (wsV RL 20 RX2 yX2_acidOf wsX2_acidOf) := goodIn_app (goodIn_of _ (by decide +kernel)) ggL_acid_X2_acidOf
theorem dL_acid_0 : decode cL_acid 0 = .ok (.dconst 0, 1) := by decide +kernel
theorem dL_acid_1 : decode cL_acid 1 = .ok (.dstore_n 1, 1) := by decide +kernel
theorem dL_acid_2 : decode cL_acid 2 = .ok (.iconst 0, 1) := by decide +kernel
theorem dL_acid_3 : decode cL_acid 3 = .ok (.istore_n 3, 1) := by decide +kernel
theorem dL_acid_4 : decode cL_acid 4 = .ok (.iload_n 3, 1) := by decide +kernel
theorem dL_acid_5 : decode cL_acid 5 = .ok (.aload_n 0, 1) := by decide +kernel
theorem dL_acid_6 : decode cL_acid 6 = .ok (.invokevirtual 10, 3) := by decide +kernel
theorem dL_acid_9 : decode cL_acid 9 = .ok (.if_icmp .ge 23, 3) := by decide +kernel
theorem dL_acid_12 : decode cL_acid 12 = .ok (.dload_n 1, 1) := by decide +kernel
theorem dL_acid_13 : decode cL_acid 13 = .ok (.aload_n 0, 1) := by decide +kernel
theorem dL_acid_14 : decode cL_acid 14 = .ok (.iload_n 3, 1) := by decide +kernel
theorem dL_acid_15 : decode cL_acid 15 = .ok (.invokevirtual 16, 3) := by decide +kernel
theorem dL_acid_18 : decode cL_acid 18 = .ok (.aload_n 0, 1) := by decide +kernel
theorem dL_acid_19 : decode cL_acid 19 = .ok (.iload_n 3, 1) := by decide +kernel
theorem dL_acid_20 : decode cL_acid 20 = .ok (.invokevirtual 20, 3) := by decide +kernel
theorem dL_acid_23 : decode cL_acid 23 = .ok (.dmul, 1) := by decide +kernel
theorem dL_acid_24 : decode cL_acid 24 = .ok (.dadd, 1) := by decide +kernel
theorem dL_acid_25 : decode cL_acid 25 = .ok (.dstore_n 1, 1) := by decide +kernel
theorem dL_acid_26 : decode cL_acid 26 = .ok (.iinc 3 1, 3) := by decide +kernel
theorem dL_acid_29 : decode cL_acid 29 = .ok (.goto (-25), 3) := by decide +kernel
theorem dL_acid_32 : decode cL_acid 32 = .ok (.dload_n 1, 1) := by decide +kernel
theorem dL_acid_33 : decode cL_acid 33 = .ok (.dreturn, 1) := by decide +kernel
set_option maxRecDepth 20000 in
theorem ggL_isMoved_L_litres : GoodIn wsL_isMoved wsL_litres := goodIn_ca (goodIn_r _ [5, 6, 7, 8, 9, 10, 11, 12, 13, 14, 15, 16, 17, 18, 19, 20, 21, 22, 23, 24, 113, 114, 115, 116, 117, 118, 119, 120, 121, 122, 123, 124, 125, 126, 127] (by decide +kernel) (by decide +kernel)) (goodIn_sub (fun _ h => List.mem_cons_of_mem _ (List.mem_append_right _ h)) (by decide +kernel))
set_option maxRecDepth 20000 in
theorem gL_isMoved_L_litres : GoodIn wsL_isMoved (va_wsS RL 23 yL_litres wsL_litres) := goodIn_app (goodIn_of _ (by decide +kernel)) ggL_isMoved_L_litres
set_option maxRecDepth 20000 in
theorem ggL_isMoved_L_acid : GoodIn wsL_isMoved wsL_acid := goodIn_ca (goodIn_r _ [27, 6, 7, 8, 9, 10, 11, 12, 13, 14, 15, 16, 17, 18, 19, 20, 21, 22, 23, 24, 28, 29, 30, 31, 32, 113, 114, 115, 116, 117, 118, 119, 120, 121, 122, 123, 124, 125, 126, 127] (by decide +kernel) (by decide +kernel)) (goodIn_sub (fun _ h => List.mem_cons_of_mem _ (List.mem_append_right _ h)) (by decide +kernel))
set_option maxRecDepth 20000 in
theorem gL_isMoved_L_acid : GoodIn wsL_isMoved (va_wsS RL 29 yL_acid wsL_acid) := goodIn_app (goodIn_of _ (by decide +kernel)) ggL_isMoved_L_acid
set_option maxRecDepth 20000 in
theorem ggL_isMoved_X2_meanAge : GoodIn wsL_isMoved wsX2_meanAge := goodIn_r _ [36, 11, 37, 38, 39, 40, 41, 42, 43, 44, 45, 46, 47, 48, 49, 113, 114, 115, 116, 117, 118, 119, 120, 121, 122, 123, 124, 125, 126, 127] (by decide +kernel) (by decide +kernel)
set_option maxRecDepth 20000 in
theorem gL_isMoved_X2_meanAge : GoodIn wsL_isMoved (wsV RL 32 RX2 yX2_meanAge wsX2_meanAge) := goodIn_app (goodIn_of _ (by decide +kernel)) ggL_isMoved_X2_meanAge
set_option maxRecDepth 20000 in
theorem ggL_isMoved_X2_meanSugar : GoodIn wsL_isMoved wsX2_meanSugar := goodIn_r _ [53, 11, 37, 38, 39, 40, 41, 42, 43, 44, 54, 55, 56, 57, 58, 113, 114, 115, 116, 117, 118, 119, 120, 121, 122, 123, 124, 125, 126, 127] (by decide +kernel) (by decide +kernel)
set_option maxRecDepth 20000 in
theorem gL_isMoved_X2_meanSugar : GoodIn wsL_isMoved (wsV RL 36 RX2 yX2_meanSugar wsX2_meanSugar) := goodIn_app (goodIn_of _ (by decide +kernel)) ggL_isMoved_X2_meanSugar
set_option maxRecDepth 20000 in
theorem ggL_isMoved_X2_litresIn : GoodIn wsL_isMoved wsX2_litresIn := goodIn_ca (goodIn_r _ [16, 17, 18, 19, 20, 9, 21, 22, 23, 11, 12, 24, 122, 123, 124, 125, 126, 127, 113, 114, 115, 116, 117, 118, 119, 120, 121] (by decide +kernel) (by decide +kernel)) (goodIn_sub (fun _ h => List.mem_cons_of_mem _ (List.mem_append_right _ h)) (by decide +kernel))
set_option maxRecDepth 20000 in
theorem gL_isMoved_X2_litresIn : GoodIn wsL_isMoved (wsV RL 16 RX2 yX2_litresIn wsX2_litresIn) := goodIn_app (goodIn_of _ (by decide +kernel)) ggL_isMoved_X2_litresIn
set_option maxRecDepth 20000 in
theorem ggL_isMoved_X2_tasteOf : GoodIn wsL_isMoved wsX2_tasteOf := goodIn_ca (goodIn_r _ [62, 18, 19, 20, 9, 21, 22, 23, 11, 12, 24, 63, 64, 65, 66, 67, 68, 69, 70, 71, 72, 73, 74, 75, 76, 77, 78, 79, 113, 114, 115, 116, 117, 118, 119, 120, 121, 122, 123, 124, 125, 126, 127] (by decide +kernel) (by decide +kernel)) (goodIn_sub (fun _ h => List.mem_cons_of_mem _ (List.mem_append_right _ h)) (by decide +kernel))
set_option maxRecDepth 20000 in
theorem gL_isMoved_X2_tasteOf : GoodIn wsL_isMoved (wsV RL 39 RX2 yX2_tasteOf wsX2_tasteOf) := goodIn_app (goodIn_of _ (by decide +kernel)) ggL_isMoved_X2_tasteOf
set_option maxRecDepth 20000 in
theorem ggL_isMoved_X2_topUp : GoodIn wsL_isMoved wsX2_topUp := goodIn_r _ [83, 11, 84, 85, 86, 40, 87, 42, 43, 88, 89, 90, 91, 92, 44, 93, 49, 94, 58, 95, 96, 97, 66, 98, 79, 71, 68, 73, 99, 100, 101, 102, 103, 104, 105, 106, 107, 108, 109, 113, 114, 115, 116, 117, 118, 119, 120, 121, 122, 123, 124, 125, 126, 127] (by decide +kernel) (by decide +kernel)
set_option maxRecDepth 20000 in
theorem gL_isMoved_X2_topUp : GoodIn wsL_isMoved (wsV RL 42 RX2 yX2_topUp wsX2_topUp) := goodIn_app (goodIn_of _ (by decide +kernel)) ggL_isMoved_X2_topUp
set_option maxRecDepth 20000 in
theorem ggL_isMoved_L_isNear : GoodIn wsL_isMoved wsL_isNear := goodIn_r _ [112, 1] (by decide +kernel) (by decide +kernel)
set_option maxRecDepth 20000 in
theorem gL_isMoved_L_isNear : GoodIn wsL_isMoved (va_wsS RL 45 yL_isNear wsL_isNear) := goodIn_app (goodIn_of _ (by decide +kernel)) ggL_isMoved_L_isNear
theorem dL_isMoved_0 : decode cL_isMoved 0 = .ok (.aload_n 0, 1) := by decide +kernel
theorem dL_isMoved_1 : decode cL_isMoved 1 = .ok (.invokestatic 23, 3) := by decide +kernel
theorem dL_isMoved_4 : decode cL_isMoved 4 = .ok (.dstore_n 1, 1) := by decide +kernel
theorem dL_isMoved_5 : decode cL_isMoved 5 = .ok (.aload_n 0, 1) := by decide +kernel
theorem dL_isMoved_6 : decode cL_isMoved 6 = .ok (.invokestatic 29, 3) := by decide +kernel
theorem dL_isMoved_9 : decode cL_isMoved 9 = .ok (.dstore_n 3, 1) := by decide +kernel
theorem dL_isMoved_10 : decode cL_isMoved 10 = .ok (.aload_n 0, 1) := by decide +kernel
theorem dL_isMoved_11 : decode cL_isMoved 11 = .ok (.invokevirtual 32, 3) := by decide +kernel
theorem dL_isMoved_14 : decode cL_isMoved 14 = .ok (.dstore 5, 2) := by decide +kernel
theorem dL_isMoved_16 : decode cL_isMoved 16 = .ok (.aload_n 0, 1) := by decide +kernel
theorem dL_isMoved_17 : decode cL_isMoved 17 = .ok (.invokevirtual 36, 3) := by decide +kernel
theorem dL_isMoved_20 : decode cL_isMoved 20 = .ok (.dstore 7, 2) := by decide +kernel
theorem dL_isMoved_22 : decode cL_isMoved 22 = .ok (.aload_n 0, 1) := by decide +kernel
theorem dL_isMoved_23 : decode cL_isMoved 23 = .ok (.iconst 0, 1) := by decide +kernel
theorem dL_isMoved_24 : decode cL_isMoved 24 = .ok (.invokevirtual 16, 3) := by decide +kernel
theorem dL_isMoved_27 : decode cL_isMoved 27 = .ok (.dstore 9, 2) := by decide +kernel
theorem dL_isMoved_29 : decode cL_isMoved 29 = .ok (.aload_n 0, 1) := by decide +kernel
theorem dL_isMoved_30 : decode cL_isMoved 30 = .ok (.iconst 0, 1) := by decide +kernel
theorem dL_isMoved_31 : decode cL_isMoved 31 = .ok (.invokevirtual 39, 3) := by decide +kernel
theorem dL_isMoved_34 : decode cL_isMoved 34 = .ok (.dstore 11, 2) := by decide +kernel
theorem dL_isMoved_36 : decode cL_isMoved 36 = .ok (.aload_n 0, 1) := by decide +kernel
theorem dL_isMoved_37 : decode cL_isMoved 37 = .ok (.invokevirtual 42, 3) := by decide +kernel
theorem dL_isMoved_40 : decode cL_isMoved 40 = .ok (.dstore 13, 2) := by decide +kernel
theorem dL_isMoved_42 : decode cL_isMoved 42 = .ok (.dload 13, 2) := by decide +kernel
theorem dL_isMoved_44 : decode cL_isMoved 44 = .ok (.dconst 0, 1) := by decide +kernel
theorem dL_isMoved_45 : decode cL_isMoved 45 = .ok (.dcmp .l, 1) := by decide +kernel
theorem dL_isMoved_46 : decode cL_isMoved 46 = .ok (.ifCond .lt 93, 3) := by decide +kernel
theorem dL_isMoved_49 : decode cL_isMoved 49 = .ok (.aload_n 0, 1) := by decide +kernel
theorem dL_isMoved_50 : decode cL_isMoved 50 = .ok (.invokestatic 23, 3) := by decide +kernel
theorem dL_isMoved_53 : decode cL_isMoved 53 = .ok (.dload_n 1, 1) := by decide +kernel
theorem dL_isMoved_54 : decode cL_isMoved 54 = .ok (.invokestatic 45, 3) := by decide +kernel
theorem dL_isMoved_57 : decode cL_isMoved 57 = .ok (.ifCond .eq 82, 3) := by decide +kernel
theorem dL_isMoved_60 : decode cL_isMoved 60 = .ok (.aload_n 0, 1) := by decide +kernel
theorem dL_isMoved_61 : decode cL_isMoved 61 = .ok (.invokestatic 29, 3) := by decide +kernel
theorem dL_isMoved_64 : decode cL_isMoved 64 = .ok (.dload_n 3, 1) := by decide +kernel
theorem dL_isMoved_65 : decode cL_isMoved 65 = .ok (.invokestatic 45, 3) := by decide +kernel
theorem dL_isMoved_68 : decode cL_isMoved 68 = .ok (.ifCond .eq 71, 3) := by decide +kernel
theorem dL_isMoved_71 : decode cL_isMoved 71 = .ok (.aload_n 0, 1) := by decide +kernel
theorem dL_isMoved_72 : decode cL_isMoved 72 = .ok (.invokevirtual 32, 3) := by decide +kernel
theorem dL_isMoved_75 : decode cL_isMoved 75 = .ok (.dload 5, 2) := by decide +kernel
theorem dL_isMoved_77 : decode cL_isMoved 77 = .ok (.invokestatic 45, 3) := by decide +kernel
theorem dL_isMoved_80 : decode cL_isMoved 80 = .ok (.ifCond .eq 59, 3) := by decide +kernel
theorem dL_isMoved_83 : decode cL_isMoved 83 = .ok (.aload_n 0, 1) := by decide +kernel
theorem dL_isMoved_84 : decode cL_isMoved 84 = .ok (.invokevirtual 36, 3) := by decide +kernel
theorem dL_isMoved_87 : decode cL_isMoved 87 = .ok (.dload 7, 2) := by decide +kernel
theorem dL_isMoved_89 : decode cL_isMoved 89 = .ok (.invokestatic 45, 3) := by decide +kernel
theorem dL_isMoved_92 : decode cL_isMoved 92 = .ok (.ifCond .eq 47, 3) := by decide +kernel
theorem dL_isMoved_95 : decode cL_isMoved 95 = .ok (.aload_n 0, 1) := by decide +kernel
theorem dL_isMoved_96 : decode cL_isMoved 96 = .ok (.iconst 0, 1) := by decide +kernel
theorem dL_isMoved_97 : decode cL_isMoved 97 = .ok (.invokevirtual 16, 3) := by decide +kernel
theorem dL_isMoved_100 : decode cL_isMoved 100 = .ok (.dload 9, 2) := by decide +kernel
theorem dL_isMoved_102 : decode cL_isMoved 102 = .ok (.dcmp .g, 1) := by decide +kernel
theorem dL_isMoved_103 : decode cL_isMoved 103 = .ok (.ifCond .gt 36, 3) := by decide +kernel
theorem dL_isMoved_106 : decode cL_isMoved 106 = .ok (.dload 9, 2) := by decide +kernel
theorem dL_isMoved_108 : decode cL_isMoved 108 = .ok (.aload_n 0, 1) := by decide +kernel
theorem dL_isMoved_109 : decode cL_isMoved 109 = .ok (.iconst 0, 1) := by decide +kernel
theorem dL_isMoved_110 : decode cL_isMoved 110 = .ok (.invokevirtual 16, 3) := by decide +kernel
theorem dL_isMoved_113 : decode cL_isMoved 113 = .ok (.dsub, 1) := by decide +kernel
theorem dL_isMoved_114 : decode cL_isMoved 114 = .ok (.dload 13, 2) := by decide +kernel
theorem dL_isMoved_116 : decode cL_isMoved 116 = .ok (.ldc2_w 8, 3) := by decide +kernel
theorem dL_isMoved_119 : decode cL_isMoved 119 = .ok (.dadd, 1) := by decide +kernel
theorem dL_isMoved_120 : decode cL_isMoved 120 = .ok (.dcmp .g, 1) := by decide +kernel
theorem dL_isMoved_121 : decode cL_isMoved 121 = .ok (.ifCond .gt 18, 3) := by decide +kernel
theorem dL_isMoved_124 : decode cL_isMoved 124 = .ok (.aload_n 0, 1) := by decide +kernel
theorem dL_isMoved_125 : decode cL_isMoved 125 = .ok (.iconst 0, 1) := by decide +kernel
theorem dL_isMoved_126 : decode cL_isMoved 126 = .ok (.invokevirtual 39, 3) := by decide +kernel
theorem dL_isMoved_129 : decode cL_isMoved 129 = .ok (.dload 11, 2) := by decide +kernel
theorem dL_isMoved_131 : decode cL_isMoved 131 = .ok (.dcmp .l, 1) := by decide +kernel
theorem dL_isMoved_132 : decode cL_isMoved 132 = .ok (.ifCond .ne 7, 3) := by decide +kernel
theorem dL_isMoved_135 : decode cL_isMoved 135 = .ok (.iconst 1, 1) := by decide +kernel
theorem dL_isMoved_136 : decode cL_isMoved 136 = .ok (.goto 4, 3) := by decide +kernel
theorem dL_isMoved_139 : decode cL_isMoved 139 = .ok (.iconst 0, 1) := by decide +kernel
theorem dL_isMoved_140 : decode cL_isMoved 140 = .ok (.istore 15, 2) := by decide +kernel
theorem dL_isMoved_142 : decode cL_isMoved 142 = .ok (.iload 15, 2) := by decide +kernel
theorem dL_isMoved_144 : decode cL_isMoved 144 = .ok (.ifCond .eq 25, 3) := by decide +kernel
theorem dL_isMoved_147 : decode cL_isMoved 147 = .ok (.dload 13, 2) := by decide +kernel
theorem dL_isMoved_149 : decode cL_isMoved 149 = .ok (.dconst 0, 1) := by decide +kernel
theorem dL_isMoved_150 : decode cL_isMoved 150 = .ok (.dcmp .l, 1) := by decide +kernel
theorem dL_isMoved_151 : decode cL_isMoved 151 = .ok (.ifCond .gt 14, 3) := by decide +kernel
theorem dL_isMoved_154 : decode cL_isMoved 154 = .ok (.aload_n 0, 1) := by decide +kernel
theorem dL_isMoved_155 : decode cL_isMoved 155 = .ok (.iconst 0, 1) := by decide +kernel
theorem dL_isMoved_156 : decode cL_isMoved 156 = .ok (.invokevirtual 16, 3) := by decide +kernel
theorem dL_isMoved_159 : decode cL_isMoved 159 = .ok (.dload 9, 2) := by decide +kernel
theorem dL_isMoved_161 : decode cL_isMoved 161 = .ok (.dcmp .l, 1) := by decide +kernel
theorem dL_isMoved_162 : decode cL_isMoved 162 = .ok (.ifCond .ne 7, 3) := by decide +kernel
theorem dL_isMoved_165 : decode cL_isMoved 165 = .ok (.iconst 1, 1) := by decide +kernel
theorem dL_isMoved_166 : decode cL_isMoved 166 = .ok (.goto 4, 3) := by decide +kernel
theorem dL_isMoved_169 : decode cL_isMoved 169 = .ok (.iconst 0, 1) := by decide +kernel
theorem dL_isMoved_170 : decode cL_isMoved 170 = .ok (.ireturn, 1) := by decide +kernel
set_option maxRecDepth 20000 in
theorem ggL_isAged_L_litres : GoodIn wsL_isAged wsL_litres := goodIn_ca (goodIn_r _ [10, 11, 12, 13, 14, 15, 16, 17, 18, 19, 20, 21, 22, 23, 24, 25, 26, 27, 28, 29, 150, 151, 152, 153, 154, 155, 156, 157, 158, 159, 160, 161, 162, 163, 164] (by decide +kernel) (by decide +kernel)) (goodIn_sub (fun _ h => List.mem_cons_of_mem _ (List.mem_append_right _ h)) (by decide +kernel))
set_option maxRecDepth 20000 in
theorem gL_isAged_L_litres : GoodIn wsL_isAged (va_wsS RL 23 yL_litres wsL_litres) := goodIn_app (goodIn_of _ (by decide +kernel)) ggL_isAged_L_litres
set_option maxRecDepth 20000 in
theorem ggL_isAged_X2_oldest : GoodIn wsL_isAged wsX2_oldest := goodIn_r _ [33, 16, 34, 35, 36, 37, 38, 39, 40, 41, 42, 43, 44, 45, 46, 47, 150, 151, 152, 153, 154, 155, 156, 157, 158, 159, 160, 161, 162, 163, 164] (by decide +kernel) (by decide +kernel)
set_option maxRecDepth 20000 in
theorem gL_isAged_X2_oldest : GoodIn wsL_isAged (wsV RL 49 RX2 yX2_oldest wsX2_oldest) := goodIn_app (goodIn_of _ (by decide +kernel)) ggL_isAged_X2_oldest
set_option maxRecDepth 20000 in
theorem ggL_isAged_X2_ageOf : GoodIn wsL_isAged wsX2_ageOf := goodIn_ca (goodIn_r _ [51, 52, 23, 24, 25, 14, 26, 27, 28, 16, 17, 29, 159, 160, 161, 162, 163, 164, 150, 151, 152, 153, 154, 155, 156, 157, 158] (by decide +kernel) (by decide +kernel)) (goodIn_sub (fun _ h => List.mem_cons_of_mem _ (List.mem_append_right _ h)) (by decide +kernel))
set_option maxRecDepth 20000 in
theorem gL_isAged_X2_ageOf : GoodIn wsL_isAged (wsV RL 52 RX2 yX2_ageOf wsX2_ageOf) := goodIn_app (goodIn_of _ (by decide +kernel)) ggL_isAged_X2_ageOf
set_option maxRecDepth 20000 in
theorem ggL_isAged_X2_barrels : GoodIn wsL_isAged wsX2_barrels := goodIn_r _ [15, 16, 17, 150, 151, 152, 153, 154, 155, 156, 157, 158] (by decide +kernel) (by decide +kernel)
set_option maxRecDepth 20000 in
theorem gL_isAged_X2_barrels : GoodIn wsL_isAged (wsV RL 10 RX2 yX2_barrels wsX2_barrels) := goodIn_app (goodIn_of _ (by decide +kernel)) ggL_isAged_X2_barrels
set_option maxRecDepth 20000 in
theorem ggL_isAged_X2_litresIn : GoodIn wsL_isAged wsX2_litresIn := goodIn_ca (goodIn_r _ [21, 22, 23, 24, 25, 14, 26, 27, 28, 16, 17, 29, 159, 160, 161, 162, 163, 164, 150, 151, 152, 153, 154, 155, 156, 157, 158] (by decide +kernel) (by decide +kernel)) (goodIn_sub (fun _ h => List.mem_cons_of_mem _ (List.mem_append_right _ h)) (by decide +kernel))
set_option maxRecDepth 20000 in
theorem gL_isAged_X2_litresIn : GoodIn wsL_isAged (wsV RL 16 RX2 yX2_litresIn wsX2_litresIn) := goodIn_app (goodIn_of _ (by decide +kernel)) ggL_isAged_X2_litresIn
set_option maxRecDepth 20000 in
theorem ggL_isAged_X2_years : GoodIn wsL_isAged wsX2_years := goodIn_r _ [56, 57, 150, 151, 152, 153] (by decide +kernel) (by decide +kernel)
set_option maxRecDepth 20000 in
theorem gL_isAged_X2_years : GoodIn wsL_isAged (wsV RL 55 RX2 yX2_years wsX2_years) := goodIn_app (goodIn_of _ (by decide +kernel)) ggL_isAged_X2_years
set_option maxRecDepth 20000 in
theorem ggL_isAged_X2_year : GoodIn wsL_isAged wsX2_year := goodIn_r _ [61, 57, 16, 62, 63, 64, 37, 65, 39, 40, 66, 67, 68, 69, 70, 71, 72, 73, 74, 75, 76, 42, 43, 44, 45, 46, 47, 77, 78, 79, 80, 81, 82, 83, 84, 85, 86, 87, 88, 89, 90, 91, 92, 93, 94, 95, 96, 97, 98, 99, 100, 101, 102, 103, 104, 105, 106, 107, 108, 109, 110, 111, 112, 35, 36, 38, 41, 150, 151, 152, 153, 154, 155, 156, 157, 158, 159, 160, 161, 162, 163, 164] (by decide +kernel) (by decide +kernel)
set_option maxRecDepth 20000 in
theorem gL_isAged_X2_year : GoodIn wsL_isAged (wsV RL 58 RX2 yX2_year wsX2_year) := goodIn_app (goodIn_of _ (by decide +kernel)) ggL_isAged_X2_year
set_option maxRecDepth 20000 in
theorem ggL_isAged_L_isNear : GoodIn wsL_isAged wsL_isNear := goodIn_r _ [115, 5] (by decide +kernel) (by decide +kernel)
set_option maxRecDepth 20000 in
theorem gL_isAged_L_isNear : GoodIn wsL_isAged (va_wsS RL 45 yL_isNear wsL_isNear) := goodIn_app (goodIn_of _ (by decide +kernel)) ggL_isAged_L_isNear
set_option maxRecDepth 20000 in
theorem ggL_isAged_X2_sugarOf : GoodIn wsL_isAged wsX2_sugarOf := goodIn_ca (goodIn_r _ [119, 120, 23, 24, 25, 14, 26, 27, 28, 16, 17, 29, 159, 160, 161, 162, 163, 164, 150, 151, 152, 153, 154, 155, 156, 157, 158] (by decide +kernel) (by decide +kernel)) (goodIn_sub (fun _ h => List.mem_cons_of_mem _ (List.mem_append_right _ h)) (by decide +kernel))
set_option maxRecDepth 20000 in
theorem gL_isAged_X2_sugarOf : GoodIn wsL_isAged (wsV RL 63 RX2 yX2_sugarOf wsX2_sugarOf) := goodIn_app (goodIn_of _ (by decide +kernel)) ggL_isAged_X2_sugarOf
set_option maxRecDepth 20000 in
theorem ggL_isAged_X2_acidOf : GoodIn wsL_isAged wsX2_acidOf := goodIn_ca (goodIn_r _ [124, 125, 23, 24, 25, 14, 26, 27, 28, 16, 17, 29, 159, 160, 161, 162, 163, 164, 150, 151, 152, 153, 154, 155, 156, 157, 158] (by decide +kernel) (by decide +kernel)) (goodIn_sub (fun _ h => List.mem_cons_of_mem _ (List.mem_append_right _ h)) (by decide +kernel))
set_option maxRecDepth 20000 in
theorem gL_isAged_X2_acidOf : GoodIn wsL_isAged (wsV RL 20 RX2 yX2_acidOf wsX2_acidOf) := goodIn_app (goodIn_of _ (by decide +kernel)) ggL_isAged_X2_acidOf
set_option maxRecDepth 20000 in
theorem ggL_isAged_X2_meanAge : GoodIn wsL_isAged wsX2_meanAge := goodIn_r _ [129, 16, 130, 131, 132, 37, 133, 39, 40, 68, 134, 135, 136, 137, 41, 150, 151, 152, 153, 154, 155, 156, 157, 158, 159, 160, 161, 162, 163, 164] (by decide +kernel) (by decide +kernel)
set_option maxRecDepth 20000 in
theorem gL_isAged_X2_meanAge : GoodIn wsL_isAged (wsV RL 32 RX2 yX2_meanAge wsX2_meanAge) := goodIn_app (goodIn_of _ (by decide +kernel)) ggL_isAged_X2_meanAge
set_option maxRecDepth 20000 in
theorem ggL_isAged_X2_drawable : GoodIn wsL_isAged wsX2_drawable := goodIn_r _ [141, 16, 142, 143, 144, 37, 145, 66, 40, 41, 146, 147, 148, 69, 68, 149, 112, 35, 36, 38, 39, 42, 43, 44, 45, 46, 47, 150, 151, 152, 153, 154, 155, 156, 157, 158, 159, 160, 161, 162, 163, 164] (by decide +kernel) (by decide +kernel)
set_option maxRecDepth 20000 in
theorem gL_isAged_X2_drawable : GoodIn wsL_isAged (wsV RL 70 RX2 yX2_drawable wsX2_drawable) := goodIn_app (goodIn_of _ (by decide +kernel)) ggL_isAged_X2_drawable
theorem dL_isAged_0 : decode cL_isAged 0 = .ok (.aload_n 0, 1) := by decide +kernel
theorem dL_isAged_1 : decode cL_isAged 1 = .ok (.invokestatic 23, 3) := by decide +kernel
theorem dL_isAged_4 : decode cL_isAged 4 = .ok (.dstore_n 1, 1) := by decide +kernel
theorem dL_isAged_5 : decode cL_isAged 5 = .ok (.aload_n 0, 1) := by decide +kernel
theorem dL_isAged_6 : decode cL_isAged 6 = .ok (.invokevirtual 49, 3) := by decide +kernel
theorem dL_isAged_9 : decode cL_isAged 9 = .ok (.ifCond .ge 7, 3) := by decide +kernel
theorem dL_isAged_12 : decode cL_isAged 12 = .ok (.dconst 0, 1) := by decide +kernel
theorem dL_isAged_13 : decode cL_isAged 13 = .ok (.goto 11, 3) := by decide +kernel
theorem dL_isAged_16 : decode cL_isAged 16 = .ok (.aload_n 0, 1) := by decide +kernel
theorem dL_isAged_17 : decode cL_isAged 17 = .ok (.aload_n 0, 1) := by decide +kernel
theorem dL_isAged_18 : decode cL_isAged 18 = .ok (.invokevirtual 49, 3) := by decide +kernel
theorem dL_isAged_21 : decode cL_isAged 21 = .ok (.invokevirtual 52, 3) := by decide +kernel
theorem dL_isAged_24 : decode cL_isAged 24 = .ok (.dstore_n 3, 1) := by decide +kernel
theorem dL_isAged_25 : decode cL_isAged 25 = .ok (.bipush 8, 2) := by decide +kernel
theorem dL_isAged_27 : decode cL_isAged 27 = .ok (.newarray .double, 2) := by decide +kernel
theorem dL_isAged_29 : decode cL_isAged 29 = .ok (.astore 5, 2) := by decide +kernel
theorem dL_isAged_31 : decode cL_isAged 31 = .ok (.iconst 0, 1) := by decide +kernel
theorem dL_isAged_32 : decode cL_isAged 32 = .ok (.istore 6, 2) := by decide +kernel
theorem dL_isAged_34 : decode cL_isAged 34 = .ok (.iload 6, 2) := by decide +kernel
theorem dL_isAged_36 : decode cL_isAged 36 = .ok (.aload_n 0, 1) := by decide +kernel
theorem dL_isAged_37 : decode cL_isAged 37 = .ok (.invokevirtual 10, 3) := by decide +kernel
theorem dL_isAged_40 : decode cL_isAged 40 = .ok (.if_icmp .ge 20, 3) := by decide +kernel
theorem dL_isAged_43 : decode cL_isAged 43 = .ok (.aload 5, 2) := by decide +kernel
theorem dL_isAged_45 : decode cL_isAged 45 = .ok (.iload 6, 2) := by decide +kernel
theorem dL_isAged_47 : decode cL_isAged 47 = .ok (.aload_n 0, 1) := by decide +kernel
theorem dL_isAged_48 : decode cL_isAged 48 = .ok (.iload 6, 2) := by decide +kernel
theorem dL_isAged_50 : decode cL_isAged 50 = .ok (.invokevirtual 16, 3) := by decide +kernel
theorem dL_isAged_53 : decode cL_isAged 53 = .ok (.dastore, 1) := by decide +kernel
theorem dL_isAged_54 : decode cL_isAged 54 = .ok (.iinc 6 1, 3) := by decide +kernel
theorem dL_isAged_57 : decode cL_isAged 57 = .ok (.goto (-23), 3) := by decide +kernel
theorem dL_isAged_60 : decode cL_isAged 60 = .ok (.aload_n 0, 1) := by decide +kernel
theorem dL_isAged_61 : decode cL_isAged 61 = .ok (.invokevirtual 55, 3) := by decide +kernel
theorem dL_isAged_64 : decode cL_isAged 64 = .ok (.istore 6, 2) := by decide +kernel
theorem dL_isAged_66 : decode cL_isAged 66 = .ok (.aload_n 0, 1) := by decide +kernel
theorem dL_isAged_67 : decode cL_isAged 67 = .ok (.invokevirtual 58, 3) := by decide +kernel
theorem dL_isAged_70 : decode cL_isAged 70 = .ok (.dstore 7, 2) := by decide +kernel
theorem dL_isAged_72 : decode cL_isAged 72 = .ok (.aload_n 0, 1) := by decide +kernel
theorem dL_isAged_73 : decode cL_isAged 73 = .ok (.invokevirtual 55, 3) := by decide +kernel
theorem dL_isAged_76 : decode cL_isAged 76 = .ok (.iload 6, 2) := by decide +kernel
theorem dL_isAged_78 : decode cL_isAged 78 = .ok (.iconst 1, 1) := by decide +kernel
theorem dL_isAged_79 : decode cL_isAged 79 = .ok (.iadd, 1) := by decide +kernel
theorem dL_isAged_80 : decode cL_isAged 80 = .ok (.if_icmp .ne 59, 3) := by decide +kernel
theorem dL_isAged_83 : decode cL_isAged 83 = .ok (.aload_n 0, 1) := by decide +kernel
theorem dL_isAged_84 : decode cL_isAged 84 = .ok (.invokestatic 23, 3) := by decide +kernel
theorem dL_isAged_87 : decode cL_isAged 87 = .ok (.dload 7, 2) := by decide +kernel
theorem dL_isAged_89 : decode cL_isAged 89 = .ok (.dadd, 1) := by decide +kernel
theorem dL_isAged_90 : decode cL_isAged 90 = .ok (.dload_n 1, 1) := by decide +kernel
theorem dL_isAged_91 : decode cL_isAged 91 = .ok (.invokestatic 45, 3) := by decide +kernel
theorem dL_isAged_94 : decode cL_isAged 94 = .ok (.ifCond .eq 45, 3) := by decide +kernel
theorem dL_isAged_97 : decode cL_isAged 97 = .ok (.dload_n 1, 1) := by decide +kernel
theorem dL_isAged_98 : decode cL_isAged 98 = .ok (.dconst 0, 1) := by decide +kernel
theorem dL_isAged_99 : decode cL_isAged 99 = .ok (.dcmp .l, 1) := by decide +kernel
theorem dL_isAged_100 : decode cL_isAged 100 = .ok (.ifCond .ne 13, 3) := by decide +kernel
theorem dL_isAged_103 : decode cL_isAged 103 = .ok (.dload 7, 2) := by decide +kernel
theorem dL_isAged_105 : decode cL_isAged 105 = .ok (.dconst 0, 1) := by decide +kernel
theorem dL_isAged_106 : decode cL_isAged 106 = .ok (.dcmp .l, 1) := by decide +kernel
theorem dL_isAged_107 : decode cL_isAged 107 = .ok (.ifCond .ne 32, 3) := by decide +kernel
theorem dL_isAged_110 : decode cL_isAged 110 = .ok (.goto 25, 3) := by decide +kernel
theorem dL_isAged_113 : decode cL_isAged 113 = .ok (.dload 7, 2) := by decide +kernel
theorem dL_isAged_115 : decode cL_isAged 115 = .ok (.dconst 0, 1) := by decide +kernel
theorem dL_isAged_116 : decode cL_isAged 116 = .ok (.dcmp .l, 1) := by decide +kernel
theorem dL_isAged_117 : decode cL_isAged 117 = .ok (.ifCond .le 22, 3) := by decide +kernel
theorem dL_isAged_120 : decode cL_isAged 120 = .ok (.aload_n 0, 1) := by decide +kernel
theorem dL_isAged_121 : decode cL_isAged 121 = .ok (.aload_n 0, 1) := by decide +kernel
theorem dL_isAged_122 : decode cL_isAged 122 = .ok (.invokevirtual 49, 3) := by decide +kernel
theorem dL_isAged_125 : decode cL_isAged 125 = .ok (.invokevirtual 52, 3) := by decide +kernel
theorem dL_isAged_128 : decode cL_isAged 128 = .ok (.dload_n 3, 1) := by decide +kernel
theorem dL_isAged_129 : decode cL_isAged 129 = .ok (.dconst 1, 1) := by decide +kernel
theorem dL_isAged_130 : decode cL_isAged 130 = .ok (.dadd, 1) := by decide +kernel
theorem dL_isAged_131 : decode cL_isAged 131 = .ok (.dcmp .l, 1) := by decide +kernel
theorem dL_isAged_132 : decode cL_isAged 132 = .ok (.ifCond .ne 7, 3) := by decide +kernel
theorem dL_isAged_135 : decode cL_isAged 135 = .ok (.iconst 1, 1) := by decide +kernel
theorem dL_isAged_136 : decode cL_isAged 136 = .ok (.goto 4, 3) := by decide +kernel
theorem dL_isAged_139 : decode cL_isAged 139 = .ok (.iconst 0, 1) := by decide +kernel
theorem dL_isAged_140 : decode cL_isAged 140 = .ok (.istore 9, 2) := by decide +kernel
theorem dL_isAged_142 : decode cL_isAged 142 = .ok (.iconst 0, 1) := by decide +kernel
theorem dL_isAged_143 : decode cL_isAged 143 = .ok (.istore 10, 2) := by decide +kernel
theorem dL_isAged_145 : decode cL_isAged 145 = .ok (.iload 10, 2) := by decide +kernel
theorem dL_isAged_147 : decode cL_isAged 147 = .ok (.aload_n 0, 1) := by decide +kernel
theorem dL_isAged_148 : decode cL_isAged 148 = .ok (.invokevirtual 10, 3) := by decide +kernel
theorem dL_isAged_151 : decode cL_isAged 151 = .ok (.if_icmp .ge 123, 3) := by decide +kernel
theorem dL_isAged_154 : decode cL_isAged 154 = .ok (.aload_n 0, 1) := by decide +kernel
theorem dL_isAged_155 : decode cL_isAged 155 = .ok (.iload 10, 2) := by decide +kernel
theorem dL_isAged_157 : decode cL_isAged 157 = .ok (.invokevirtual 16, 3) := by decide +kernel
theorem dL_isAged_160 : decode cL_isAged 160 = .ok (.dstore 11, 2) := by decide +kernel
theorem dL_isAged_162 : decode cL_isAged 162 = .ok (.iload 9, 2) := by decide +kernel
theorem dL_isAged_164 : decode cL_isAged 164 = .ok (.ifCond .eq 101, 3) := by decide +kernel
theorem dL_isAged_167 : decode cL_isAged 167 = .ok (.dload 11, 2) := by decide +kernel
theorem dL_isAged_169 : decode cL_isAged 169 = .ok (.aload 5, 2) := by decide +kernel
theorem dL_isAged_171 : decode cL_isAged 171 = .ok (.iload 10, 2) := by decide +kernel
theorem dL_isAged_173 : decode cL_isAged 173 = .ok (.daload, 1) := by decide +kernel
theorem dL_isAged_174 : decode cL_isAged 174 = .ok (.dcmp .g, 1) := by decide +kernel
theorem dL_isAged_175 : decode cL_isAged 175 = .ok (.ifCond .gt 90, 3) := by decide +kernel
theorem dL_isAged_178 : decode cL_isAged 178 = .ok (.dload 11, 2) := by decide +kernel
theorem dL_isAged_180 : decode cL_isAged 180 = .ok (.ldc2_w 61, 3) := by decide +kernel
theorem dL_isAged_183 : decode cL_isAged 183 = .ok (.aload 5, 2) := by decide +kernel
theorem dL_isAged_185 : decode cL_isAged 185 = .ok (.iload 10, 2) := by decide +kernel
theorem dL_isAged_187 : decode cL_isAged 187 = .ok (.daload, 1) := by decide +kernel
theorem dL_isAged_188 : decode cL_isAged 188 = .ok (.dmul, 1) := by decide +kernel
theorem dL_isAged_189 : decode cL_isAged 189 = .ok (.dcmp .l, 1) := by decide +kernel
theorem dL_isAged_190 : decode cL_isAged 190 = .ok (.ifCond .lt 75, 3) := by decide +kernel
theorem dL_isAged_193 : decode cL_isAged 193 = .ok (.aload 5, 2) := by decide +kernel
theorem dL_isAged_195 : decode cL_isAged 195 = .ok (.iload 10, 2) := by decide +kernel
theorem dL_isAged_197 : decode cL_isAged 197 = .ok (.daload, 1) := by decide +kernel
theorem dL_isAged_198 : decode cL_isAged 198 = .ok (.dconst 0, 1) := by decide +kernel
theorem dL_isAged_199 : decode cL_isAged 199 = .ok (.dcmp .l, 1) := by decide +kernel
theorem dL_isAged_200 : decode cL_isAged 200 = .ok (.ifCond .eq 14, 3) := by decide +kernel
theorem dL_isAged_203 : decode cL_isAged 203 = .ok (.dload 11, 2) := by decide +kernel
theorem dL_isAged_205 : decode cL_isAged 205 = .ok (.aload 5, 2) := by decide +kernel
theorem dL_isAged_207 : decode cL_isAged 207 = .ok (.iload 10, 2) := by decide +kernel
theorem dL_isAged_209 : decode cL_isAged 209 = .ok (.daload, 1) := by decide +kernel
theorem dL_isAged_210 : decode cL_isAged 210 = .ok (.dcmp .g, 1) := by decide +kernel
theorem dL_isAged_211 : decode cL_isAged 211 = .ok (.ifCond .ge 54, 3) := by decide +kernel
theorem dL_isAged_214 : decode cL_isAged 214 = .ok (.aload_n 0, 1) := by decide +kernel
theorem dL_isAged_215 : decode cL_isAged 215 = .ok (.iload 10, 2) := by decide +kernel
theorem dL_isAged_217 : decode cL_isAged 217 = .ok (.invokevirtual 63, 3) := by decide +kernel
theorem dL_isAged_220 : decode cL_isAged 220 = .ok (.ldc2_w 66, 3) := by decide +kernel
theorem dL_isAged_223 : decode cL_isAged 223 = .ok (.dcmp .g, 1) := by decide +kernel
theorem dL_isAged_224 : decode cL_isAged 224 = .ok (.ifCond .gt 41, 3) := by decide +kernel
theorem dL_isAged_227 : decode cL_isAged 227 = .ok (.aload_n 0, 1) := by decide +kernel
theorem dL_isAged_228 : decode cL_isAged 228 = .ok (.iload 10, 2) := by decide +kernel
theorem dL_isAged_230 : decode cL_isAged 230 = .ok (.invokevirtual 20, 3) := by decide +kernel
theorem dL_isAged_233 : decode cL_isAged 233 = .ok (.ldc2_w 68, 3) := by decide +kernel
theorem dL_isAged_236 : decode cL_isAged 236 = .ok (.dcmp .g, 1) := by decide +kernel
theorem dL_isAged_237 : decode cL_isAged 237 = .ok (.ifCond .gt 28, 3) := by decide +kernel
theorem dL_isAged_240 : decode cL_isAged 240 = .ok (.aload 5, 2) := by decide +kernel
theorem dL_isAged_242 : decode cL_isAged 242 = .ok (.iload 10, 2) := by decide +kernel
theorem dL_isAged_244 : decode cL_isAged 244 = .ok (.daload, 1) := by decide +kernel
theorem dL_isAged_245 : decode cL_isAged 245 = .ok (.dconst 0, 1) := by decide +kernel
theorem dL_isAged_246 : decode cL_isAged 246 = .ok (.dcmp .l, 1) := by decide +kernel
theorem dL_isAged_247 : decode cL_isAged 247 = .ok (.ifCond .gt 14, 3) := by decide +kernel
theorem dL_isAged_250 : decode cL_isAged 250 = .ok (.aload_n 0, 1) := by decide +kernel
theorem dL_isAged_251 : decode cL_isAged 251 = .ok (.iload 10, 2) := by decide +kernel
theorem dL_isAged_253 : decode cL_isAged 253 = .ok (.invokevirtual 52, 3) := by decide +kernel
theorem dL_isAged_256 : decode cL_isAged 256 = .ok (.dconst 0, 1) := by decide +kernel
theorem dL_isAged_257 : decode cL_isAged 257 = .ok (.dcmp .l, 1) := by decide +kernel
theorem dL_isAged_258 : decode cL_isAged 258 = .ok (.ifCond .ne 7, 3) := by decide +kernel
theorem dL_isAged_261 : decode cL_isAged 261 = .ok (.iconst 1, 1) := by decide +kernel
theorem dL_isAged_262 : decode cL_isAged 262 = .ok (.goto 4, 3) := by decide +kernel
theorem dL_isAged_265 : decode cL_isAged 265 = .ok (.iconst 0, 1) := by decide +kernel
theorem dL_isAged_266 : decode cL_isAged 266 = .ok (.istore 9, 2) := by decide +kernel
theorem dL_isAged_268 : decode cL_isAged 268 = .ok (.iinc 10 1, 3) := by decide +kernel
theorem dL_isAged_271 : decode cL_isAged 271 = .ok (.goto (-126), 3) := by decide +kernel
theorem dL_isAged_274 : decode cL_isAged 274 = .ok (.iload 9, 2) := by decide +kernel
theorem dL_isAged_276 : decode cL_isAged 276 = .ok (.ifCond .eq 61, 3) := by decide +kernel
theorem dL_isAged_279 : decode cL_isAged 279 = .ok (.aload_n 0, 1) := by decide +kernel
theorem dL_isAged_280 : decode cL_isAged 280 = .ok (.invokevirtual 32, 3) := by decide +kernel
theorem dL_isAged_283 : decode cL_isAged 283 = .ok (.aload_n 0, 1) := by decide +kernel
theorem dL_isAged_284 : decode cL_isAged 284 = .ok (.invokevirtual 55, 3) := by decide +kernel
theorem dL_isAged_287 : decode cL_isAged 287 = .ok (.i2d, 1) := by decide +kernel
theorem dL_isAged_288 : decode cL_isAged 288 = .ok (.ldc2_w 8, 3) := by decide +kernel
theorem dL_isAged_291 : decode cL_isAged 291 = .ok (.dadd, 1) := by decide +kernel
theorem dL_isAged_292 : decode cL_isAged 292 = .ok (.dcmp .g, 1) := by decide +kernel
theorem dL_isAged_293 : decode cL_isAged 293 = .ok (.ifCond .gt 44, 3) := by decide +kernel
theorem dL_isAged_296 : decode cL_isAged 296 = .ok (.aload_n 0, 1) := by decide +kernel
theorem dL_isAged_297 : decode cL_isAged 297 = .ok (.invokevirtual 70, 3) := by decide +kernel
theorem dL_isAged_300 : decode cL_isAged 300 = .ok (.ifCond .eq 33, 3) := by decide +kernel
theorem dL_isAged_303 : decode cL_isAged 303 = .ok (.aload_n 0, 1) := by decide +kernel
theorem dL_isAged_304 : decode cL_isAged 304 = .ok (.aload_n 0, 1) := by decide +kernel
theorem dL_isAged_305 : decode cL_isAged 305 = .ok (.invokevirtual 49, 3) := by decide +kernel
theorem dL_isAged_308 : decode cL_isAged 308 = .ok (.invokevirtual 52, 3) := by decide +kernel
theorem dL_isAged_311 : decode cL_isAged 311 = .ok (.ldc2_w 68, 3) := by decide +kernel
theorem dL_isAged_314 : decode cL_isAged 314 = .ok (.dcmp .l, 1) := by decide +kernel
theorem dL_isAged_315 : decode cL_isAged 315 = .ok (.ifCond .lt 22, 3) := by decide +kernel
theorem dL_isAged_318 : decode cL_isAged 318 = .ok (.aload_n 0, 1) := by decide +kernel
theorem dL_isAged_319 : decode cL_isAged 319 = .ok (.aload_n 0, 1) := by decide +kernel
theorem dL_isAged_320 : decode cL_isAged 320 = .ok (.invokevirtual 49, 3) := by decide +kernel
theorem dL_isAged_323 : decode cL_isAged 323 = .ok (.invokevirtual 63, 3) := by decide +kernel
theorem dL_isAged_326 : decode cL_isAged 326 = .ok (.ldc2_w 73, 3) := by decide +kernel
theorem dL_isAged_329 : decode cL_isAged 329 = .ok (.dcmp .l, 1) := by decide +kernel
theorem dL_isAged_330 : decode cL_isAged 330 = .ok (.ifCond .lt 7, 3) := by decide +kernel
theorem dL_isAged_333 : decode cL_isAged 333 = .ok (.iconst 1, 1) := by decide +kernel
theorem dL_isAged_334 : decode cL_isAged 334 = .ok (.goto 4, 3) := by decide +kernel
theorem dL_isAged_337 : decode cL_isAged 337 = .ok (.iconst 0, 1) := by decide +kernel
theorem dL_isAged_338 : decode cL_isAged 338 = .ok (.ireturn, 1) := by decide +kernel
set_option maxRecDepth 20000 in
theorem ggL_isFilled_L_litres : GoodIn wsL_isFilled wsL_litres := goodIn_ca (goodIn_r _ [5, 6, 7, 8, 9, 10, 11, 12, 13, 14, 15, 16, 17, 18, 19, 20, 21, 22, 23, 24, 79, 80, 81, 82, 83, 84, 85, 86, 87, 88, 89, 90, 91, 92, 93] (by decide +kernel) (by decide +kernel)) (goodIn_sub (fun _ h => List.mem_cons_of_mem _ (List.mem_append_left _ (List.mem_append_right _ h))) (by decide +kernel))
set_option maxRecDepth 20000 in
theorem gL_isFilled_L_litres : GoodIn wsL_isFilled (va_wsS RL 23 yL_litres wsL_litres) := goodIn_app (goodIn_of _ (by decide +kernel)) ggL_isFilled_L_litres
set_option maxRecDepth 20000 in
theorem ggL_isFilled_X2_litresIn : GoodIn wsL_isFilled wsX2_litresIn := goodIn_ca (goodIn_r _ [16, 17, 18, 19, 20, 9, 21, 22, 23, 11, 12, 24, 88, 89, 90, 91, 92, 93, 79, 80, 81, 82, 83, 84, 85, 86, 87] (by decide +kernel) (by decide +kernel)) (goodIn_sub (fun _ h => List.mem_cons_of_mem _ (List.mem_append_left _ (List.mem_append_right _ h))) (by decide +kernel))
set_option maxRecDepth 20000 in
theorem gL_isFilled_X2_litresIn : GoodIn wsL_isFilled (wsV RL 16 RX2 yX2_litresIn wsX2_litresIn) := goodIn_app (goodIn_of _ (by decide +kernel)) ggL_isFilled_X2_litresIn
set_option maxRecDepth 20000 in
theorem ggL_isFilled_X2_fill : GoodIn wsL_isFilled wsX2_fill := goodIn_ca (goodIn_r _ [28, 29, 30, 11, 31, 32, 33, 34, 35, 36, 37, 38, 39, 40, 41, 42, 43, 44, 45, 46, 47, 48, 49, 50, 51, 52, 79, 80, 81, 82, 83, 84, 85, 86, 87, 88, 89, 90, 91, 92, 93] (by decide +kernel) (by decide +kernel)) (goodIn_sub (fun _ h => List.mem_cons_of_mem _ (List.mem_append_right _ h)) (by decide +kernel))
set_option maxRecDepth 20000 in
theorem gL_isFilled_X2_fill : GoodIn wsL_isFilled (wsV RL 75 RX2 yX2_fill wsX2_fill) := goodIn_app (goodIn_of _ (by decide +kernel)) ggL_isFilled_X2_fill
set_option maxRecDepth 20000 in
theorem ggL_isFilled_L_isNear : GoodIn wsL_isFilled wsL_isNear := goodIn_r _ [55, 1] (by decide +kernel) (by decide +kernel)
set_option maxRecDepth 20000 in
theorem gL_isFilled_L_isNear : GoodIn wsL_isFilled (va_wsS RL 45 yL_isNear wsL_isNear) := goodIn_app (goodIn_of _ (by decide +kernel)) ggL_isFilled_L_isNear
set_option maxRecDepth 20000 in
theorem ggL_isFilled_X2_drawable : GoodIn wsL_isFilled wsX2_drawable := goodIn_r _ [59, 11, 60, 61, 62, 34, 63, 64, 37, 65, 66, 67, 68, 69, 39, 70, 71, 72, 73, 74, 36, 75, 76, 77, 44, 78, 46, 79, 80, 81, 82, 83, 84, 85, 86, 87, 88, 89, 90, 91, 92, 93] (by decide +kernel) (by decide +kernel)
set_option maxRecDepth 20000 in
theorem gL_isFilled_X2_drawable : GoodIn wsL_isFilled (wsV RL 70 RX2 yX2_drawable wsX2_drawable) := goodIn_app (goodIn_of _ (by decide +kernel)) ggL_isFilled_X2_drawable
theorem dL_isFilled_0 : decode cL_isFilled 0 = .ok (.aload_n 0, 1) := by decide +kernel
theorem dL_isFilled_1 : decode cL_isFilled 1 = .ok (.invokestatic 23, 3) := by decide +kernel
theorem dL_isFilled_4 : decode cL_isFilled 4 = .ok (.dstore_n 3, 1) := by decide +kernel
theorem dL_isFilled_5 : decode cL_isFilled 5 = .ok (.aload_n 0, 1) := by decide +kernel
theorem dL_isFilled_6 : decode cL_isFilled 6 = .ok (.iconst 0, 1) := by decide +kernel
theorem dL_isFilled_7 : decode cL_isFilled 7 = .ok (.invokevirtual 16, 3) := by decide +kernel
theorem dL_isFilled_10 : decode cL_isFilled 10 = .ok (.dstore 5, 2) := by decide +kernel
theorem dL_isFilled_12 : decode cL_isFilled 12 = .ok (.aload_n 0, 1) := by decide +kernel
theorem dL_isFilled_13 : decode cL_isFilled 13 = .ok (.iload_n 1, 1) := by decide +kernel
theorem dL_isFilled_14 : decode cL_isFilled 14 = .ok (.invokevirtual 75, 3) := by decide +kernel
theorem dL_isFilled_17 : decode cL_isFilled 17 = .ok (.dstore 7, 2) := by decide +kernel
theorem dL_isFilled_19 : decode cL_isFilled 19 = .ok (.dload 7, 2) := by decide +kernel
theorem dL_isFilled_21 : decode cL_isFilled 21 = .ok (.dconst 0, 1) := by decide +kernel
theorem dL_isFilled_22 : decode cL_isFilled 22 = .ok (.dcmp .l, 1) := by decide +kernel
theorem dL_isFilled_23 : decode cL_isFilled 23 = .ok (.ifCond .lt 88, 3) := by decide +kernel
theorem dL_isFilled_26 : decode cL_isFilled 26 = .ok (.dload 7, 2) := by decide +kernel
theorem dL_isFilled_28 : decode cL_isFilled 28 = .ok (.iload_n 1, 1) := by decide +kernel
theorem dL_isFilled_29 : decode cL_isFilled 29 = .ok (.i2d, 1) := by decide +kernel
theorem dL_isFilled_30 : decode cL_isFilled 30 = .ok (.dcmp .g, 1) := by decide +kernel
theorem dL_isFilled_31 : decode cL_isFilled 31 = .ok (.ifCond .gt 80, 3) := by decide +kernel
theorem dL_isFilled_34 : decode cL_isFilled 34 = .ok (.aload_n 0, 1) := by decide +kernel
theorem dL_isFilled_35 : decode cL_isFilled 35 = .ok (.iconst 0, 1) := by decide +kernel
theorem dL_isFilled_36 : decode cL_isFilled 36 = .ok (.invokevirtual 16, 3) := by decide +kernel
theorem dL_isFilled_39 : decode cL_isFilled 39 = .ok (.iload_n 2, 1) := by decide +kernel
theorem dL_isFilled_40 : decode cL_isFilled 40 = .ok (.i2d, 1) := by decide +kernel
theorem dL_isFilled_41 : decode cL_isFilled 41 = .ok (.ldc2_w 8, 3) := by decide +kernel
theorem dL_isFilled_44 : decode cL_isFilled 44 = .ok (.dadd, 1) := by decide +kernel
theorem dL_isFilled_45 : decode cL_isFilled 45 = .ok (.dcmp .g, 1) := by decide +kernel
theorem dL_isFilled_46 : decode cL_isFilled 46 = .ok (.ifCond .gt 65, 3) := by decide +kernel
theorem dL_isFilled_49 : decode cL_isFilled 49 = .ok (.aload_n 0, 1) := by decide +kernel
theorem dL_isFilled_50 : decode cL_isFilled 50 = .ok (.invokestatic 23, 3) := by decide +kernel
theorem dL_isFilled_53 : decode cL_isFilled 53 = .ok (.dload_n 3, 1) := by decide +kernel
theorem dL_isFilled_54 : decode cL_isFilled 54 = .ok (.dload 7, 2) := by decide +kernel
theorem dL_isFilled_56 : decode cL_isFilled 56 = .ok (.dadd, 1) := by decide +kernel
theorem dL_isFilled_57 : decode cL_isFilled 57 = .ok (.invokestatic 45, 3) := by decide +kernel
theorem dL_isFilled_60 : decode cL_isFilled 60 = .ok (.ifCond .eq 51, 3) := by decide +kernel
theorem dL_isFilled_63 : decode cL_isFilled 63 = .ok (.aload_n 0, 1) := by decide +kernel
theorem dL_isFilled_64 : decode cL_isFilled 64 = .ok (.iconst 0, 1) := by decide +kernel
theorem dL_isFilled_65 : decode cL_isFilled 65 = .ok (.invokevirtual 16, 3) := by decide +kernel
theorem dL_isFilled_68 : decode cL_isFilled 68 = .ok (.dload 5, 2) := by decide +kernel
theorem dL_isFilled_70 : decode cL_isFilled 70 = .ok (.dload 7, 2) := by decide +kernel
theorem dL_isFilled_72 : decode cL_isFilled 72 = .ok (.dadd, 1) := by decide +kernel
theorem dL_isFilled_73 : decode cL_isFilled 73 = .ok (.invokestatic 45, 3) := by decide +kernel
theorem dL_isFilled_76 : decode cL_isFilled 76 = .ok (.ifCond .eq 35, 3) := by decide +kernel
theorem dL_isFilled_79 : decode cL_isFilled 79 = .ok (.dload 7, 2) := by decide +kernel
theorem dL_isFilled_81 : decode cL_isFilled 81 = .ok (.iload_n 1, 1) := by decide +kernel
theorem dL_isFilled_82 : decode cL_isFilled 82 = .ok (.i2d, 1) := by decide +kernel
theorem dL_isFilled_83 : decode cL_isFilled 83 = .ok (.dcmp .l, 1) := by decide +kernel
theorem dL_isFilled_84 : decode cL_isFilled 84 = .ok (.ifCond .eq 16, 3) := by decide +kernel
theorem dL_isFilled_87 : decode cL_isFilled 87 = .ok (.aload_n 0, 1) := by decide +kernel
theorem dL_isFilled_88 : decode cL_isFilled 88 = .ok (.iconst 0, 1) := by decide +kernel
theorem dL_isFilled_89 : decode cL_isFilled 89 = .ok (.invokevirtual 16, 3) := by decide +kernel
theorem dL_isFilled_92 : decode cL_isFilled 92 = .ok (.iload_n 2, 1) := by decide +kernel
theorem dL_isFilled_93 : decode cL_isFilled 93 = .ok (.i2d, 1) := by decide +kernel
theorem dL_isFilled_94 : decode cL_isFilled 94 = .ok (.invokestatic 45, 3) := by decide +kernel
