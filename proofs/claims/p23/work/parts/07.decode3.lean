theorem dL_isFilled_97 : decode cL_isFilled 97 = .ok (.ifCond .eq 14, 3) := by decide +kernel
theorem dL_isFilled_100 : decode cL_isFilled 100 = .ok (.aload_n 0, 1) := by decide +kernel
theorem dL_isFilled_101 : decode cL_isFilled 101 = .ok (.invokevirtual 70, 3) := by decide +kernel
theorem dL_isFilled_104 : decode cL_isFilled 104 = .ok (.ifCond .lt 7, 3) := by decide +kernel
theorem dL_isFilled_107 : decode cL_isFilled 107 = .ok (.iconst 1, 1) := by decide +kernel
theorem dL_isFilled_108 : decode cL_isFilled 108 = .ok (.goto 4, 3) := by decide +kernel
theorem dL_isFilled_111 : decode cL_isFilled 111 = .ok (.iconst 0, 1) := by decide +kernel
theorem dL_isFilled_112 : decode cL_isFilled 112 = .ok (.ireturn, 1) := by decide +kernel
set_option maxRecDepth 20000 in
theorem ggL_isBottled_X2_drawable : GoodIn wsL_isBottled wsX2_drawable := goodIn_r _ [6, 7, 8, 9, 10, 11, 12, 13, 14, 15, 16, 17, 18, 19, 20, 21, 22, 23, 24, 25, 26, 27, 28, 29, 30, 31, 32, 93, 94, 95, 96, 97, 98, 99, 100, 101, 102, 103, 104, 105, 106, 107] (by decide +kernel) (by decide +kernel)
set_option maxRecDepth 20000 in
theorem gL_isBottled_X2_drawable : GoodIn wsL_isBottled (wsV RL 70 RX2 yX2_drawable wsX2_drawable) := goodIn_app (goodIn_of _ (by decide +kernel)) ggL_isBottled_X2_drawable
set_option maxRecDepth 20000 in
theorem ggL_isBottled_X2_bottles : GoodIn wsL_isBottled wsX2_bottles := goodIn_ca (goodIn_r _ [36, 37, 38, 39, 93, 94, 95, 96] (by decide +kernel) (by decide +kernel)) (goodIn_sub (fun _ h => List.mem_cons_of_mem _ (List.mem_append_left _ (List.mem_append_right _ h))) (by decide +kernel))
set_option maxRecDepth 20000 in
theorem gL_isBottled_X2_bottles : GoodIn wsL_isBottled (wsV RL 78 RX2 yX2_bottles wsX2_bottles) := goodIn_app (goodIn_of _ (by decide +kernel)) ggL_isBottled_X2_bottles
set_option maxRecDepth 20000 in
theorem ggL_isBottled_L_litres : GoodIn wsL_isBottled wsL_litres := goodIn_ca (goodIn_r _ [43, 44, 45, 46, 5, 47, 7, 48, 49, 50, 51, 52, 53, 54, 55, 56, 57, 58, 59, 60, 93, 94, 95, 96, 97, 98, 99, 100, 101, 102, 103, 104, 105, 106, 107] (by decide +kernel) (by decide +kernel)) (goodIn_sub (fun _ h => List.mem_cons_of_mem _ (List.mem_append_right _ h)) (by decide +kernel))
set_option maxRecDepth 20000 in
theorem gL_isBottled_L_litres : GoodIn wsL_isBottled (va_wsS RL 23 yL_litres wsL_litres) := goodIn_app (goodIn_of _ (by decide +kernel)) ggL_isBottled_L_litres
set_option maxRecDepth 20000 in
theorem ggL_isBottled_X2_draw : GoodIn wsL_isBottled wsX2_draw := goodIn_ca (goodIn_r _ [64, 37, 38, 7, 39, 8, 9, 10, 11, 12, 13, 14, 15, 16, 17, 18, 19, 20, 21, 22, 23, 24, 25, 26, 27, 28, 29, 30, 31, 32, 65, 66, 67, 68, 69, 70, 5, 71, 72, 73, 74, 75, 76, 77, 78, 79, 80, 81, 82, 83, 84, 85, 86, 87, 88, 93, 94, 95, 96, 97, 98, 99, 100, 101, 102, 103, 104, 105, 106, 107] (by decide +kernel) (by decide +kernel)) (goodIn_sub (fun _ h => List.mem_cons_of_mem _ (List.mem_append_left _ (List.mem_append_right _ h))) (by decide +kernel))
set_option maxRecDepth 20000 in
theorem gL_isBottled_X2_draw : GoodIn wsL_isBottled (wsV RL 82 RX2 yX2_draw wsX2_draw) := goodIn_app (goodIn_of _ (by decide +kernel)) ggL_isBottled_X2_draw
set_option maxRecDepth 20000 in
theorem ggL_isBottled_L_isNear : GoodIn wsL_isBottled wsL_isNear := goodIn_r _ [91, 92] (by decide +kernel) (by decide +kernel)
set_option maxRecDepth 20000 in
theorem gL_isBottled_L_isNear : GoodIn wsL_isBottled (va_wsS RL 45 yL_isNear wsL_isNear) := goodIn_app (goodIn_of _ (by decide +kernel)) ggL_isBottled_L_isNear
theorem dL_isBottled_0 : decode cL_isBottled 0 = .ok (.aload_n 0, 1) := by decide +kernel
theorem dL_isBottled_1 : decode cL_isBottled 1 = .ok (.invokevirtual 70, 3) := by decide +kernel
theorem dL_isBottled_4 : decode cL_isBottled 4 = .ok (.istore_n 2, 1) := by decide +kernel
theorem dL_isBottled_5 : decode cL_isBottled 5 = .ok (.aload_n 0, 1) := by decide +kernel
theorem dL_isBottled_6 : decode cL_isBottled 6 = .ok (.iconst 0, 1) := by decide +kernel
theorem dL_isBottled_7 : decode cL_isBottled 7 = .ok (.invokevirtual 78, 3) := by decide +kernel
theorem dL_isBottled_10 : decode cL_isBottled 10 = .ok (.aload_n 0, 1) := by decide +kernel
theorem dL_isBottled_11 : decode cL_isBottled 11 = .ok (.iconst 1, 1) := by decide +kernel
theorem dL_isBottled_12 : decode cL_isBottled 12 = .ok (.invokevirtual 78, 3) := by decide +kernel
theorem dL_isBottled_15 : decode cL_isBottled 15 = .ok (.iadd, 1) := by decide +kernel
theorem dL_isBottled_16 : decode cL_isBottled 16 = .ok (.aload_n 0, 1) := by decide +kernel
theorem dL_isBottled_17 : decode cL_isBottled 17 = .ok (.iconst 2, 1) := by decide +kernel
theorem dL_isBottled_18 : decode cL_isBottled 18 = .ok (.invokevirtual 78, 3) := by decide +kernel
theorem dL_isBottled_21 : decode cL_isBottled 21 = .ok (.iadd, 1) := by decide +kernel
theorem dL_isBottled_22 : decode cL_isBottled 22 = .ok (.istore_n 3, 1) := by decide +kernel
theorem dL_isBottled_23 : decode cL_isBottled 23 = .ok (.aload_n 0, 1) := by decide +kernel
theorem dL_isBottled_24 : decode cL_isBottled 24 = .ok (.invokestatic 23, 3) := by decide +kernel
theorem dL_isBottled_27 : decode cL_isBottled 27 = .ok (.dstore 4, 2) := by decide +kernel
theorem dL_isBottled_29 : decode cL_isBottled 29 = .ok (.aload_n 0, 1) := by decide +kernel
theorem dL_isBottled_30 : decode cL_isBottled 30 = .ok (.iload_n 1, 1) := by decide +kernel
theorem dL_isBottled_31 : decode cL_isBottled 31 = .ok (.invokevirtual 82, 3) := by decide +kernel
theorem dL_isBottled_34 : decode cL_isBottled 34 = .ok (.istore 6, 2) := by decide +kernel
theorem dL_isBottled_36 : decode cL_isBottled 36 = .ok (.iload 6, 2) := by decide +kernel
theorem dL_isBottled_38 : decode cL_isBottled 38 = .ok (.iload_n 1, 1) := by decide +kernel
theorem dL_isBottled_39 : decode cL_isBottled 39 = .ok (.iload_n 2, 1) := by decide +kernel
theorem dL_isBottled_40 : decode cL_isBottled 40 = .ok (.if_icmp .ge 7, 3) := by decide +kernel
theorem dL_isBottled_43 : decode cL_isBottled 43 = .ok (.iload_n 1, 1) := by decide +kernel
theorem dL_isBottled_44 : decode cL_isBottled 44 = .ok (.goto 4, 3) := by decide +kernel
theorem dL_isBottled_47 : decode cL_isBottled 47 = .ok (.iload_n 2, 1) := by decide +kernel
theorem dL_isBottled_48 : decode cL_isBottled 48 = .ok (.if_icmp .ne 77, 3) := by decide +kernel
theorem dL_isBottled_51 : decode cL_isBottled 51 = .ok (.aload_n 0, 1) := by decide +kernel
theorem dL_isBottled_52 : decode cL_isBottled 52 = .ok (.iconst 0, 1) := by decide +kernel
theorem dL_isBottled_53 : decode cL_isBottled 53 = .ok (.invokevirtual 78, 3) := by decide +kernel
theorem dL_isBottled_56 : decode cL_isBottled 56 = .ok (.aload_n 0, 1) := by decide +kernel
theorem dL_isBottled_57 : decode cL_isBottled 57 = .ok (.iconst 1, 1) := by decide +kernel
theorem dL_isBottled_58 : decode cL_isBottled 58 = .ok (.invokevirtual 78, 3) := by decide +kernel
theorem dL_isBottled_61 : decode cL_isBottled 61 = .ok (.iadd, 1) := by decide +kernel
theorem dL_isBottled_62 : decode cL_isBottled 62 = .ok (.aload_n 0, 1) := by decide +kernel
theorem dL_isBottled_63 : decode cL_isBottled 63 = .ok (.iconst 2, 1) := by decide +kernel
theorem dL_isBottled_64 : decode cL_isBottled 64 = .ok (.invokevirtual 78, 3) := by decide +kernel
theorem dL_isBottled_67 : decode cL_isBottled 67 = .ok (.iadd, 1) := by decide +kernel
theorem dL_isBottled_68 : decode cL_isBottled 68 = .ok (.iload_n 3, 1) := by decide +kernel
theorem dL_isBottled_69 : decode cL_isBottled 69 = .ok (.iload 6, 2) := by decide +kernel
theorem dL_isBottled_71 : decode cL_isBottled 71 = .ok (.iadd, 1) := by decide +kernel
theorem dL_isBottled_72 : decode cL_isBottled 72 = .ok (.if_icmp .ne 53, 3) := by decide +kernel
theorem dL_isBottled_75 : decode cL_isBottled 75 = .ok (.aload_n 0, 1) := by decide +kernel
theorem dL_isBottled_76 : decode cL_isBottled 76 = .ok (.invokestatic 23, 3) := by decide +kernel
theorem dL_isBottled_79 : decode cL_isBottled 79 = .ok (.iload 6, 2) := by decide +kernel
theorem dL_isBottled_81 : decode cL_isBottled 81 = .ok (.i2d, 1) := by decide +kernel
theorem dL_isBottled_82 : decode cL_isBottled 82 = .ok (.ldc2_w 85, 3) := by decide +kernel
theorem dL_isBottled_85 : decode cL_isBottled 85 = .ok (.dmul, 1) := by decide +kernel
theorem dL_isBottled_86 : decode cL_isBottled 86 = .ok (.dadd, 1) := by decide +kernel
theorem dL_isBottled_87 : decode cL_isBottled 87 = .ok (.dload 4, 2) := by decide +kernel
theorem dL_isBottled_89 : decode cL_isBottled 89 = .ok (.invokestatic 45, 3) := by decide +kernel
theorem dL_isBottled_92 : decode cL_isBottled 92 = .ok (.ifCond .eq 33, 3) := by decide +kernel
theorem dL_isBottled_95 : decode cL_isBottled 95 = .ok (.aload_n 0, 1) := by decide +kernel
theorem dL_isBottled_96 : decode cL_isBottled 96 = .ok (.invokevirtual 70, 3) := by decide +kernel
theorem dL_isBottled_99 : decode cL_isBottled 99 = .ok (.iload_n 2, 1) := by decide +kernel
theorem dL_isBottled_100 : decode cL_isBottled 100 = .ok (.iload 6, 2) := by decide +kernel
theorem dL_isBottled_102 : decode cL_isBottled 102 = .ok (.isub, 1) := by decide +kernel
theorem dL_isBottled_103 : decode cL_isBottled 103 = .ok (.iconst 1, 1) := by decide +kernel
theorem dL_isBottled_104 : decode cL_isBottled 104 = .ok (.iadd, 1) := by decide +kernel
theorem dL_isBottled_105 : decode cL_isBottled 105 = .ok (.if_icmp .gt 20, 3) := by decide +kernel
theorem dL_isBottled_108 : decode cL_isBottled 108 = .ok (.aload_n 0, 1) := by decide +kernel
theorem dL_isBottled_109 : decode cL_isBottled 109 = .ok (.invokevirtual 70, 3) := by decide +kernel
theorem dL_isBottled_112 : decode cL_isBottled 112 = .ok (.iload_n 2, 1) := by decide +kernel
theorem dL_isBottled_113 : decode cL_isBottled 113 = .ok (.iload 6, 2) := by decide +kernel
theorem dL_isBottled_115 : decode cL_isBottled 115 = .ok (.isub, 1) := by decide +kernel
theorem dL_isBottled_116 : decode cL_isBottled 116 = .ok (.iconst 1, 1) := by decide +kernel
theorem dL_isBottled_117 : decode cL_isBottled 117 = .ok (.isub, 1) := by decide +kernel
theorem dL_isBottled_118 : decode cL_isBottled 118 = .ok (.if_icmp .lt 7, 3) := by decide +kernel
theorem dL_isBottled_121 : decode cL_isBottled 121 = .ok (.iconst 1, 1) := by decide +kernel
theorem dL_isBottled_122 : decode cL_isBottled 122 = .ok (.goto 4, 3) := by decide +kernel
theorem dL_isBottled_125 : decode cL_isBottled 125 = .ok (.iconst 0, 1) := by decide +kernel
theorem dL_isBottled_126 : decode cL_isBottled 126 = .ok (.ireturn, 1) := by decide +kernel
set_option maxRecDepth 20000 in
theorem ggL_isPoured_L_litres : GoodIn wsL_isPoured wsL_litres := goodIn_ca (goodIn_r _ [4, 5, 6, 7, 8, 9, 10, 11, 12, 13, 14, 15, 16, 17, 18, 19, 20, 21, 22, 23, 62, 63, 64, 65, 66, 67, 68, 69, 70, 71, 72, 73, 74, 75, 76] (by decide +kernel) (by decide +kernel)) (goodIn_sub (fun _ h => List.mem_cons_of_mem _ (List.mem_append_right _ h)) (by decide +kernel))
set_option maxRecDepth 20000 in
theorem gL_isPoured_L_litres : GoodIn wsL_isPoured (va_wsS RL 23 yL_litres wsL_litres) := goodIn_app (goodIn_of _ (by decide +kernel)) ggL_isPoured_L_litres
set_option maxRecDepth 20000 in
theorem ggL_isPoured_X2_litresIn : GoodIn wsL_isPoured wsX2_litresIn := goodIn_ca (goodIn_r _ [15, 16, 17, 18, 19, 8, 20, 21, 22, 10, 11, 23, 71, 72, 73, 74, 75, 76, 62, 63, 64, 65, 66, 67, 68, 69, 70] (by decide +kernel) (by decide +kernel)) (goodIn_sub (fun _ h => List.mem_cons_of_mem _ (List.mem_append_right _ h)) (by decide +kernel))
set_option maxRecDepth 20000 in
theorem gL_isPoured_X2_litresIn : GoodIn wsL_isPoured (wsV RL 16 RX2 yX2_litresIn wsX2_litresIn) := goodIn_app (goodIn_of _ (by decide +kernel)) ggL_isPoured_X2_litresIn
set_option maxRecDepth 20000 in
theorem ggL_isPoured_X2_pourAway : GoodIn wsL_isPoured wsX2_pourAway := goodIn_ca (goodIn_r _ [27, 16, 17, 18, 19, 8, 20, 21, 22, 10, 11, 23, 28, 29, 30, 31, 32, 33, 34, 35, 36, 71, 72, 73, 74, 75, 76, 62, 63, 64, 65, 66, 67, 68, 69, 70] (by decide +kernel) (by decide +kernel)) (goodIn_sub (fun _ h => List.mem_cons_of_mem _ (List.mem_append_right _ h)) (by decide +kernel))
set_option maxRecDepth 20000 in
theorem gL_isPoured_X2_pourAway : GoodIn wsL_isPoured (wsV RL 87 RX2 yX2_pourAway wsX2_pourAway) := goodIn_app (goodIn_of _ (by decide +kernel)) ggL_isPoured_X2_pourAway
set_option maxRecDepth 20000 in
theorem ggL_isPoured_X2_acidOf : GoodIn wsL_isPoured wsX2_acidOf := goodIn_ca (goodIn_r _ [40, 41, 17, 18, 19, 8, 20, 21, 22, 10, 11, 23, 71, 72, 73, 74, 75, 76, 62, 63, 64, 65, 66, 67, 68, 69, 70] (by decide +kernel) (by decide +kernel)) (goodIn_sub (fun _ h => List.mem_cons_of_mem _ (List.mem_append_right _ h)) (by decide +kernel))
set_option maxRecDepth 20000 in
theorem gL_isPoured_X2_acidOf : GoodIn wsL_isPoured (wsV RL 20 RX2 yX2_acidOf wsX2_acidOf) := goodIn_app (goodIn_of _ (by decide +kernel)) ggL_isPoured_X2_acidOf
set_option maxRecDepth 20000 in
theorem ggL_isPoured_X2_tasteOf : GoodIn wsL_isPoured wsX2_tasteOf := goodIn_ca (goodIn_r _ [45, 17, 18, 19, 8, 20, 21, 22, 10, 11, 23, 46, 47, 48, 31, 49, 35, 50, 51, 34, 52, 36, 53, 54, 55, 56, 57, 33, 62, 63, 64, 65, 66, 67, 68, 69, 70, 71, 72, 73, 74, 75, 76] (by decide +kernel) (by decide +kernel)) (goodIn_sub (fun _ h => List.mem_cons_of_mem _ (List.mem_append_right _ h)) (by decide +kernel))
set_option maxRecDepth 20000 in
theorem gL_isPoured_X2_tasteOf : GoodIn wsL_isPoured (wsV RL 39 RX2 yX2_tasteOf wsX2_tasteOf) := goodIn_app (goodIn_of _ (by decide +kernel)) ggL_isPoured_X2_tasteOf
set_option maxRecDepth 20000 in
theorem ggL_isPoured_L_isNear : GoodIn wsL_isPoured wsL_isNear := goodIn_r _ [60, 61] (by decide +kernel) (by decide +kernel)
set_option maxRecDepth 20000 in
theorem gL_isPoured_L_isNear : GoodIn wsL_isPoured (va_wsS RL 45 yL_isNear wsL_isNear) := goodIn_app (goodIn_of _ (by decide +kernel)) ggL_isPoured_L_isNear
theorem dL_isPoured_0 : decode cL_isPoured 0 = .ok (.aload_n 0, 1) := by decide +kernel
theorem dL_isPoured_1 : decode cL_isPoured 1 = .ok (.invokestatic 23, 3) := by decide +kernel
theorem dL_isPoured_4 : decode cL_isPoured 4 = .ok (.dstore_n 2, 1) := by decide +kernel
theorem dL_isPoured_5 : decode cL_isPoured 5 = .ok (.aload_n 0, 1) := by decide +kernel
theorem dL_isPoured_6 : decode cL_isPoured 6 = .ok (.iload_n 1, 1) := by decide +kernel
theorem dL_isPoured_7 : decode cL_isPoured 7 = .ok (.invokevirtual 16, 3) := by decide +kernel
theorem dL_isPoured_10 : decode cL_isPoured 10 = .ok (.dstore 4, 2) := by decide +kernel
theorem dL_isPoured_12 : decode cL_isPoured 12 = .ok (.aload_n 0, 1) := by decide +kernel
theorem dL_isPoured_13 : decode cL_isPoured 13 = .ok (.iload_n 1, 1) := by decide +kernel
theorem dL_isPoured_14 : decode cL_isPoured 14 = .ok (.invokevirtual 87, 3) := by decide +kernel
theorem dL_isPoured_17 : decode cL_isPoured 17 = .ok (.dload 4, 2) := by decide +kernel
theorem dL_isPoured_19 : decode cL_isPoured 19 = .ok (.dcmp .l, 1) := by decide +kernel
theorem dL_isPoured_20 : decode cL_isPoured 20 = .ok (.ifCond .ne 61, 3) := by decide +kernel
theorem dL_isPoured_23 : decode cL_isPoured 23 = .ok (.aload_n 0, 1) := by decide +kernel
theorem dL_isPoured_24 : decode cL_isPoured 24 = .ok (.iload_n 1, 1) := by decide +kernel
theorem dL_isPoured_25 : decode cL_isPoured 25 = .ok (.invokevirtual 16, 3) := by decide +kernel
theorem dL_isPoured_28 : decode cL_isPoured 28 = .ok (.dconst 0, 1) := by decide +kernel
theorem dL_isPoured_29 : decode cL_isPoured 29 = .ok (.dcmp .l, 1) := by decide +kernel
theorem dL_isPoured_30 : decode cL_isPoured 30 = .ok (.ifCond .ne 51, 3) := by decide +kernel
theorem dL_isPoured_33 : decode cL_isPoured 33 = .ok (.aload_n 0, 1) := by decide +kernel
theorem dL_isPoured_34 : decode cL_isPoured 34 = .ok (.iload_n 1, 1) := by decide +kernel
theorem dL_isPoured_35 : decode cL_isPoured 35 = .ok (.invokevirtual 20, 3) := by decide +kernel
theorem dL_isPoured_38 : decode cL_isPoured 38 = .ok (.dconst 0, 1) := by decide +kernel
theorem dL_isPoured_39 : decode cL_isPoured 39 = .ok (.dcmp .l, 1) := by decide +kernel
theorem dL_isPoured_40 : decode cL_isPoured 40 = .ok (.ifCond .ne 41, 3) := by decide +kernel
theorem dL_isPoured_43 : decode cL_isPoured 43 = .ok (.aload_n 0, 1) := by decide +kernel
theorem dL_isPoured_44 : decode cL_isPoured 44 = .ok (.iload_n 1, 1) := by decide +kernel
theorem dL_isPoured_45 : decode cL_isPoured 45 = .ok (.invokevirtual 39, 3) := by decide +kernel
theorem dL_isPoured_48 : decode cL_isPoured 48 = .ok (.dconst 0, 1) := by decide +kernel
theorem dL_isPoured_49 : decode cL_isPoured 49 = .ok (.dcmp .l, 1) := by decide +kernel
theorem dL_isPoured_50 : decode cL_isPoured 50 = .ok (.ifCond .ne 31, 3) := by decide +kernel
theorem dL_isPoured_53 : decode cL_isPoured 53 = .ok (.aload_n 0, 1) := by decide +kernel
theorem dL_isPoured_54 : decode cL_isPoured 54 = .ok (.invokestatic 23, 3) := by decide +kernel
theorem dL_isPoured_57 : decode cL_isPoured 57 = .ok (.dload 4, 2) := by decide +kernel
theorem dL_isPoured_59 : decode cL_isPoured 59 = .ok (.dadd, 1) := by decide +kernel
theorem dL_isPoured_60 : decode cL_isPoured 60 = .ok (.dload_n 2, 1) := by decide +kernel
theorem dL_isPoured_61 : decode cL_isPoured 61 = .ok (.invokestatic 45, 3) := by decide +kernel
theorem dL_isPoured_64 : decode cL_isPoured 64 = .ok (.ifCond .eq 17, 3) := by decide +kernel
theorem dL_isPoured_67 : decode cL_isPoured 67 = .ok (.aload_n 0, 1) := by decide +kernel
theorem dL_isPoured_68 : decode cL_isPoured 68 = .ok (.iload_n 1, 1) := by decide +kernel
theorem dL_isPoured_69 : decode cL_isPoured 69 = .ok (.invokevirtual 87, 3) := by decide +kernel
theorem dL_isPoured_72 : decode cL_isPoured 72 = .ok (.dconst 0, 1) := by decide +kernel
theorem dL_isPoured_73 : decode cL_isPoured 73 = .ok (.dcmp .l, 1) := by decide +kernel
theorem dL_isPoured_74 : decode cL_isPoured 74 = .ok (.ifCond .ne 7, 3) := by decide +kernel
theorem dL_isPoured_77 : decode cL_isPoured 77 = .ok (.iconst 1, 1) := by decide +kernel
theorem dL_isPoured_78 : decode cL_isPoured 78 = .ok (.goto 4, 3) := by decide +kernel
theorem dL_isPoured_81 : decode cL_isPoured 81 = .ok (.iconst 0, 1) := by decide +kernel
theorem dL_isPoured_82 : decode cL_isPoured 82 = .ok (.ireturn, 1) := by decide +kernel
set_option maxRecDepth 20000 in
theorem ggL_isAsked_L_litres : GoodIn wsL_isAsked wsL_litres := goodIn_ca (goodIn_r _ [6, 7, 8, 9, 10, 11, 12, 13, 14, 15, 16, 17, 18, 19, 20, 21, 22, 23, 24, 25, 162, 163, 164, 165, 166, 167, 168, 169, 170, 171, 172, 173, 174, 175, 176] (by decide +kernel) (by decide +kernel)) (goodIn_sub (fun _ h => List.mem_cons_of_mem _ (List.mem_append_right _ h)) (by decide +kernel))
set_option maxRecDepth 20000 in
theorem gL_isAsked_L_litres : GoodIn wsL_isAsked (va_wsS RL 23 yL_litres wsL_litres) := goodIn_app (goodIn_of _ (by decide +kernel)) ggL_isAsked_L_litres
set_option maxRecDepth 20000 in
theorem ggL_isAsked_X2_meanAge : GoodIn wsL_isAsked wsX2_meanAge := goodIn_r _ [29, 12, 30, 31, 32, 33, 34, 35, 36, 37, 38, 39, 40, 41, 42, 162, 163, 164, 165, 166, 167, 168, 169, 170, 171, 172, 173, 174, 175, 176] (by decide +kernel) (by decide +kernel)
set_option maxRecDepth 20000 in
theorem gL_isAsked_X2_meanAge : GoodIn wsL_isAsked (wsV RL 32 RX2 yX2_meanAge wsX2_meanAge) := goodIn_app (goodIn_of _ (by decide +kernel)) ggL_isAsked_X2_meanAge
set_option maxRecDepth 20000 in
theorem ggL_isAsked_X2_drawable : GoodIn wsL_isAsked wsX2_drawable := goodIn_r _ [46, 12, 47, 48, 49, 33, 50, 51, 36, 42, 52, 53, 54, 55, 37, 56, 57, 58, 59, 60, 35, 61, 62, 63, 64, 65, 66, 162, 163, 164, 165, 166, 167, 168, 169, 170, 171, 172, 173, 174, 175, 176] (by decide +kernel) (by decide +kernel)
set_option maxRecDepth 20000 in
theorem gL_isAsked_X2_drawable : GoodIn wsL_isAsked (wsV RL 70 RX2 yX2_drawable wsX2_drawable) := goodIn_app (goodIn_of _ (by decide +kernel)) ggL_isAsked_X2_drawable
set_option maxRecDepth 20000 in
theorem ggL_isAsked_X2_barrels : GoodIn wsL_isAsked wsX2_barrels := goodIn_r _ [11, 12, 13, 162, 163, 164, 165, 166, 167, 168, 169, 170] (by decide +kernel) (by decide +kernel)
set_option maxRecDepth 20000 in
theorem gL_isAsked_X2_barrels : GoodIn wsL_isAsked (wsV RL 10 RX2 yX2_barrels wsX2_barrels) := goodIn_app (goodIn_of _ (by decide +kernel)) ggL_isAsked_X2_barrels
set_option maxRecDepth 20000 in
theorem ggL_isAsked_X2_ageOf : GoodIn wsL_isAsked wsX2_ageOf := goodIn_ca (goodIn_r _ [70, 71, 19, 20, 21, 10, 22, 23, 24, 12, 13, 25, 171, 172, 173, 174, 175, 176, 162, 163, 164, 165, 166, 167, 168, 169, 170] (by decide +kernel) (by decide +kernel)) (goodIn_sub (fun _ h => List.mem_cons_of_mem _ (List.mem_append_right _ h)) (by decide +kernel))
set_option maxRecDepth 20000 in
theorem gL_isAsked_X2_ageOf : GoodIn wsL_isAsked (wsV RL 52 RX2 yX2_ageOf wsX2_ageOf) := goodIn_app (goodIn_of _ (by decide +kernel)) ggL_isAsked_X2_ageOf
set_option maxRecDepth 20000 in
theorem ggL_isAsked_X2_litresIn : GoodIn wsL_isAsked wsX2_litresIn := goodIn_ca (goodIn_r _ [17, 18, 19, 20, 21, 10, 22, 23, 24, 12, 13, 25, 171, 172, 173, 174, 175, 176, 162, 163, 164, 165, 166, 167, 168, 169, 170] (by decide +kernel) (by decide +kernel)) (goodIn_sub (fun _ h => List.mem_cons_of_mem _ (List.mem_append_right _ h)) (by decide +kernel))
set_option maxRecDepth 20000 in
theorem gL_isAsked_X2_litresIn : GoodIn wsL_isAsked (wsV RL 16 RX2 yX2_litresIn wsX2_litresIn) := goodIn_app (goodIn_of _ (by decide +kernel)) ggL_isAsked_X2_litresIn
set_option maxRecDepth 20000 in
theorem ggL_isAsked_X2_firstBottleIn : GoodIn wsL_isAsked wsX2_firstBottleIn := goodIn_r _ [75, 12, 76, 47, 48, 49, 33, 50, 51, 36, 42, 52, 53, 54, 55, 37, 56, 57, 58, 59, 60, 35, 61, 62, 63, 64, 65, 66, 77, 78, 79, 80, 81, 82, 83, 84, 85, 86, 87, 88, 89, 90, 91, 92, 93, 94, 95, 96, 97, 98, 99, 100, 101, 102, 103, 104, 105, 106, 107, 108, 109, 110, 111, 112, 113, 114, 115, 116, 117, 118, 119, 120, 121, 122, 123, 124, 125, 126, 127, 128, 129, 130, 131, 132, 133, 134, 135, 136, 137, 138, 139, 140, 141, 142, 143, 144, 145, 146, 147, 148, 149, 150, 151, 152, 153, 154, 155, 156, 162, 163, 164, 165, 166, 167, 168, 169, 170, 171, 172, 173, 174, 175, 176] (by decide +kernel) (by decide +kernel)
set_option maxRecDepth 20000 in
theorem gL_isAsked_X2_firstBottleIn : GoodIn wsL_isAsked (wsV RL 92 RX2 yX2_firstBottleIn wsX2_firstBottleIn) := goodIn_app (goodIn_of _ (by decide +kernel)) ggL_isAsked_X2_firstBottleIn
set_option maxRecDepth 20000 in
theorem ggL_isAsked_X2_oldest : GoodIn wsL_isAsked wsX2_oldest := goodIn_r _ [160, 12, 161, 58, 59, 33, 60, 35, 36, 42, 61, 62, 63, 64, 65, 66, 162, 163, 164, 165, 166, 167, 168, 169, 170, 171, 172, 173, 174, 175, 176] (by decide +kernel) (by decide +kernel)
set_option maxRecDepth 20000 in
theorem gL_isAsked_X2_oldest : GoodIn wsL_isAsked (wsV RL 49 RX2 yX2_oldest wsX2_oldest) := goodIn_app (goodIn_of _ (by decide +kernel)) ggL_isAsked_X2_oldest
theorem dL_isAsked_0 : decode cL_isAsked 0 = .ok (.aload_n 0, 1) := by decide +kernel
theorem dL_isAsked_1 : decode cL_isAsked 1 = .ok (.invokestatic 23, 3) := by decide +kernel
theorem dL_isAsked_4 : decode cL_isAsked 4 = .ok (.dstore_n 1, 1) := by decide +kernel
theorem dL_isAsked_5 : decode cL_isAsked 5 = .ok (.aload_n 0, 1) := by decide +kernel
theorem dL_isAsked_6 : decode cL_isAsked 6 = .ok (.invokevirtual 32, 3) := by decide +kernel
theorem dL_isAsked_9 : decode cL_isAsked 9 = .ok (.dstore_n 3, 1) := by decide +kernel
theorem dL_isAsked_10 : decode cL_isAsked 10 = .ok (.ldc2_w 90, 3) := by decide +kernel
theorem dL_isAsked_13 : decode cL_isAsked 13 = .ok (.dstore 5, 2) := by decide +kernel
theorem dL_isAsked_15 : decode cL_isAsked 15 = .ok (.dconst 0, 1) := by decide +kernel
theorem dL_isAsked_16 : decode cL_isAsked 16 = .ok (.dstore 7, 2) := by decide +kernel
theorem dL_isAsked_18 : decode cL_isAsked 18 = .ok (.aload_n 0, 1) := by decide +kernel
theorem dL_isAsked_19 : decode cL_isAsked 19 = .ok (.invokevirtual 70, 3) := by decide +kernel
theorem dL_isAsked_22 : decode cL_isAsked 22 = .ok (.istore 9, 2) := by decide +kernel
theorem dL_isAsked_24 : decode cL_isAsked 24 = .ok (.iconst 0, 1) := by decide +kernel
theorem dL_isAsked_25 : decode cL_isAsked 25 = .ok (.istore 10, 2) := by decide +kernel
theorem dL_isAsked_27 : decode cL_isAsked 27 = .ok (.iload 10, 2) := by decide +kernel
theorem dL_isAsked_29 : decode cL_isAsked 29 = .ok (.aload_n 0, 1) := by decide +kernel
theorem dL_isAsked_30 : decode cL_isAsked 30 = .ok (.invokevirtual 10, 3) := by decide +kernel
theorem dL_isAsked_33 : decode cL_isAsked 33 = .ok (.if_icmp .ge 79, 3) := by decide +kernel
theorem dL_isAsked_36 : decode cL_isAsked 36 = .ok (.aload_n 0, 1) := by decide +kernel
theorem dL_isAsked_37 : decode cL_isAsked 37 = .ok (.iload 10, 2) := by decide +kernel
theorem dL_isAsked_39 : decode cL_isAsked 39 = .ok (.invokevirtual 52, 3) := by decide +kernel
theorem dL_isAsked_42 : decode cL_isAsked 42 = .ok (.dstore 11, 2) := by decide +kernel
theorem dL_isAsked_44 : decode cL_isAsked 44 = .ok (.aload_n 0, 1) := by decide +kernel
theorem dL_isAsked_45 : decode cL_isAsked 45 = .ok (.iload 10, 2) := by decide +kernel
theorem dL_isAsked_47 : decode cL_isAsked 47 = .ok (.invokevirtual 16, 3) := by decide +kernel
theorem dL_isAsked_50 : decode cL_isAsked 50 = .ok (.dconst 0, 1) := by decide +kernel
theorem dL_isAsked_51 : decode cL_isAsked 51 = .ok (.dcmp .l, 1) := by decide +kernel
theorem dL_isAsked_52 : decode cL_isAsked 52 = .ok (.ifCond .le 7, 3) := by decide +kernel
theorem dL_isAsked_55 : decode cL_isAsked 55 = .ok (.iconst 1, 1) := by decide +kernel
theorem dL_isAsked_56 : decode cL_isAsked 56 = .ok (.goto 4, 3) := by decide +kernel
theorem dL_isAsked_59 : decode cL_isAsked 59 = .ok (.iconst 0, 1) := by decide +kernel
theorem dL_isAsked_60 : decode cL_isAsked 60 = .ok (.istore 13, 2) := by decide +kernel
theorem dL_isAsked_62 : decode cL_isAsked 62 = .ok (.iload 13, 2) := by decide +kernel
theorem dL_isAsked_64 : decode cL_isAsked 64 = .ok (.ifCond .eq 16, 3) := by decide +kernel
theorem dL_isAsked_67 : decode cL_isAsked 67 = .ok (.dload 11, 2) := by decide +kernel
theorem dL_isAsked_69 : decode cL_isAsked 69 = .ok (.dload 5, 2) := by decide +kernel
theorem dL_isAsked_71 : decode cL_isAsked 71 = .ok (.dcmp .g, 1) := by decide +kernel
theorem dL_isAsked_72 : decode cL_isAsked 72 = .ok (.ifCond .ge 8, 3) := by decide +kernel
theorem dL_isAsked_75 : decode cL_isAsked 75 = .ok (.dload 11, 2) := by decide +kernel
theorem dL_isAsked_77 : decode cL_isAsked 77 = .ok (.goto 5, 3) := by decide +kernel
theorem dL_isAsked_80 : decode cL_isAsked 80 = .ok (.dload 5, 2) := by decide +kernel
theorem dL_isAsked_82 : decode cL_isAsked 82 = .ok (.dstore 5, 2) := by decide +kernel
theorem dL_isAsked_84 : decode cL_isAsked 84 = .ok (.iload 13, 2) := by decide +kernel
theorem dL_isAsked_86 : decode cL_isAsked 86 = .ok (.ifCond .eq 16, 3) := by decide +kernel
theorem dL_isAsked_89 : decode cL_isAsked 89 = .ok (.dload 11, 2) := by decide +kernel
theorem dL_isAsked_91 : decode cL_isAsked 91 = .ok (.dload 7, 2) := by decide +kernel
theorem dL_isAsked_93 : decode cL_isAsked 93 = .ok (.dcmp .l, 1) := by decide +kernel
theorem dL_isAsked_94 : decode cL_isAsked 94 = .ok (.ifCond .le 8, 3) := by decide +kernel
theorem dL_isAsked_97 : decode cL_isAsked 97 = .ok (.dload 11, 2) := by decide +kernel
theorem dL_isAsked_99 : decode cL_isAsked 99 = .ok (.goto 5, 3) := by decide +kernel
theorem dL_isAsked_102 : decode cL_isAsked 102 = .ok (.dload 7, 2) := by decide +kernel
theorem dL_isAsked_104 : decode cL_isAsked 104 = .ok (.dstore 7, 2) := by decide +kernel
theorem dL_isAsked_106 : decode cL_isAsked 106 = .ok (.iinc 10 1, 3) := by decide +kernel
theorem dL_isAsked_109 : decode cL_isAsked 109 = .ok (.goto (-82), 3) := by decide +kernel
theorem dL_isAsked_112 : decode cL_isAsked 112 = .ok (.aload_n 0, 1) := by decide +kernel
theorem dL_isAsked_113 : decode cL_isAsked 113 = .ok (.invokevirtual 92, 3) := by decide +kernel
theorem dL_isAsked_116 : decode cL_isAsked 116 = .ok (.istore 10, 2) := by decide +kernel
theorem dL_isAsked_118 : decode cL_isAsked 118 = .ok (.aload_n 0, 1) := by decide +kernel
theorem dL_isAsked_119 : decode cL_isAsked 119 = .ok (.invokevirtual 49, 3) := by decide +kernel
theorem dL_isAsked_122 : decode cL_isAsked 122 = .ok (.istore 11, 2) := by decide +kernel
theorem dL_isAsked_124 : decode cL_isAsked 124 = .ok (.iload 10, 2) := by decide +kernel
theorem dL_isAsked_126 : decode cL_isAsked 126 = .ok (.iconst (-1), 1) := by decide +kernel
theorem dL_isAsked_127 : decode cL_isAsked 127 = .ok (.if_icmp .lt 119, 3) := by decide +kernel
theorem dL_isAsked_130 : decode cL_isAsked 130 = .ok (.iload 10, 2) := by decide +kernel
theorem dL_isAsked_132 : decode cL_isAsked 132 = .ok (.bipush 60, 2) := by decide +kernel
theorem dL_isAsked_134 : decode cL_isAsked 134 = .ok (.if_icmp .gt 112, 3) := by decide +kernel
theorem dL_isAsked_137 : decode cL_isAsked 137 = .ok (.iload 10, 2) := by decide +kernel
theorem dL_isAsked_139 : decode cL_isAsked 139 = .ok (.ifCond .ne 7, 3) := by decide +kernel
theorem dL_isAsked_142 : decode cL_isAsked 142 = .ok (.iconst 1, 1) := by decide +kernel
theorem dL_isAsked_143 : decode cL_isAsked 143 = .ok (.goto 4, 3) := by decide +kernel
theorem dL_isAsked_146 : decode cL_isAsked 146 = .ok (.iconst 0, 1) := by decide +kernel
theorem dL_isAsked_147 : decode cL_isAsked 147 = .ok (.iload 9, 2) := by decide +kernel
theorem dL_isAsked_149 : decode cL_isAsked 149 = .ok (.ifCond .le 7, 3) := by decide +kernel
theorem dL_isAsked_152 : decode cL_isAsked 152 = .ok (.iconst 1, 1) := by decide +kernel
theorem dL_isAsked_153 : decode cL_isAsked 153 = .ok (.goto 4, 3) := by decide +kernel
theorem dL_isAsked_156 : decode cL_isAsked 156 = .ok (.iconst 0, 1) := by decide +kernel
theorem dL_isAsked_157 : decode cL_isAsked 157 = .ok (.if_icmp .ne 89, 3) := by decide +kernel
theorem dL_isAsked_160 : decode cL_isAsked 160 = .ok (.aload_n 0, 1) := by decide +kernel
theorem dL_isAsked_161 : decode cL_isAsked 161 = .ok (.invokestatic 23, 3) := by decide +kernel
theorem dL_isAsked_164 : decode cL_isAsked 164 = .ok (.dload_n 1, 1) := by decide +kernel
theorem dL_isAsked_165 : decode cL_isAsked 165 = .ok (.dcmp .l, 1) := by decide +kernel
theorem dL_isAsked_166 : decode cL_isAsked 166 = .ok (.ifCond .ne 80, 3) := by decide +kernel
theorem dL_isAsked_169 : decode cL_isAsked 169 = .ok (.aload_n 0, 1) := by decide +kernel
theorem dL_isAsked_170 : decode cL_isAsked 170 = .ok (.invokevirtual 32, 3) := by decide +kernel
theorem dL_isAsked_173 : decode cL_isAsked 173 = .ok (.dload_n 3, 1) := by decide +kernel
theorem dL_isAsked_174 : decode cL_isAsked 174 = .ok (.dcmp .l, 1) := by decide +kernel
theorem dL_isAsked_175 : decode cL_isAsked 175 = .ok (.ifCond .ne 71, 3) := by decide +kernel
theorem dL_isAsked_178 : decode cL_isAsked 178 = .ok (.aload_n 0, 1) := by decide +kernel
theorem dL_isAsked_179 : decode cL_isAsked 179 = .ok (.invokevirtual 70, 3) := by decide +kernel
theorem dL_isAsked_182 : decode cL_isAsked 182 = .ok (.iload 9, 2) := by decide +kernel
theorem dL_isAsked_184 : decode cL_isAsked 184 = .ok (.if_icmp .ne 62, 3) := by decide +kernel
theorem dL_isAsked_187 : decode cL_isAsked 187 = .ok (.dload_n 1, 1) := by decide +kernel
theorem dL_isAsked_188 : decode cL_isAsked 188 = .ok (.dconst 0, 1) := by decide +kernel
theorem dL_isAsked_189 : decode cL_isAsked 189 = .ok (.dcmp .l, 1) := by decide +kernel
theorem dL_isAsked_190 : decode cL_isAsked 190 = .ok (.ifCond .ne 18, 3) := by decide +kernel
theorem dL_isAsked_193 : decode cL_isAsked 193 = .ok (.dload_n 3, 1) := by decide +kernel
theorem dL_isAsked_194 : decode cL_isAsked 194 = .ok (.dconst 0, 1) := by decide +kernel
theorem dL_isAsked_195 : decode cL_isAsked 195 = .ok (.dcmp .l, 1) := by decide +kernel
theorem dL_isAsked_196 : decode cL_isAsked 196 = .ok (.ifCond .ne 50, 3) := by decide +kernel
theorem dL_isAsked_199 : decode cL_isAsked 199 = .ok (.iload 11, 2) := by decide +kernel
theorem dL_isAsked_201 : decode cL_isAsked 201 = .ok (.iconst (-1), 1) := by decide +kernel
theorem dL_isAsked_202 : decode cL_isAsked 202 = .ok (.if_icmp .ne 44, 3) := by decide +kernel
theorem dL_isAsked_205 : decode cL_isAsked 205 = .ok (.goto 37, 3) := by decide +kernel
theorem dL_isAsked_208 : decode cL_isAsked 208 = .ok (.dload_n 3, 1) := by decide +kernel
theorem dL_isAsked_209 : decode cL_isAsked 209 = .ok (.dload 5, 2) := by decide +kernel
theorem dL_isAsked_211 : decode cL_isAsked 211 = .ok (.ldc2_w 8, 3) := by decide +kernel
theorem dL_isAsked_214 : decode cL_isAsked 214 = .ok (.dsub, 1) := by decide +kernel
theorem dL_isAsked_215 : decode cL_isAsked 215 = .ok (.dcmp .l, 1) := by decide +kernel
theorem dL_isAsked_216 : decode cL_isAsked 216 = .ok (.ifCond .le 30, 3) := by decide +kernel
theorem dL_isAsked_219 : decode cL_isAsked 219 = .ok (.dload_n 3, 1) := by decide +kernel
theorem dL_isAsked_220 : decode cL_isAsked 220 = .ok (.dload 7, 2) := by decide +kernel
theorem dL_isAsked_222 : decode cL_isAsked 222 = .ok (.ldc2_w 8, 3) := by decide +kernel
theorem dL_isAsked_225 : decode cL_isAsked 225 = .ok (.dadd, 1) := by decide +kernel
theorem dL_isAsked_226 : decode cL_isAsked 226 = .ok (.dcmp .g, 1) := by decide +kernel
theorem dL_isAsked_227 : decode cL_isAsked 227 = .ok (.ifCond .ge 19, 3) := by decide +kernel
theorem dL_isAsked_230 : decode cL_isAsked 230 = .ok (.aload_n 0, 1) := by decide +kernel
theorem dL_isAsked_231 : decode cL_isAsked 231 = .ok (.iload 11, 2) := by decide +kernel
theorem dL_isAsked_233 : decode cL_isAsked 233 = .ok (.invokevirtual 52, 3) := by decide +kernel
theorem dL_isAsked_236 : decode cL_isAsked 236 = .ok (.dload 7, 2) := by decide +kernel
theorem dL_isAsked_238 : decode cL_isAsked 238 = .ok (.dcmp .l, 1) := by decide +kernel
theorem dL_isAsked_239 : decode cL_isAsked 239 = .ok (.ifCond .ne 7, 3) := by decide +kernel
theorem dL_isAsked_242 : decode cL_isAsked 242 = .ok (.iconst 1, 1) := by decide +kernel
theorem dL_isAsked_243 : decode cL_isAsked 243 = .ok (.goto 4, 3) := by decide +kernel
theorem dL_isAsked_246 : decode cL_isAsked 246 = .ok (.iconst 0, 1) := by decide +kernel
theorem dL_isAsked_247 : decode cL_isAsked 247 = .ok (.ireturn, 1) := by decide +kernel
set_option maxRecDepth 20000 in
theorem ggL_law_X2_init : GoodIn wsL_law wsX2_init := goodIn_r _ [5, 6, 7, 8, 9, 10, 11, 12, 13, 14, 15, 16, 17, 18, 19, 20, 21, 22, 23, 24, 25, 26, 27, 28, 29, 30, 31, 320, 321, 322, 323, 324, 316, 317, 318, 319, 325, 326, 327, 328, 329, 330] (by decide +kernel) (by decide +kernel)
set_option maxRecDepth 20000 in
theorem gL_law_X2_init : GoodIn wsL_law (wsX2_init) := ggL_law_X2_init
set_option maxRecDepth 20000 in
theorem ggL_law_L_drawn : GoodIn wsL_law wsL_drawn := goodIn_r _ [35, 36] (by decide +kernel) (by decide +kernel)
set_option maxRecDepth 20000 in
theorem gL_law_L_drawn : GoodIn wsL_law (va_wsS RL 96 yL_drawn wsL_drawn) := goodIn_app (goodIn_of _ (by decide +kernel)) ggL_law_L_drawn
set_option maxRecDepth 20000 in
theorem ggL_law_X2_add : GoodIn wsL_law wsX2_add := goodIn_ca (goodIn_ca (goodIn_r _ [40, 41, 42, 43, 44, 12, 45, 46, 47, 11, 48, 25, 22, 49, 50, 51, 52, 53, 54, 55, 56, 57, 58, 59, 60, 61, 62, 24, 63, 64, 65, 66, 67, 316, 317, 318, 319, 320, 321, 322, 323, 324, 325, 326, 327, 328, 329, 330] (by decide +kernel) (by decide +kernel)) (goodIn_sub (fun _ h => List.mem_append_left _ (List.mem_append_left _ (List.mem_append_right _ h))) (by decide +kernel))) (goodIn_sub (fun _ h => List.mem_append_left _ (List.mem_append_right _ h)) (by decide +kernel))
set_option maxRecDepth 20000 in
theorem gL_law_X2_add : GoodIn wsL_law (wsV RL 100 RX2 yX2_add wsX2_add) := goodIn_app (goodIn_of _ (by decide +kernel)) ggL_law_X2_add
set_option maxRecDepth 20000 in
theorem ggL_law_L_isFilled : GoodIn wsL_law wsL_isFilled := goodIn_ca (goodIn_ca (goodIn_r _ [70, 71, 72, 73, 34, 74, 75, 76, 77, 2, 78, 12, 79, 80, 81, 82, 83, 84, 85, 86, 87, 88, 89, 90, 91, 92, 93, 94, 95, 41, 42, 96, 97, 98, 11, 99, 25, 22, 49, 100, 101, 102, 103, 104, 24, 105, 64, 65, 66, 67, 106, 107, 108, 109, 110, 111, 112, 113, 114, 115, 116, 117, 118, 119, 27, 120, 121, 122, 123, 28, 124, 125, 126, 127, 128, 129, 130, 131, 132, 316, 317, 318, 319, 320, 321, 322, 323, 324, 325, 326, 327, 328, 329, 330] (by decide +kernel) (by decide +kernel)) (goodIn_sub (fun _ h => List.mem_append_right _ h) (by decide +kernel))) (goodIn_sub (fun _ h => List.mem_append_left _ (List.mem_append_left _ (List.mem_append_right _ h))) (by decide +kernel))
set_option maxRecDepth 20000 in
theorem gL_law_L_isFilled : GoodIn wsL_law (va_wsS RL 104 yL_isFilled wsL_isFilled) := goodIn_app (goodIn_of _ (by decide +kernel)) ggL_law_L_isFilled
set_option maxRecDepth 20000 in
theorem ggL_law_L_isMoved : GoodIn wsL_law wsL_isMoved := goodIn_ca (goodIn_r _ [135, 71, 72, 73, 34, 74, 75, 76, 77, 2, 78, 12, 79, 80, 81, 82, 83, 84, 85, 86, 87, 88, 89, 90, 91, 136, 137, 138, 139, 140, 141, 142, 143, 144, 145, 146, 147, 148, 149, 150, 11, 151, 25, 22, 100, 152, 153, 154, 155, 120, 156, 157, 158, 159, 160, 161, 162, 163, 122, 164, 165, 166, 167, 168, 169, 170, 24, 171, 66, 172, 173, 65, 174, 67, 175, 176, 130, 131, 132, 64, 177, 178, 179, 180, 181, 182, 183, 184, 185, 186, 187, 188, 49, 189, 190, 102, 103, 104, 105, 106, 107, 108, 191, 192, 193, 194, 195, 61, 62, 63, 109, 110, 111, 316, 317, 318, 319, 320, 321, 322, 323, 324, 325, 326, 327, 328, 329, 330] (by decide +kernel) (by decide +kernel)) (goodIn_sub (fun _ h => List.mem_append_right _ h) (by decide +kernel))
set_option maxRecDepth 20000 in
theorem gL_law_L_isMoved : GoodIn wsL_law (va_wsS RL 108 yL_isMoved wsL_isMoved) := goodIn_app (goodIn_of _ (by decide +kernel)) ggL_law_L_isMoved
set_option maxRecDepth 20000 in
theorem ggL_law_L_isAged : GoodIn wsL_law wsL_isAged := goodIn_ca (goodIn_r _ [198, 199, 200, 201, 202, 71, 203, 72, 73, 34, 74, 75, 76, 77, 2, 78, 12, 79, 80, 81, 82, 83, 84, 85, 86, 87, 88, 89, 90, 91, 204, 205, 206, 207, 208, 126, 127, 11, 128, 25, 22, 120, 129, 130, 131, 24, 132, 64, 209, 210, 211, 212, 213, 214, 215, 216, 217, 16, 218, 219, 220, 221, 222, 223, 224, 225, 27, 226, 100, 28, 227, 228, 229, 230, 231, 26, 232, 233, 234, 235, 236, 237, 67, 238, 65, 239, 240, 241, 242, 243, 244, 245, 246, 192, 193, 194, 195, 61, 62, 63, 66, 176, 247, 248, 249, 250, 251, 252, 253, 174, 254, 255, 125, 109, 110, 111, 256, 257, 258, 259, 260, 139, 140, 141, 142, 143, 144, 145, 146, 147, 148, 149, 150, 151, 152, 153, 154, 155, 112, 113, 114, 115, 116, 117, 118, 119, 121, 122, 123, 124, 316, 317, 318, 319, 320, 321, 322, 323, 324, 325, 326, 327, 328, 329, 330] (by decide +kernel) (by decide +kernel)) (goodIn_sub (fun _ h => List.mem_append_right _ h) (by decide +kernel))
set_option maxRecDepth 20000 in
theorem gL_law_L_isAged : GoodIn wsL_law (va_wsS RL 112 yL_isAged wsL_isAged) := goodIn_app (goodIn_of _ (by decide +kernel)) ggL_law_L_isAged
set_option maxRecDepth 20000 in
theorem ggL_law_L_isBottled : GoodIn wsL_law wsL_isBottled := goodIn_ca (goodIn_ca (goodIn_r _ [263, 264, 112, 113, 114, 2, 115, 12, 116, 117, 118, 11, 119, 27, 22, 120, 121, 122, 123, 28, 100, 124, 125, 126, 127, 128, 25, 129, 130, 131, 24, 132, 64, 265, 266, 267, 268, 41, 42, 15, 72, 73, 34, 74, 75, 76, 77, 78, 79, 80, 81, 82, 83, 84, 85, 86, 87, 88, 89, 90, 91, 269, 270, 271, 272, 273, 274, 275, 276, 277, 278, 279, 280, 281, 282, 283, 284, 285, 191, 192, 193, 194, 195, 61, 62, 63, 65, 66, 67, 109, 110, 111, 71, 316, 317, 318, 319, 320, 321, 322, 323, 324, 325, 326, 327, 328, 329, 330] (by decide +kernel) (by decide +kernel)) (goodIn_sub (fun _ h => List.mem_append_left _ (List.mem_append_left _ (List.mem_append_right _ h))) (by decide +kernel))) (goodIn_sub (fun _ h => List.mem_append_right _ h) (by decide +kernel))
set_option maxRecDepth 20000 in
theorem gL_law_L_isBottled : GoodIn wsL_law (va_wsS RL 115 yL_isBottled wsL_isBottled) := goodIn_app (goodIn_of _ (by decide +kernel)) ggL_law_L_isBottled
set_option maxRecDepth 20000 in
theorem ggL_law_X2_setWarmth : GoodIn wsL_law wsX2_setWarmth := goodIn_ca (goodIn_r _ [289, 41, 42, 12, 290, 316, 317, 318, 319, 320, 321, 322, 323, 324] (by decide +kernel) (by decide +kernel)) (goodIn_sub (fun _ h => List.mem_append_left _ (List.mem_append_left _ (List.mem_append_right _ h))) (by decide +kernel))
set_option maxRecDepth 20000 in
theorem gL_law_X2_setWarmth : GoodIn wsL_law (wsV RL 119 RX2 yX2_setWarmth wsX2_setWarmth) := goodIn_app (goodIn_of _ (by decide +kernel)) ggL_law_X2_setWarmth
set_option maxRecDepth 20000 in
theorem ggL_law_L_isPoured : GoodIn wsL_law wsL_isPoured := goodIn_ca (goodIn_r _ [293, 72, 73, 34, 74, 75, 76, 77, 2, 78, 12, 79, 80, 81, 82, 83, 84, 85, 86, 87, 88, 89, 90, 91, 294, 295, 296, 297, 298, 61, 62, 24, 63, 64, 65, 66, 67, 139, 140, 141, 142, 143, 164, 165, 166, 167, 168, 169, 170, 171, 172, 173, 174, 175, 176, 130, 131, 132, 109, 110, 111, 71, 316, 317, 318, 319, 320, 321, 322, 323, 324, 325, 326, 327, 328, 329, 330] (by decide +kernel) (by decide +kernel)) (goodIn_sub (fun _ h => List.mem_append_right _ h) (by decide +kernel))
set_option maxRecDepth 20000 in
theorem gL_law_L_isPoured : GoodIn wsL_law (va_wsS RL 123 yL_isPoured wsL_isPoured) := goodIn_app (goodIn_of _ (by decide +kernel)) ggL_law_L_isPoured
set_option maxRecDepth 20000 in
theorem ggL_law_L_isAsked : GoodIn wsL_law wsL_isAsked := goodIn_ca (goodIn_r _ [301, 302, 71, 72, 73, 34, 74, 75, 76, 77, 2, 78, 12, 79, 80, 81, 82, 83, 84, 85, 86, 87, 88, 89, 90, 91, 144, 145, 146, 147, 148, 149, 150, 11, 151, 25, 22, 100, 152, 153, 154, 155, 120, 112, 113, 114, 115, 116, 117, 118, 119, 27, 121, 122, 123, 28, 124, 125, 126, 127, 128, 129, 130, 131, 24, 132, 64, 209, 210, 211, 212, 213, 303, 304, 305, 306, 13, 307, 308, 309, 310, 26, 311, 312, 313, 314, 237, 315, 65, 66, 67, 96, 97, 98, 99, 49, 101, 102, 103, 104, 105, 106, 107, 108, 181, 182, 183, 184, 185, 186, 187, 188, 189, 190, 191, 192, 193, 194, 195, 61, 62, 63, 222, 223, 224, 225, 226, 227, 228, 229, 230, 231, 232, 233, 234, 235, 236, 238, 239, 240, 241, 242, 243, 244, 245, 246, 176, 247, 248, 249, 250, 251, 252, 253, 174, 254, 255, 204, 205, 206, 207, 208, 316, 317, 318, 319, 320, 321, 322, 323, 324, 325, 326, 327, 328, 329, 330] (by decide +kernel) (by decide +kernel)) (goodIn_sub (fun _ h => List.mem_append_right _ h) (by decide +kernel))
set_option maxRecDepth 20000 in
theorem gL_law_L_isAsked : GoodIn wsL_law (va_wsS RL 126 yL_isAsked wsL_isAsked) := goodIn_app (goodIn_of _ (by decide +kernel)) ggL_law_L_isAsked
theorem dL_law_0 : decode cL_law 0 = .ok (.new 11, 3) := by decide +kernel
theorem dL_law_3 : decode cL_law 3 = .ok (.dup, 1) := by decide +kernel
theorem dL_law_4 : decode cL_law 4 = .ok (.invokespecial 95, 3) := by decide +kernel
theorem dL_law_7 : decode cL_law 7 = .ok (.astore_n 1, 1) := by decide +kernel
theorem dL_law_8 : decode cL_law 8 = .ok (.iconst 2, 1) := by decide +kernel
theorem dL_law_9 : decode cL_law 9 = .ok (.aload_n 0, 1) := by decide +kernel
theorem dL_law_10 : decode cL_law 10 = .ok (.iconst 0, 1) := by decide +kernel
theorem dL_law_11 : decode cL_law 11 = .ok (.bipush 7, 2) := by decide +kernel
theorem dL_law_13 : decode cL_law 13 = .ok (.invokestatic 96, 3) := by decide +kernel
theorem dL_law_16 : decode cL_law 16 = .ok (.iadd, 1) := by decide +kernel
theorem dL_law_17 : decode cL_law 17 = .ok (.istore_n 2, 1) := by decide +kernel
theorem dL_law_18 : decode cL_law 18 = .ok (.bipush 60, 2) := by decide +kernel
theorem dL_law_20 : decode cL_law 20 = .ok (.aload_n 0, 1) := by decide +kernel
theorem dL_law_21 : decode cL_law 21 = .ok (.iconst 1, 1) := by decide +kernel
theorem dL_law_22 : decode cL_law 22 = .ok (.bipush 41, 2) := by decide +kernel
theorem dL_law_24 : decode cL_law 24 = .ok (.invokestatic 96, 3) := by decide +kernel
theorem dL_law_27 : decode cL_law 27 = .ok (.iadd, 1) := by decide +kernel
theorem dL_law_28 : decode cL_law 28 = .ok (.istore_n 3, 1) := by decide +kernel
theorem dL_law_29 : decode cL_law 29 = .ok (.iload_n 3, 1) := by decide +kernel
theorem dL_law_30 : decode cL_law 30 = .ok (.istore 4, 2) := by decide +kernel
theorem dL_law_32 : decode cL_law 32 = .ok (.iconst 1, 1) := by decide +kernel
theorem dL_law_33 : decode cL_law 33 = .ok (.istore 5, 2) := by decide +kernel
theorem dL_law_35 : decode cL_law 35 = .ok (.iconst 0, 1) := by decide +kernel
theorem dL_law_36 : decode cL_law 36 = .ok (.istore 6, 2) := by decide +kernel
theorem dL_law_38 : decode cL_law 38 = .ok (.iload 6, 2) := by decide +kernel
theorem dL_law_40 : decode cL_law 40 = .ok (.iload_n 2, 1) := by decide +kernel
theorem dL_law_41 : decode cL_law 41 = .ok (.if_icmp .ge 59, 3) := by decide +kernel
theorem dL_law_44 : decode cL_law 44 = .ok (.iload 5, 2) := by decide +kernel
theorem dL_law_46 : decode cL_law 46 = .ok (.ifCond .eq 27, 3) := by decide +kernel
theorem dL_law_49 : decode cL_law 49 = .ok (.aload_n 1, 1) := by decide +kernel
theorem dL_law_50 : decode cL_law 50 = .ok (.aload_n 0, 1) := by decide +kernel
theorem dL_law_51 : decode cL_law 51 = .ok (.iconst 2, 1) := by decide +kernel
theorem dL_law_52 : decode cL_law 52 = .ok (.iload 6, 2) := by decide +kernel
theorem dL_law_54 : decode cL_law 54 = .ok (.iadd, 1) := by decide +kernel
theorem dL_law_55 : decode cL_law 55 = .ok (.iconst 4, 1) := by decide +kernel
theorem dL_law_56 : decode cL_law 56 = .ok (.invokestatic 96, 3) := by decide +kernel
theorem dL_law_59 : decode cL_law 59 = .ok (.iload 4, 2) := by decide +kernel
theorem dL_law_61 : decode cL_law 61 = .ok (.invokevirtual 100, 3) := by decide +kernel
theorem dL_law_64 : decode cL_law 64 = .ok (.iload 6, 2) := by decide +kernel
theorem dL_law_66 : decode cL_law 66 = .ok (.if_icmp .ne 7, 3) := by decide +kernel
theorem dL_law_69 : decode cL_law 69 = .ok (.iconst 1, 1) := by decide +kernel
theorem dL_law_70 : decode cL_law 70 = .ok (.goto 4, 3) := by decide +kernel
theorem dL_law_73 : decode cL_law 73 = .ok (.iconst 0, 1) := by decide +kernel
theorem dL_law_74 : decode cL_law 74 = .ok (.istore 5, 2) := by decide +kernel
theorem dL_law_76 : decode cL_law 76 = .ok (.iload 4, 2) := by decide +kernel
theorem dL_law_78 : decode cL_law 78 = .ok (.iconst 1, 1) := by decide +kernel
theorem dL_law_79 : decode cL_law 79 = .ok (.aload_n 0, 1) := by decide +kernel
theorem dL_law_80 : decode cL_law 80 = .ok (.bipush 10, 2) := by decide +kernel
theorem dL_law_82 : decode cL_law 82 = .ok (.iload 6, 2) := by decide +kernel
theorem dL_law_84 : decode cL_law 84 = .ok (.iadd, 1) := by decide +kernel
theorem dL_law_85 : decode cL_law 85 = .ok (.bipush 6, 2) := by decide +kernel
theorem dL_law_87 : decode cL_law 87 = .ok (.invokestatic 96, 3) := by decide +kernel
theorem dL_law_90 : decode cL_law 90 = .ok (.iadd, 1) := by decide +kernel
theorem dL_law_91 : decode cL_law 91 = .ok (.isub, 1) := by decide +kernel
theorem dL_law_92 : decode cL_law 92 = .ok (.istore 4, 2) := by decide +kernel
theorem dL_law_94 : decode cL_law 94 = .ok (.iinc 6 1, 3) := by decide +kernel
theorem dL_law_97 : decode cL_law 97 = .ok (.goto (-59), 3) := by decide +kernel
theorem dL_law_100 : decode cL_law 100 = .ok (.iconst 0, 1) := by decide +kernel
theorem dL_law_101 : decode cL_law 101 = .ok (.istore 6, 2) := by decide +kernel
theorem dL_law_103 : decode cL_law 103 = .ok (.iload 6, 2) := by decide +kernel
theorem dL_law_105 : decode cL_law 105 = .ok (.sipush 140, 3) := by decide +kernel
theorem dL_law_108 : decode cL_law 108 = .ok (.if_icmp .ge 179, 3) := by decide +kernel
theorem dL_law_111 : decode cL_law 111 = .ok (.iload 5, 2) := by decide +kernel
theorem dL_law_113 : decode cL_law 113 = .ok (.ifCond .eq 174, 3) := by decide +kernel
theorem dL_law_116 : decode cL_law 116 = .ok (.aload_n 0, 1) := by decide +kernel
theorem dL_law_117 : decode cL_law 117 = .ok (.iload 6, 2) := by decide +kernel
theorem dL_law_119 : decode cL_law 119 = .ok (.bipush 20, 2) := by decide +kernel
theorem dL_law_121 : decode cL_law 121 = .ok (.iadd, 1) := by decide +kernel
theorem dL_law_122 : decode cL_law 122 = .ok (.sipush 30000, 3) := by decide +kernel
theorem dL_law_125 : decode cL_law 125 = .ok (.invokestatic 96, 3) := by decide +kernel
theorem dL_law_128 : decode cL_law 128 = .ok (.istore 7, 2) := by decide +kernel
theorem dL_law_130 : decode cL_law 130 = .ok (.iload 7, 2) := by decide +kernel
theorem dL_law_132 : decode cL_law 132 = .ok (.bipush 16, 2) := by decide +kernel
theorem dL_law_134 : decode cL_law 134 = .ok (.irem, 1) := by decide +kernel
theorem dL_law_135 : decode cL_law 135 = .ok (.istore 8, 2) := by decide +kernel
theorem dL_law_137 : decode cL_law 137 = .ok (.iload 8, 2) := by decide +kernel
theorem dL_law_139 : decode cL_law 139 = .ok (.iconst 4, 1) := by decide +kernel
theorem dL_law_140 : decode cL_law 140 = .ok (.if_icmp .ge 23, 3) := by decide +kernel
theorem dL_law_143 : decode cL_law 143 = .ok (.aload_n 1, 1) := by decide +kernel
theorem dL_law_144 : decode cL_law 144 = .ok (.iconst 1, 1) := by decide +kernel
theorem dL_law_145 : decode cL_law 145 = .ok (.iload 7, 2) := by decide +kernel
theorem dL_law_147 : decode cL_law 147 = .ok (.bipush 16, 2) := by decide +kernel
theorem dL_law_149 : decode cL_law 149 = .ok (.idiv, 1) := by decide +kernel
theorem dL_law_150 : decode cL_law 150 = .ok (.bipush 100, 2) := by decide +kernel
theorem dL_law_152 : decode cL_law 152 = .ok (.irem, 1) := by decide +kernel
theorem dL_law_153 : decode cL_law 153 = .ok (.iadd, 1) := by decide +kernel
theorem dL_law_154 : decode cL_law 154 = .ok (.iload_n 3, 1) := by decide +kernel
theorem dL_law_155 : decode cL_law 155 = .ok (.invokestatic 104, 3) := by decide +kernel
theorem dL_law_158 : decode cL_law 158 = .ok (.istore 5, 2) := by decide +kernel
theorem dL_law_160 : decode cL_law 160 = .ok (.goto 121, 3) := by decide +kernel
theorem dL_law_163 : decode cL_law 163 = .ok (.iload 8, 2) := by decide +kernel
theorem dL_law_165 : decode cL_law 165 = .ok (.bipush 7, 2) := by decide +kernel
theorem dL_law_167 : decode cL_law 167 = .ok (.if_icmp .ge 12, 3) := by decide +kernel
theorem dL_law_170 : decode cL_law 170 = .ok (.aload_n 1, 1) := by decide +kernel
theorem dL_law_171 : decode cL_law 171 = .ok (.invokestatic 108, 3) := by decide +kernel
theorem dL_law_174 : decode cL_law 174 = .ok (.istore 5, 2) := by decide +kernel
theorem dL_law_176 : decode cL_law 176 = .ok (.goto 105, 3) := by decide +kernel
theorem dL_law_179 : decode cL_law 179 = .ok (.iload 8, 2) := by decide +kernel
theorem dL_law_181 : decode cL_law 181 = .ok (.bipush 13, 2) := by decide +kernel
theorem dL_law_183 : decode cL_law 183 = .ok (.if_icmp .ge 12, 3) := by decide +kernel
theorem dL_law_186 : decode cL_law 186 = .ok (.aload_n 1, 1) := by decide +kernel
theorem dL_law_187 : decode cL_law 187 = .ok (.invokestatic 112, 3) := by decide +kernel
theorem dL_law_190 : decode cL_law 190 = .ok (.istore 5, 2) := by decide +kernel
theorem dL_law_192 : decode cL_law 192 = .ok (.goto 89, 3) := by decide +kernel
theorem dL_law_195 : decode cL_law 195 = .ok (.iload 8, 2) := by decide +kernel
theorem dL_law_197 : decode cL_law 197 = .ok (.bipush 13, 2) := by decide +kernel
theorem dL_law_199 : decode cL_law 199 = .ok (.if_icmp .ne 22, 3) := by decide +kernel
theorem dL_law_202 : decode cL_law 202 = .ok (.aload_n 1, 1) := by decide +kernel
theorem dL_law_203 : decode cL_law 203 = .ok (.iconst 1, 1) := by decide +kernel
theorem dL_law_204 : decode cL_law 204 = .ok (.iload 7, 2) := by decide +kernel
theorem dL_law_206 : decode cL_law 206 = .ok (.bipush 16, 2) := by decide +kernel
theorem dL_law_208 : decode cL_law 208 = .ok (.idiv, 1) := by decide +kernel
theorem dL_law_209 : decode cL_law 209 = .ok (.bipush 60, 2) := by decide +kernel
theorem dL_law_211 : decode cL_law 211 = .ok (.irem, 1) := by decide +kernel
theorem dL_law_212 : decode cL_law 212 = .ok (.iadd, 1) := by decide +kernel
theorem dL_law_213 : decode cL_law 213 = .ok (.invokestatic 115, 3) := by decide +kernel
theorem dL_law_216 : decode cL_law 216 = .ok (.istore 5, 2) := by decide +kernel
theorem dL_law_218 : decode cL_law 218 = .ok (.goto 63, 3) := by decide +kernel
theorem dL_law_221 : decode cL_law 221 = .ok (.iload 8, 2) := by decide +kernel
theorem dL_law_223 : decode cL_law 223 = .ok (.bipush 14, 2) := by decide +kernel
theorem dL_law_225 : decode cL_law 225 = .ok (.if_icmp .ne 50, 3) := by decide +kernel
theorem dL_law_228 : decode cL_law 228 = .ok (.aload_n 1, 1) := by decide +kernel
theorem dL_law_229 : decode cL_law 229 = .ok (.iload 7, 2) := by decide +kernel
theorem dL_law_231 : decode cL_law 231 = .ok (.bipush 16, 2) := by decide +kernel
theorem dL_law_233 : decode cL_law 233 = .ok (.idiv, 1) := by decide +kernel
theorem dL_law_234 : decode cL_law 234 = .ok (.bipush 41, 2) := by decide +kernel
theorem dL_law_236 : decode cL_law 236 = .ok (.irem, 1) := by decide +kernel
theorem dL_law_237 : decode cL_law 237 = .ok (.invokevirtual 119, 3) := by decide +kernel
theorem dL_law_240 : decode cL_law 240 = .ok (.iload 7, 2) := by decide +kernel
theorem dL_law_242 : decode cL_law 242 = .ok (.bipush 16, 2) := by decide +kernel
theorem dL_law_244 : decode cL_law 244 = .ok (.idiv, 1) := by decide +kernel
theorem dL_law_245 : decode cL_law 245 = .ok (.bipush 7, 2) := by decide +kernel
theorem dL_law_247 : decode cL_law 247 = .ok (.irem, 1) := by decide +kernel
theorem dL_law_248 : decode cL_law 248 = .ok (.ifCond .gt 17, 3) := by decide +kernel
theorem dL_law_251 : decode cL_law 251 = .ok (.aload_n 1, 1) := by decide +kernel
theorem dL_law_252 : decode cL_law 252 = .ok (.iload 7, 2) := by decide +kernel
theorem dL_law_254 : decode cL_law 254 = .ok (.bipush 112, 2) := by decide +kernel
theorem dL_law_256 : decode cL_law 256 = .ok (.idiv, 1) := by decide +kernel
theorem dL_law_257 : decode cL_law 257 = .ok (.iload_n 2, 1) := by decide +kernel
theorem dL_law_258 : decode cL_law 258 = .ok (.irem, 1) := by decide +kernel
theorem dL_law_259 : decode cL_law 259 = .ok (.invokestatic 123, 3) := by decide +kernel
theorem dL_law_262 : decode cL_law 262 = .ok (.ifCond .eq 7, 3) := by decide +kernel
theorem dL_law_265 : decode cL_law 265 = .ok (.iconst 1, 1) := by decide +kernel
theorem dL_law_266 : decode cL_law 266 = .ok (.goto 4, 3) := by decide +kernel
theorem dL_law_269 : decode cL_law 269 = .ok (.iconst 0, 1) := by decide +kernel
theorem dL_law_270 : decode cL_law 270 = .ok (.istore 5, 2) := by decide +kernel
theorem dL_law_272 : decode cL_law 272 = .ok (.goto 9, 3) := by decide +kernel
theorem dL_law_275 : decode cL_law 275 = .ok (.aload_n 1, 1) := by decide +kernel
theorem dL_law_276 : decode cL_law 276 = .ok (.invokestatic 126, 3) := by decide +kernel
theorem dL_law_279 : decode cL_law 279 = .ok (.istore 5, 2) := by decide +kernel
theorem dL_law_281 : decode cL_law 281 = .ok (.iinc 6 1, 3) := by decide +kernel
theorem dL_law_284 : decode cL_law 284 = .ok (.goto (-181), 3) := by decide +kernel
theorem dL_law_287 : decode cL_law 287 = .ok (.iload 5, 2) := by decide +kernel
theorem dL_law_289 : decode cL_law 289 = .ok (.ifCond .eq 14, 3) := by decide +kernel
theorem dL_law_292 : decode cL_law 292 = .ok (.aload_n 1, 1) := by decide +kernel
theorem dL_law_293 : decode cL_law 293 = .ok (.invokestatic 126, 3) := by decide +kernel
theorem dL_law_296 : decode cL_law 296 = .ok (.ifCond .eq 7, 3) := by decide +kernel
theorem dL_law_299 : decode cL_law 299 = .ok (.iconst 1, 1) := by decide +kernel
theorem dL_law_300 : decode cL_law 300 = .ok (.goto 4, 3) := by decide +kernel
theorem dL_law_303 : decode cL_law 303 = .ok (.iconst 0, 1) := by decide +kernel
theorem dL_law_304 : decode cL_law 304 = .ok (.ireturn, 1) := by decide +kernel
abbrev vwCl : List vw_C := [(RX0, TX0, 6), (RX1, TX1, 5), (RX2, TX2, 4)]
