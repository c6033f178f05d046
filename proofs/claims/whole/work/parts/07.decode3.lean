theorem dX3_passes_39 : decode cX3_passes 39 = .ok (.iconst 1, 1) := by decide +kernel
theorem dX3_passes_40 : decode cX3_passes 40 = .ok (.iadd, 1) := by decide +kernel
theorem dX3_passes_41 : decode cX3_passes 41 = .ok (.putfield 95, 3) := by decide +kernel
theorem dX3_passes_44 : decode cX3_passes 44 = .ok (.aload_n 0, 1) := by decide +kernel
theorem dX3_passes_45 : decode cX3_passes 45 = .ok (.aload_n 0, 1) := by decide +kernel
theorem dX3_passes_46 : decode cX3_passes 46 = .ok (.invokevirtual 98, 3) := by decide +kernel
theorem dX3_passes_49 : decode cX3_passes 49 = .ok (.putfield 27, 3) := by decide +kernel
theorem dX3_passes_52 : decode cX3_passes 52 = .ok (.aload_n 0, 1) := by decide +kernel
theorem dX3_passes_53 : decode cX3_passes 53 = .ok (.aload_n 0, 1) := by decide +kernel
theorem dX3_passes_54 : decode cX3_passes 54 = .ok (.getfield 27, 3) := by decide +kernel
theorem dX3_passes_57 : decode cX3_passes 57 = .ok (.ifCond .ge 7, 3) := by decide +kernel
theorem dX3_passes_60 : decode cX3_passes 60 = .ok (.dconst 0, 1) := by decide +kernel
theorem dX3_passes_61 : decode cX3_passes 61 = .ok (.goto 18, 3) := by decide +kernel
theorem dX3_passes_64 : decode cX3_passes 64 = .ok (.ldc2_w 102, 3) := by decide +kernel
theorem dX3_passes_67 : decode cX3_passes 67 = .ok (.aload_n 0, 1) := by decide +kernel
theorem dX3_passes_68 : decode cX3_passes 68 = .ok (.getfield 16, 3) := by decide +kernel
theorem dX3_passes_71 : decode cX3_passes 71 = .ok (.iconst 0, 1) := by decide +kernel
theorem dX3_passes_72 : decode cX3_passes 72 = .ok (.aload_n 0, 1) := by decide +kernel
theorem dX3_passes_73 : decode cX3_passes 73 = .ok (.getfield 27, 3) := by decide +kernel
theorem dX3_passes_76 : decode cX3_passes 76 = .ok (.iadd, 1) := by decide +kernel
theorem dX3_passes_77 : decode cX3_passes 77 = .ok (.daload, 1) := by decide +kernel
theorem dX3_passes_78 : decode cX3_passes 78 = .ok (.dmul, 1) := by decide +kernel
theorem dX3_passes_79 : decode cX3_passes 79 = .ok (.putfield 104, 3) := by decide +kernel
theorem dX3_passes_82 : decode cX3_passes 82 = .ok (.dload_n 1, 1) := by decide +kernel
theorem dX3_passes_83 : decode cX3_passes 83 = .ok (.dreturn, 1) := by decide +kernel
set_option maxRecDepth 20000 in
theorem ggX3_bottlesNow_X3_oldestNow : GoodIn wsX3_bottlesNow wsX3_oldestNow := goodIn_r _ [11, 12, 2, 13, 14, 15, 10, 16, 20, 21, 22, 23, 24, 25, 26, 27, 28, 29, 30, 31, 32] (by decide +kernel) (by decide +kernel)
set_option maxRecDepth 20000 in
theorem gX3_bottlesNow_X3_oldestNow : GoodIn wsX3_bottlesNow (wsV RX3 98 RX3 yX3_oldestNow wsX3_oldestNow) := goodIn_app (goodIn_of _ (by decide +kernel)) ggX3_bottlesNow_X3_oldestNow
set_option maxRecDepth 20000 in
theorem ggX3_bottlesNow_X3_lesser : GoodIn wsX3_bottlesNow wsX3_lesser := goodIn_r _ [19] (by decide +kernel) (by decide +kernel)
set_option maxRecDepth 20000 in
theorem gX3_bottlesNow_X3_lesser : GoodIn wsX3_bottlesNow (va_wsS RX3 50 yX3_lesser wsX3_lesser) := goodIn_app (goodIn_of _ (by decide +kernel)) ggX3_bottlesNow_X3_lesser
theorem dX3_bottlesNow_0 : decode cX3_bottlesNow 0 = .ok (.aload_n 0, 1) := by decide +kernel
theorem dX3_bottlesNow_1 : decode cX3_bottlesNow 1 = .ok (.invokevirtual 98, 3) := by decide +kernel
theorem dX3_bottlesNow_4 : decode cX3_bottlesNow 4 = .ok (.istore_n 1, 1) := by decide +kernel
theorem dX3_bottlesNow_5 : decode cX3_bottlesNow 5 = .ok (.iload_n 1, 1) := by decide +kernel
theorem dX3_bottlesNow_6 : decode cX3_bottlesNow 6 = .ok (.ifCond .lt 43, 3) := by decide +kernel
theorem dX3_bottlesNow_9 : decode cX3_bottlesNow 9 = .ok (.iload_n 1, 1) := by decide +kernel
theorem dX3_bottlesNow_10 : decode cX3_bottlesNow 10 = .ok (.aload_n 0, 1) := by decide +kernel
theorem dX3_bottlesNow_11 : decode cX3_bottlesNow 11 = .ok (.getfield 27, 3) := by decide +kernel
theorem dX3_bottlesNow_14 : decode cX3_bottlesNow 14 = .ok (.if_icmp .ne 35, 3) := by decide +kernel
theorem dX3_bottlesNow_17 : decode cX3_bottlesNow 17 = .ok (.aload_n 0, 1) := by decide +kernel
theorem dX3_bottlesNow_18 : decode cX3_bottlesNow 18 = .ok (.getfield 16, 3) := by decide +kernel
theorem dX3_bottlesNow_21 : decode cX3_bottlesNow 21 = .ok (.bipush 8, 2) := by decide +kernel
theorem dX3_bottlesNow_23 : decode cX3_bottlesNow 23 = .ok (.iload_n 1, 1) := by decide +kernel
theorem dX3_bottlesNow_24 : decode cX3_bottlesNow 24 = .ok (.iadd, 1) := by decide +kernel
theorem dX3_bottlesNow_25 : decode cX3_bottlesNow 25 = .ok (.daload, 1) := by decide +kernel
theorem dX3_bottlesNow_26 : decode cX3_bottlesNow 26 = .ok (.ldc2_w 86, 3) := by decide +kernel
theorem dX3_bottlesNow_29 : decode cX3_bottlesNow 29 = .ok (.dcmp .g, 1) := by decide +kernel
theorem dX3_bottlesNow_30 : decode cX3_bottlesNow 30 = .ok (.ifCond .lt 19, 3) := by decide +kernel
theorem dX3_bottlesNow_33 : decode cX3_bottlesNow 33 = .ok (.aload_n 0, 1) := by decide +kernel
theorem dX3_bottlesNow_34 : decode cX3_bottlesNow 34 = .ok (.getfield 16, 3) := by decide +kernel
theorem dX3_bottlesNow_37 : decode cX3_bottlesNow 37 = .ok (.bipush 24, 2) := by decide +kernel
theorem dX3_bottlesNow_39 : decode cX3_bottlesNow 39 = .ok (.iload_n 1, 1) := by decide +kernel
theorem dX3_bottlesNow_40 : decode cX3_bottlesNow 40 = .ok (.iadd, 1) := by decide +kernel
theorem dX3_bottlesNow_41 : decode cX3_bottlesNow 41 = .ok (.daload, 1) := by decide +kernel
theorem dX3_bottlesNow_42 : decode cX3_bottlesNow 42 = .ok (.ldc2_w 108, 3) := by decide +kernel
theorem dX3_bottlesNow_45 : decode cX3_bottlesNow 45 = .ok (.dcmp .g, 1) := by decide +kernel
theorem dX3_bottlesNow_46 : decode cX3_bottlesNow 46 = .ok (.ifCond .ge 5, 3) := by decide +kernel
theorem dX3_bottlesNow_49 : decode cX3_bottlesNow 49 = .ok (.iconst 0, 1) := by decide +kernel
theorem dX3_bottlesNow_50 : decode cX3_bottlesNow 50 = .ok (.ireturn, 1) := by decide +kernel
theorem dX3_bottlesNow_51 : decode cX3_bottlesNow 51 = .ok (.aload_n 0, 1) := by decide +kernel
theorem dX3_bottlesNow_52 : decode cX3_bottlesNow 52 = .ok (.getfield 104, 3) := by decide +kernel
theorem dX3_bottlesNow_55 : decode cX3_bottlesNow 55 = .ok (.aload_n 0, 1) := by decide +kernel
theorem dX3_bottlesNow_56 : decode cX3_bottlesNow 56 = .ok (.getfield 16, 3) := by decide +kernel
theorem dX3_bottlesNow_59 : decode cX3_bottlesNow 59 = .ok (.iconst 0, 1) := by decide +kernel
theorem dX3_bottlesNow_60 : decode cX3_bottlesNow 60 = .ok (.iload_n 1, 1) := by decide +kernel
theorem dX3_bottlesNow_61 : decode cX3_bottlesNow 61 = .ok (.iadd, 1) := by decide +kernel
theorem dX3_bottlesNow_62 : decode cX3_bottlesNow 62 = .ok (.daload, 1) := by decide +kernel
theorem dX3_bottlesNow_63 : decode cX3_bottlesNow 63 = .ok (.invokestatic 50, 3) := by decide +kernel
theorem dX3_bottlesNow_66 : decode cX3_bottlesNow 66 = .ok (.dstore_n 2, 1) := by decide +kernel
theorem dX3_bottlesNow_67 : decode cX3_bottlesNow 67 = .ok (.dload_n 2, 1) := by decide +kernel
theorem dX3_bottlesNow_68 : decode cX3_bottlesNow 68 = .ok (.ldc2_w 84, 3) := by decide +kernel
theorem dX3_bottlesNow_71 : decode cX3_bottlesNow 71 = .ok (.ddiv, 1) := by decide +kernel
theorem dX3_bottlesNow_72 : decode cX3_bottlesNow 72 = .ok (.d2i, 1) := by decide +kernel
theorem dX3_bottlesNow_73 : decode cX3_bottlesNow 73 = .ok (.ireturn, 1) := by decide +kernel
theorem dX3_add_0 : decode cX3_add 0 = .ok (.iload_n 1, 1) := by decide +kernel
theorem dX3_add_1 : decode cX3_add 1 = .ok (.ifCond .lt 46, 3) := by decide +kernel
theorem dX3_add_4 : decode cX3_add 4 = .ok (.iload_n 1, 1) := by decide +kernel
theorem dX3_add_5 : decode cX3_add 5 = .ok (.iconst 3, 1) := by decide +kernel
theorem dX3_add_6 : decode cX3_add 6 = .ok (.if_icmp .gt 41, 3) := by decide +kernel
theorem dX3_add_9 : decode cX3_add 9 = .ok (.iload_n 2, 1) := by decide +kernel
theorem dX3_add_10 : decode cX3_add 10 = .ok (.bipush 10, 2) := by decide +kernel
theorem dX3_add_12 : decode cX3_add 12 = .ok (.if_icmp .lt 35, 3) := by decide +kernel
theorem dX3_add_15 : decode cX3_add 15 = .ok (.iload_n 2, 1) := by decide +kernel
theorem dX3_add_16 : decode cX3_add 16 = .ok (.bipush 100, 2) := by decide +kernel
theorem dX3_add_18 : decode cX3_add 18 = .ok (.if_icmp .gt 29, 3) := by decide +kernel
theorem dX3_add_21 : decode cX3_add 21 = .ok (.aload_n 0, 1) := by decide +kernel
theorem dX3_add_22 : decode cX3_add 22 = .ok (.getfield 33, 3) := by decide +kernel
theorem dX3_add_25 : decode cX3_add 25 = .ok (.ifCond .eq 18, 3) := by decide +kernel
theorem dX3_add_28 : decode cX3_add 28 = .ok (.iload_n 2, 1) := by decide +kernel
theorem dX3_add_29 : decode cX3_add 29 = .ok (.aload_n 0, 1) := by decide +kernel
theorem dX3_add_30 : decode cX3_add 30 = .ok (.getfield 13, 3) := by decide +kernel
theorem dX3_add_33 : decode cX3_add 33 = .ok (.aload_n 0, 1) := by decide +kernel
theorem dX3_add_34 : decode cX3_add 34 = .ok (.getfield 33, 3) := by decide +kernel
theorem dX3_add_37 : decode cX3_add 37 = .ok (.iconst 1, 1) := by decide +kernel
theorem dX3_add_38 : decode cX3_add 38 = .ok (.isub, 1) := by decide +kernel
theorem dX3_add_39 : decode cX3_add 39 = .ok (.iaload, 1) := by decide +kernel
theorem dX3_add_40 : decode cX3_add 40 = .ok (.if_icmp .ge 7, 3) := by decide +kernel
theorem dX3_add_43 : decode cX3_add 43 = .ok (.iconst 1, 1) := by decide +kernel
theorem dX3_add_44 : decode cX3_add 44 = .ok (.goto 4, 3) := by decide +kernel
theorem dX3_add_47 : decode cX3_add 47 = .ok (.iconst 0, 1) := by decide +kernel
theorem dX3_add_48 : decode cX3_add 48 = .ok (.istore_n 3, 1) := by decide +kernel
theorem dX3_add_49 : decode cX3_add 49 = .ok (.aload_n 0, 1) := by decide +kernel
theorem dX3_add_50 : decode cX3_add 50 = .ok (.iload_n 3, 1) := by decide +kernel
theorem dX3_add_51 : decode cX3_add 51 = .ok (.ifCond .ne 7, 3) := by decide +kernel
theorem dX3_add_54 : decode cX3_add 54 = .ok (.iconst 1, 1) := by decide +kernel
theorem dX3_add_55 : decode cX3_add 55 = .ok (.goto 17, 3) := by decide +kernel
theorem dX3_add_58 : decode cX3_add 58 = .ok (.aload_n 0, 1) := by decide +kernel
theorem dX3_add_59 : decode cX3_add 59 = .ok (.getfield 33, 3) := by decide +kernel
theorem dX3_add_62 : decode cX3_add 62 = .ok (.bipush 8, 2) := by decide +kernel
theorem dX3_add_64 : decode cX3_add 64 = .ok (.if_icmp .ne 7, 3) := by decide +kernel
theorem dX3_add_67 : decode cX3_add 67 = .ok (.iconst 2, 1) := by decide +kernel
theorem dX3_add_68 : decode cX3_add 68 = .ok (.goto 4, 3) := by decide +kernel
theorem dX3_add_71 : decode cX3_add 71 = .ok (.iconst 0, 1) := by decide +kernel
theorem dX3_add_72 : decode cX3_add 72 = .ok (.putfield 30, 3) := by decide +kernel
theorem dX3_add_75 : decode cX3_add 75 = .ok (.aload_n 0, 1) := by decide +kernel
theorem dX3_add_76 : decode cX3_add 76 = .ok (.getfield 30, 3) := by decide +kernel
theorem dX3_add_79 : decode cX3_add 79 = .ok (.ifCond .eq 5, 3) := by decide +kernel
theorem dX3_add_82 : decode cX3_add 82 = .ok (.iconst 0, 1) := by decide +kernel
theorem dX3_add_83 : decode cX3_add 83 = .ok (.ireturn, 1) := by decide +kernel
theorem dX3_add_84 : decode cX3_add 84 = .ok (.aload_n 0, 1) := by decide +kernel
theorem dX3_add_85 : decode cX3_add 85 = .ok (.getfield 7, 3) := by decide +kernel
theorem dX3_add_88 : decode cX3_add 88 = .ok (.aload_n 0, 1) := by decide +kernel
theorem dX3_add_89 : decode cX3_add 89 = .ok (.getfield 33, 3) := by decide +kernel
theorem dX3_add_92 : decode cX3_add 92 = .ok (.iload_n 1, 1) := by decide +kernel
theorem dX3_add_93 : decode cX3_add 93 = .ok (.iastore, 1) := by decide +kernel
theorem dX3_add_94 : decode cX3_add 94 = .ok (.aload_n 0, 1) := by decide +kernel
theorem dX3_add_95 : decode cX3_add 95 = .ok (.getfield 13, 3) := by decide +kernel
theorem dX3_add_98 : decode cX3_add 98 = .ok (.aload_n 0, 1) := by decide +kernel
theorem dX3_add_99 : decode cX3_add 99 = .ok (.getfield 33, 3) := by decide +kernel
theorem dX3_add_102 : decode cX3_add 102 = .ok (.iload_n 2, 1) := by decide +kernel
theorem dX3_add_103 : decode cX3_add 103 = .ok (.iastore, 1) := by decide +kernel
theorem dX3_add_104 : decode cX3_add 104 = .ok (.aload_n 0, 1) := by decide +kernel
theorem dX3_add_105 : decode cX3_add 105 = .ok (.dup, 1) := by decide +kernel
theorem dX3_add_106 : decode cX3_add 106 = .ok (.getfield 33, 3) := by decide +kernel
theorem dX3_add_109 : decode cX3_add 109 = .ok (.iconst 1, 1) := by decide +kernel
theorem dX3_add_110 : decode cX3_add 110 = .ok (.iadd, 1) := by decide +kernel
theorem dX3_add_111 : decode cX3_add 111 = .ok (.putfield 33, 3) := by decide +kernel
theorem dX3_add_114 : decode cX3_add 114 = .ok (.aload_n 0, 1) := by decide +kernel
theorem dX3_add_115 : decode cX3_add 115 = .ok (.getfield 33, 3) := by decide +kernel
theorem dX3_add_118 : decode cX3_add 118 = .ok (.iconst 1, 1) := by decide +kernel
theorem dX3_add_119 : decode cX3_add 119 = .ok (.isub, 1) := by decide +kernel
theorem dX3_add_120 : decode cX3_add 120 = .ok (.ireturn, 1) := by decide +kernel
set_option maxRecDepth 20000 in
theorem ggX3_fill_X3_room : GoodIn wsX3_fill wsX3_room := goodIn_r _ [7, 8, 9, 26, 27, 28, 29, 30, 31, 32, 33, 34, 35, 36, 37, 38] (by decide +kernel) (by decide +kernel)
set_option maxRecDepth 20000 in
theorem gX3_fill_X3_room : GoodIn wsX3_fill (wsV RX3 110 RX3 yX3_room wsX3_room) := goodIn_app (goodIn_of _ (by decide +kernel)) ggX3_fill_X3_room
set_option maxRecDepth 20000 in
theorem ggX3_fill_X3_lesser : GoodIn wsX3_fill wsX3_lesser := goodIn_r _ [12] (by decide +kernel) (by decide +kernel)
set_option maxRecDepth 20000 in
theorem gX3_fill_X3_lesser : GoodIn wsX3_fill (va_wsS RX3 50 yX3_lesser wsX3_lesser) := goodIn_app (goodIn_of _ (by decide +kernel)) ggX3_fill_X3_lesser
set_option maxRecDepth 20000 in
theorem ggX3_fill_X3_pours : GoodIn wsX3_fill wsX3_pours := goodIn_r _ [16, 17, 18, 19, 20, 6, 21, 9, 22, 23, 24, 25, 26, 27, 28, 29, 30, 31, 32, 33, 34, 35, 36, 37, 38] (by decide +kernel) (by decide +kernel)
set_option maxRecDepth 20000 in
theorem gX3_fill_X3_pours : GoodIn wsX3_fill (wsV RX3 113 RX3 yX3_pours wsX3_pours) := goodIn_app (goodIn_of _ (by decide +kernel)) ggX3_fill_X3_pours
theorem dX3_fill_0 : decode cX3_fill 0 = .ok (.aload_n 0, 1) := by decide +kernel
theorem dX3_fill_1 : decode cX3_fill 1 = .ok (.iload_n 1, 1) := by decide +kernel
theorem dX3_fill_2 : decode cX3_fill 2 = .ok (.iconst 1, 1) := by decide +kernel
theorem dX3_fill_3 : decode cX3_fill 3 = .ok (.if_icmp .lt 13, 3) := by decide +kernel
theorem dX3_fill_6 : decode cX3_fill 6 = .ok (.iload_n 1, 1) := by decide +kernel
theorem dX3_fill_7 : decode cX3_fill 7 = .ok (.bipush 100, 2) := by decide +kernel
theorem dX3_fill_9 : decode cX3_fill 9 = .ok (.if_icmp .gt 7, 3) := by decide +kernel
theorem dX3_fill_12 : decode cX3_fill 12 = .ok (.iconst 0, 1) := by decide +kernel
theorem dX3_fill_13 : decode cX3_fill 13 = .ok (.goto 4, 3) := by decide +kernel
theorem dX3_fill_16 : decode cX3_fill 16 = .ok (.iconst 1, 1) := by decide +kernel
theorem dX3_fill_17 : decode cX3_fill 17 = .ok (.putfield 30, 3) := by decide +kernel
theorem dX3_fill_20 : decode cX3_fill 20 = .ok (.aload_n 0, 1) := by decide +kernel
theorem dX3_fill_21 : decode cX3_fill 21 = .ok (.getfield 30, 3) := by decide +kernel
theorem dX3_fill_24 : decode cX3_fill 24 = .ok (.ifCond .ne 10, 3) := by decide +kernel
theorem dX3_fill_27 : decode cX3_fill 27 = .ok (.aload_n 0, 1) := by decide +kernel
theorem dX3_fill_28 : decode cX3_fill 28 = .ok (.getfield 33, 3) := by decide +kernel
theorem dX3_fill_31 : decode cX3_fill 31 = .ok (.ifCond .ne 7, 3) := by decide +kernel
theorem dX3_fill_34 : decode cX3_fill 34 = .ok (.dconst 0, 1) := by decide +kernel
theorem dX3_fill_35 : decode cX3_fill 35 = .ok (.goto 16, 3) := by decide +kernel
theorem dX3_fill_38 : decode cX3_fill 38 = .ok (.aload_n 0, 1) := by decide +kernel
theorem dX3_fill_39 : decode cX3_fill 39 = .ok (.iload_n 1, 1) := by decide +kernel
theorem dX3_fill_40 : decode cX3_fill 40 = .ok (.i2d, 1) := by decide +kernel
theorem dX3_fill_41 : decode cX3_fill 41 = .ok (.aload_n 0, 1) := by decide +kernel
theorem dX3_fill_42 : decode cX3_fill 42 = .ok (.invokevirtual 110, 3) := by decide +kernel
theorem dX3_fill_45 : decode cX3_fill 45 = .ok (.invokestatic 50, 3) := by decide +kernel
theorem dX3_fill_48 : decode cX3_fill 48 = .ok (.invokevirtual 113, 3) := by decide +kernel
theorem dX3_fill_51 : decode cX3_fill 51 = .ok (.dreturn, 1) := by decide +kernel
set_option maxRecDepth 20000 in
theorem ggX3_topUp_X3_topsUp : GoodIn wsX3_topUp wsX3_topsUp := goodIn_r _ [6, 7, 8, 9, 10, 11, 12, 13, 5, 14, 15, 16, 17, 18, 19, 20, 21, 22, 23, 24, 25, 26, 27, 28, 29, 30, 31, 32, 33, 34, 35] (by decide +kernel) (by decide +kernel)
set_option maxRecDepth 20000 in
theorem gX3_topUp_X3_topsUp : GoodIn wsX3_topUp (wsV RX3 117 RX3 yX3_topsUp wsX3_topsUp) := goodIn_app (goodIn_of _ (by decide +kernel)) ggX3_topUp_X3_topsUp
theorem dX3_topUp_0 : decode cX3_topUp 0 = .ok (.aload_n 0, 1) := by decide +kernel
theorem dX3_topUp_1 : decode cX3_topUp 1 = .ok (.iconst 0, 1) := by decide +kernel
theorem dX3_topUp_2 : decode cX3_topUp 2 = .ok (.putfield 30, 3) := by decide +kernel
theorem dX3_topUp_5 : decode cX3_topUp 5 = .ok (.aload_n 0, 1) := by decide +kernel
theorem dX3_topUp_6 : decode cX3_topUp 6 = .ok (.invokevirtual 117, 3) := by decide +kernel
theorem dX3_topUp_9 : decode cX3_topUp 9 = .ok (.dreturn, 1) := by decide +kernel
set_option maxRecDepth 20000 in
theorem ggX3_year_X3_passes : GoodIn wsX3_year wsX3_passes := goodIn_r _ [6, 7, 8, 9, 10, 11, 12, 13, 14, 15, 5, 16, 17, 18, 19, 20, 21, 22, 23, 24, 25, 26, 27, 28, 29, 30, 31, 32, 33, 34, 35, 36, 37, 38, 39, 40, 41, 42, 43, 44, 45, 46, 47, 48, 49, 50, 51, 52, 53, 54, 55, 56, 57, 58, 59, 60, 61, 62] (by decide +kernel) (by decide +kernel)
set_option maxRecDepth 20000 in
theorem gX3_year_X3_passes : GoodIn wsX3_year (wsV RX3 120 RX3 yX3_passes wsX3_passes) := goodIn_app (goodIn_of _ (by decide +kernel)) ggX3_year_X3_passes
theorem dX3_year_0 : decode cX3_year 0 = .ok (.aload_n 0, 1) := by decide +kernel
theorem dX3_year_1 : decode cX3_year 1 = .ok (.iconst 0, 1) := by decide +kernel
theorem dX3_year_2 : decode cX3_year 2 = .ok (.putfield 30, 3) := by decide +kernel
theorem dX3_year_5 : decode cX3_year 5 = .ok (.aload_n 0, 1) := by decide +kernel
theorem dX3_year_6 : decode cX3_year 6 = .ok (.invokevirtual 120, 3) := by decide +kernel
theorem dX3_year_9 : decode cX3_year 9 = .ok (.dreturn, 1) := by decide +kernel
theorem dX3_empties_0 : decode cX3_empties 0 = .ok (.aload_n 0, 1) := by decide +kernel
theorem dX3_empties_1 : decode cX3_empties 1 = .ok (.getfield 16, 3) := by decide +kernel
theorem dX3_empties_4 : decode cX3_empties 4 = .ok (.iconst 0, 1) := by decide +kernel
theorem dX3_empties_5 : decode cX3_empties 5 = .ok (.iload_n 1, 1) := by decide +kernel
theorem dX3_empties_6 : decode cX3_empties 6 = .ok (.iadd, 1) := by decide +kernel
theorem dX3_empties_7 : decode cX3_empties 7 = .ok (.dconst 0, 1) := by decide +kernel
theorem dX3_empties_8 : decode cX3_empties 8 = .ok (.dastore, 1) := by decide +kernel
theorem dX3_empties_9 : decode cX3_empties 9 = .ok (.aload_n 0, 1) := by decide +kernel
theorem dX3_empties_10 : decode cX3_empties 10 = .ok (.getfield 16, 3) := by decide +kernel
theorem dX3_empties_13 : decode cX3_empties 13 = .ok (.bipush 8, 2) := by decide +kernel
theorem dX3_empties_15 : decode cX3_empties 15 = .ok (.iload_n 1, 1) := by decide +kernel
theorem dX3_empties_16 : decode cX3_empties 16 = .ok (.iadd, 1) := by decide +kernel
theorem dX3_empties_17 : decode cX3_empties 17 = .ok (.dconst 0, 1) := by decide +kernel
theorem dX3_empties_18 : decode cX3_empties 18 = .ok (.dastore, 1) := by decide +kernel
theorem dX3_empties_19 : decode cX3_empties 19 = .ok (.aload_n 0, 1) := by decide +kernel
theorem dX3_empties_20 : decode cX3_empties 20 = .ok (.getfield 16, 3) := by decide +kernel
theorem dX3_empties_23 : decode cX3_empties 23 = .ok (.bipush 16, 2) := by decide +kernel
theorem dX3_empties_25 : decode cX3_empties 25 = .ok (.iload_n 1, 1) := by decide +kernel
theorem dX3_empties_26 : decode cX3_empties 26 = .ok (.iadd, 1) := by decide +kernel
theorem dX3_empties_27 : decode cX3_empties 27 = .ok (.dconst 0, 1) := by decide +kernel
theorem dX3_empties_28 : decode cX3_empties 28 = .ok (.dastore, 1) := by decide +kernel
theorem dX3_empties_29 : decode cX3_empties 29 = .ok (.aload_n 0, 1) := by decide +kernel
theorem dX3_empties_30 : decode cX3_empties 30 = .ok (.getfield 16, 3) := by decide +kernel
theorem dX3_empties_33 : decode cX3_empties 33 = .ok (.bipush 24, 2) := by decide +kernel
theorem dX3_empties_35 : decode cX3_empties 35 = .ok (.iload_n 1, 1) := by decide +kernel
theorem dX3_empties_36 : decode cX3_empties 36 = .ok (.iadd, 1) := by decide +kernel
theorem dX3_empties_37 : decode cX3_empties 37 = .ok (.dconst 0, 1) := by decide +kernel
theorem dX3_empties_38 : decode cX3_empties 38 = .ok (.dastore, 1) := by decide +kernel
theorem dX3_empties_39 : decode cX3_empties 39 = .ok (.return_, 1) := by decide +kernel
set_option maxRecDepth 20000 in
theorem ggX3_draw_X3_bottlesNow : GoodIn wsX3_draw wsX3_bottlesNow := goodIn_r _ [15, 2, 3, 16, 7, 9, 10, 17, 18, 19, 14, 20, 21, 22, 23, 24, 25, 26, 27, 28, 33, 34, 35, 36, 37, 38, 39, 40, 41, 42, 43, 44, 45] (by decide +kernel) (by decide +kernel)
set_option maxRecDepth 20000 in
theorem gX3_draw_X3_bottlesNow : GoodIn wsX3_draw (wsV RX3 123 RX3 yX3_bottlesNow wsX3_bottlesNow) := goodIn_app (goodIn_of _ (by decide +kernel)) ggX3_draw_X3_bottlesNow
set_option maxRecDepth 20000 in
theorem ggX3_draw_X3_isEmpty : GoodIn wsX3_draw wsX3_isEmpty := goodIn_r _ [25, 3, 33, 34, 35, 36, 37, 38, 39, 40, 41, 42, 43, 44, 45] (by decide +kernel) (by decide +kernel)
set_option maxRecDepth 20000 in
theorem gX3_draw_X3_isEmpty : GoodIn wsX3_draw (wsV RX3 88 RX3 yX3_isEmpty wsX3_isEmpty) := goodIn_app (goodIn_of _ (by decide +kernel)) ggX3_draw_X3_isEmpty
set_option maxRecDepth 20000 in
theorem ggX3_draw_X3_empties : GoodIn wsX3_draw wsX3_empties := goodIn_r _ [32, 3, 33, 34, 35, 36, 37, 38, 39, 40, 41, 42, 43, 44, 45] (by decide +kernel) (by decide +kernel)
set_option maxRecDepth 20000 in
theorem gX3_draw_X3_empties : GoodIn wsX3_draw (wsV RX3 137 RX3 yX3_empties wsX3_empties) := goodIn_app (goodIn_of _ (by decide +kernel)) ggX3_draw_X3_empties
theorem dX3_draw_0 : decode cX3_draw 0 = .ok (.aload_n 0, 1) := by decide +kernel
theorem dX3_draw_1 : decode cX3_draw 1 = .ok (.iload_n 1, 1) := by decide +kernel
theorem dX3_draw_2 : decode cX3_draw 2 = .ok (.iconst 1, 1) := by decide +kernel
theorem dX3_draw_3 : decode cX3_draw 3 = .ok (.if_icmp .lt 14, 3) := by decide +kernel
theorem dX3_draw_6 : decode cX3_draw 6 = .ok (.iload_n 1, 1) := by decide +kernel
theorem dX3_draw_7 : decode cX3_draw 7 = .ok (.sipush 1000, 3) := by decide +kernel
theorem dX3_draw_10 : decode cX3_draw 10 = .ok (.if_icmp .gt 7, 3) := by decide +kernel
theorem dX3_draw_13 : decode cX3_draw 13 = .ok (.iconst 0, 1) := by decide +kernel
theorem dX3_draw_14 : decode cX3_draw 14 = .ok (.goto 4, 3) := by decide +kernel
theorem dX3_draw_17 : decode cX3_draw 17 = .ok (.iconst 1, 1) := by decide +kernel
theorem dX3_draw_18 : decode cX3_draw 18 = .ok (.putfield 30, 3) := by decide +kernel
theorem dX3_draw_21 : decode cX3_draw 21 = .ok (.aload_n 0, 1) := by decide +kernel
theorem dX3_draw_22 : decode cX3_draw 22 = .ok (.getfield 30, 3) := by decide +kernel
theorem dX3_draw_25 : decode cX3_draw 25 = .ok (.ifCond .eq 5, 3) := by decide +kernel
theorem dX3_draw_28 : decode cX3_draw 28 = .ok (.iconst 0, 1) := by decide +kernel
theorem dX3_draw_29 : decode cX3_draw 29 = .ok (.ireturn, 1) := by decide +kernel
theorem dX3_draw_30 : decode cX3_draw 30 = .ok (.aload_n 0, 1) := by decide +kernel
theorem dX3_draw_31 : decode cX3_draw 31 = .ok (.invokevirtual 123, 3) := by decide +kernel
theorem dX3_draw_34 : decode cX3_draw 34 = .ok (.istore_n 2, 1) := by decide +kernel
theorem dX3_draw_35 : decode cX3_draw 35 = .ok (.iload_n 1, 1) := by decide +kernel
theorem dX3_draw_36 : decode cX3_draw 36 = .ok (.iload_n 2, 1) := by decide +kernel
theorem dX3_draw_37 : decode cX3_draw 37 = .ok (.if_icmp .ge 7, 3) := by decide +kernel
theorem dX3_draw_40 : decode cX3_draw 40 = .ok (.iload_n 1, 1) := by decide +kernel
theorem dX3_draw_41 : decode cX3_draw 41 = .ok (.goto 4, 3) := by decide +kernel
theorem dX3_draw_44 : decode cX3_draw 44 = .ok (.iload_n 2, 1) := by decide +kernel
theorem dX3_draw_45 : decode cX3_draw 45 = .ok (.istore_n 3, 1) := by decide +kernel
theorem dX3_draw_46 : decode cX3_draw 46 = .ok (.iload_n 3, 1) := by decide +kernel
theorem dX3_draw_47 : decode cX3_draw 47 = .ok (.ifCond .le 154, 3) := by decide +kernel
theorem dX3_draw_50 : decode cX3_draw 50 = .ok (.aload_n 0, 1) := by decide +kernel
theorem dX3_draw_51 : decode cX3_draw 51 = .ok (.getfield 27, 3) := by decide +kernel
theorem dX3_draw_54 : decode cX3_draw 54 = .ok (.istore 4, 2) := by decide +kernel
theorem dX3_draw_56 : decode cX3_draw 56 = .ok (.aload_n 0, 1) := by decide +kernel
theorem dX3_draw_57 : decode cX3_draw 57 = .ok (.getfield 16, 3) := by decide +kernel
theorem dX3_draw_60 : decode cX3_draw 60 = .ok (.bipush 8, 2) := by decide +kernel
theorem dX3_draw_62 : decode cX3_draw 62 = .ok (.iload 4, 2) := by decide +kernel
theorem dX3_draw_64 : decode cX3_draw 64 = .ok (.iadd, 1) := by decide +kernel
theorem dX3_draw_65 : decode cX3_draw 65 = .ok (.daload, 1) := by decide +kernel
theorem dX3_draw_66 : decode cX3_draw 66 = .ok (.dstore 5, 2) := by decide +kernel
theorem dX3_draw_68 : decode cX3_draw 68 = .ok (.aload_n 0, 1) := by decide +kernel
theorem dX3_draw_69 : decode cX3_draw 69 = .ok (.dup, 1) := by decide +kernel
theorem dX3_draw_70 : decode cX3_draw 70 = .ok (.getfield 126, 3) := by decide +kernel
theorem dX3_draw_73 : decode cX3_draw 73 = .ok (.dload 5, 2) := by decide +kernel
theorem dX3_draw_75 : decode cX3_draw 75 = .ok (.ldc2_w 129, 3) := by decide +kernel
theorem dX3_draw_78 : decode cX3_draw 78 = .ok (.dcmp .g, 1) := by decide +kernel
theorem dX3_draw_79 : decode cX3_draw 79 = .ok (.ifCond .ge 7, 3) := by decide +kernel
theorem dX3_draw_82 : decode cX3_draw 82 = .ok (.iload_n 3, 1) := by decide +kernel
theorem dX3_draw_83 : decode cX3_draw 83 = .ok (.goto 4, 3) := by decide +kernel
theorem dX3_draw_86 : decode cX3_draw 86 = .ok (.iconst 0, 1) := by decide +kernel
theorem dX3_draw_87 : decode cX3_draw 87 = .ok (.iadd, 1) := by decide +kernel
theorem dX3_draw_88 : decode cX3_draw 88 = .ok (.putfield 126, 3) := by decide +kernel
theorem dX3_draw_91 : decode cX3_draw 91 = .ok (.aload_n 0, 1) := by decide +kernel
theorem dX3_draw_92 : decode cX3_draw 92 = .ok (.dup, 1) := by decide +kernel
theorem dX3_draw_93 : decode cX3_draw 93 = .ok (.getfield 131, 3) := by decide +kernel
theorem dX3_draw_96 : decode cX3_draw 96 = .ok (.dload 5, 2) := by decide +kernel
theorem dX3_draw_98 : decode cX3_draw 98 = .ok (.ldc2_w 129, 3) := by decide +kernel
theorem dX3_draw_101 : decode cX3_draw 101 = .ok (.dcmp .l, 1) := by decide +kernel
theorem dX3_draw_102 : decode cX3_draw 102 = .ok (.ifCond .lt 16, 3) := by decide +kernel
theorem dX3_draw_105 : decode cX3_draw 105 = .ok (.dload 5, 2) := by decide +kernel
theorem dX3_draw_107 : decode cX3_draw 107 = .ok (.ldc2_w 108, 3) := by decide +kernel
theorem dX3_draw_110 : decode cX3_draw 110 = .ok (.dcmp .g, 1) := by decide +kernel
theorem dX3_draw_111 : decode cX3_draw 111 = .ok (.ifCond .ge 7, 3) := by decide +kernel
theorem dX3_draw_114 : decode cX3_draw 114 = .ok (.iload_n 3, 1) := by decide +kernel
theorem dX3_draw_115 : decode cX3_draw 115 = .ok (.goto 4, 3) := by decide +kernel
theorem dX3_draw_118 : decode cX3_draw 118 = .ok (.iconst 0, 1) := by decide +kernel
theorem dX3_draw_119 : decode cX3_draw 119 = .ok (.iadd, 1) := by decide +kernel
theorem dX3_draw_120 : decode cX3_draw 120 = .ok (.putfield 131, 3) := by decide +kernel
theorem dX3_draw_123 : decode cX3_draw 123 = .ok (.aload_n 0, 1) := by decide +kernel
theorem dX3_draw_124 : decode cX3_draw 124 = .ok (.dup, 1) := by decide +kernel
theorem dX3_draw_125 : decode cX3_draw 125 = .ok (.getfield 134, 3) := by decide +kernel
theorem dX3_draw_128 : decode cX3_draw 128 = .ok (.dload 5, 2) := by decide +kernel
theorem dX3_draw_130 : decode cX3_draw 130 = .ok (.ldc2_w 108, 3) := by decide +kernel
theorem dX3_draw_133 : decode cX3_draw 133 = .ok (.dcmp .l, 1) := by decide +kernel
theorem dX3_draw_134 : decode cX3_draw 134 = .ok (.ifCond .lt 7, 3) := by decide +kernel
theorem dX3_draw_137 : decode cX3_draw 137 = .ok (.iload_n 3, 1) := by decide +kernel
theorem dX3_draw_138 : decode cX3_draw 138 = .ok (.goto 4, 3) := by decide +kernel
theorem dX3_draw_141 : decode cX3_draw 141 = .ok (.iconst 0, 1) := by decide +kernel
theorem dX3_draw_142 : decode cX3_draw 142 = .ok (.iadd, 1) := by decide +kernel
theorem dX3_draw_143 : decode cX3_draw 143 = .ok (.putfield 134, 3) := by decide +kernel
theorem dX3_draw_146 : decode cX3_draw 146 = .ok (.aload_n 0, 1) := by decide +kernel
theorem dX3_draw_147 : decode cX3_draw 147 = .ok (.aload_n 0, 1) := by decide +kernel
theorem dX3_draw_148 : decode cX3_draw 148 = .ok (.getfield 104, 3) := by decide +kernel
theorem dX3_draw_151 : decode cX3_draw 151 = .ok (.iload_n 3, 1) := by decide +kernel
theorem dX3_draw_152 : decode cX3_draw 152 = .ok (.i2d, 1) := by decide +kernel
theorem dX3_draw_153 : decode cX3_draw 153 = .ok (.ldc2_w 84, 3) := by decide +kernel
theorem dX3_draw_156 : decode cX3_draw 156 = .ok (.dmul, 1) := by decide +kernel
theorem dX3_draw_157 : decode cX3_draw 157 = .ok (.dsub, 1) := by decide +kernel
theorem dX3_draw_158 : decode cX3_draw 158 = .ok (.putfield 104, 3) := by decide +kernel
theorem dX3_draw_161 : decode cX3_draw 161 = .ok (.aload_n 0, 1) := by decide +kernel
theorem dX3_draw_162 : decode cX3_draw 162 = .ok (.getfield 16, 3) := by decide +kernel
theorem dX3_draw_165 : decode cX3_draw 165 = .ok (.iconst 0, 1) := by decide +kernel
theorem dX3_draw_166 : decode cX3_draw 166 = .ok (.iload 4, 2) := by decide +kernel
theorem dX3_draw_168 : decode cX3_draw 168 = .ok (.iadd, 1) := by decide +kernel
theorem dX3_draw_169 : decode cX3_draw 169 = .ok (.aload_n 0, 1) := by decide +kernel
theorem dX3_draw_170 : decode cX3_draw 170 = .ok (.getfield 16, 3) := by decide +kernel
theorem dX3_draw_173 : decode cX3_draw 173 = .ok (.iconst 0, 1) := by decide +kernel
theorem dX3_draw_174 : decode cX3_draw 174 = .ok (.iload 4, 2) := by decide +kernel
theorem dX3_draw_176 : decode cX3_draw 176 = .ok (.iadd, 1) := by decide +kernel
theorem dX3_draw_177 : decode cX3_draw 177 = .ok (.daload, 1) := by decide +kernel
theorem dX3_draw_178 : decode cX3_draw 178 = .ok (.iload_n 3, 1) := by decide +kernel
theorem dX3_draw_179 : decode cX3_draw 179 = .ok (.i2d, 1) := by decide +kernel
theorem dX3_draw_180 : decode cX3_draw 180 = .ok (.ldc2_w 84, 3) := by decide +kernel
theorem dX3_draw_183 : decode cX3_draw 183 = .ok (.dmul, 1) := by decide +kernel
theorem dX3_draw_184 : decode cX3_draw 184 = .ok (.dsub, 1) := by decide +kernel
theorem dX3_draw_185 : decode cX3_draw 185 = .ok (.dastore, 1) := by decide +kernel
theorem dX3_draw_186 : decode cX3_draw 186 = .ok (.aload_n 0, 1) := by decide +kernel
theorem dX3_draw_187 : decode cX3_draw 187 = .ok (.iload 4, 2) := by decide +kernel
theorem dX3_draw_189 : decode cX3_draw 189 = .ok (.invokevirtual 88, 3) := by decide +kernel
theorem dX3_draw_192 : decode cX3_draw 192 = .ok (.ifCond .eq 9, 3) := by decide +kernel
theorem dX3_draw_195 : decode cX3_draw 195 = .ok (.aload_n 0, 1) := by decide +kernel
theorem dX3_draw_196 : decode cX3_draw 196 = .ok (.iload 4, 2) := by decide +kernel
theorem dX3_draw_198 : decode cX3_draw 198 = .ok (.invokevirtual 137, 3) := by decide +kernel
theorem dX3_draw_201 : decode cX3_draw 201 = .ok (.iload_n 3, 1) := by decide +kernel
theorem dX3_draw_202 : decode cX3_draw 202 = .ok (.ireturn, 1) := by decide +kernel
set_option maxRecDepth 20000 in
theorem ggX3_pourAway_X3_isThere : GoodIn wsX3_pourAway wsX3_isThere := goodIn_r _ [6, 7, 8, 13, 14, 15, 16, 17, 18, 19, 20, 21, 22, 23, 24, 25] (by decide +kernel) (by decide +kernel)
set_option maxRecDepth 20000 in
theorem gX3_pourAway_X3_isThere : GoodIn wsX3_pourAway (wsV RX3 141 RX3 yX3_isThere wsX3_isThere) := goodIn_app (goodIn_of _ (by decide +kernel)) ggX3_pourAway_X3_isThere
set_option maxRecDepth 20000 in
theorem ggX3_pourAway_X3_empties : GoodIn wsX3_pourAway wsX3_empties := goodIn_r _ [12, 1, 13, 14, 15, 16, 17, 18, 19, 20, 21, 22, 23, 24, 25] (by decide +kernel) (by decide +kernel)
set_option maxRecDepth 20000 in
theorem gX3_pourAway_X3_empties : GoodIn wsX3_pourAway (wsV RX3 137 RX3 yX3_empties wsX3_empties) := goodIn_app (goodIn_of _ (by decide +kernel)) ggX3_pourAway_X3_empties
theorem dX3_pourAway_0 : decode cX3_pourAway 0 = .ok (.aload_n 0, 1) := by decide +kernel
theorem dX3_pourAway_1 : decode cX3_pourAway 1 = .ok (.iload_n 1, 1) := by decide +kernel
theorem dX3_pourAway_2 : decode cX3_pourAway 2 = .ok (.invokevirtual 141, 3) := by decide +kernel
theorem dX3_pourAway_5 : decode cX3_pourAway 5 = .ok (.ifCond .ne 5, 3) := by decide +kernel
theorem dX3_pourAway_8 : decode cX3_pourAway 8 = .ok (.dconst 0, 1) := by decide +kernel
theorem dX3_pourAway_9 : decode cX3_pourAway 9 = .ok (.dreturn, 1) := by decide +kernel
theorem dX3_pourAway_10 : decode cX3_pourAway 10 = .ok (.aload_n 0, 1) := by decide +kernel
theorem dX3_pourAway_11 : decode cX3_pourAway 11 = .ok (.getfield 16, 3) := by decide +kernel
theorem dX3_pourAway_14 : decode cX3_pourAway 14 = .ok (.iconst 0, 1) := by decide +kernel
theorem dX3_pourAway_15 : decode cX3_pourAway 15 = .ok (.iload_n 1, 1) := by decide +kernel
theorem dX3_pourAway_16 : decode cX3_pourAway 16 = .ok (.iadd, 1) := by decide +kernel
theorem dX3_pourAway_17 : decode cX3_pourAway 17 = .ok (.daload, 1) := by decide +kernel
theorem dX3_pourAway_18 : decode cX3_pourAway 18 = .ok (.dstore_n 2, 1) := by decide +kernel
theorem dX3_pourAway_19 : decode cX3_pourAway 19 = .ok (.aload_n 0, 1) := by decide +kernel
theorem dX3_pourAway_20 : decode cX3_pourAway 20 = .ok (.iload_n 1, 1) := by decide +kernel
theorem dX3_pourAway_21 : decode cX3_pourAway 21 = .ok (.invokevirtual 137, 3) := by decide +kernel
theorem dX3_pourAway_24 : decode cX3_pourAway 24 = .ok (.dload_n 2, 1) := by decide +kernel
theorem dX3_pourAway_25 : decode cX3_pourAway 25 = .ok (.dreturn, 1) := by decide +kernel
theorem dX3_setWarmth_0 : decode cX3_setWarmth 0 = .ok (.aload_n 0, 1) := by decide +kernel
theorem dX3_setWarmth_1 : decode cX3_setWarmth 1 = .ok (.iload_n 1, 1) := by decide +kernel
theorem dX3_setWarmth_2 : decode cX3_setWarmth 2 = .ok (.ifCond .lt 13, 3) := by decide +kernel
theorem dX3_setWarmth_5 : decode cX3_setWarmth 5 = .ok (.iload_n 1, 1) := by decide +kernel
theorem dX3_setWarmth_6 : decode cX3_setWarmth 6 = .ok (.bipush 40, 2) := by decide +kernel
theorem dX3_setWarmth_8 : decode cX3_setWarmth 8 = .ok (.if_icmp .gt 7, 3) := by decide +kernel
theorem dX3_setWarmth_11 : decode cX3_setWarmth 11 = .ok (.iconst 0, 1) := by decide +kernel
theorem dX3_setWarmth_12 : decode cX3_setWarmth 12 = .ok (.goto 4, 3) := by decide +kernel
theorem dX3_setWarmth_15 : decode cX3_setWarmth 15 = .ok (.iconst 1, 1) := by decide +kernel
theorem dX3_setWarmth_16 : decode cX3_setWarmth 16 = .ok (.putfield 30, 3) := by decide +kernel
theorem dX3_setWarmth_19 : decode cX3_setWarmth 19 = .ok (.aload_n 0, 1) := by decide +kernel
theorem dX3_setWarmth_20 : decode cX3_setWarmth 20 = .ok (.aload_n 0, 1) := by decide +kernel
theorem dX3_setWarmth_21 : decode cX3_setWarmth 21 = .ok (.getfield 30, 3) := by decide +kernel
theorem dX3_setWarmth_24 : decode cX3_setWarmth 24 = .ok (.ifCond .ne 7, 3) := by decide +kernel
theorem dX3_setWarmth_27 : decode cX3_setWarmth 27 = .ok (.iload_n 1, 1) := by decide +kernel
theorem dX3_setWarmth_28 : decode cX3_setWarmth 28 = .ok (.goto 7, 3) := by decide +kernel
theorem dX3_setWarmth_31 : decode cX3_setWarmth 31 = .ok (.aload_n 0, 1) := by decide +kernel
theorem dX3_setWarmth_32 : decode cX3_setWarmth 32 = .ok (.getfield 23, 3) := by decide +kernel
theorem dX3_setWarmth_35 : decode cX3_setWarmth 35 = .ok (.putfield 23, 3) := by decide +kernel
theorem dX3_setWarmth_38 : decode cX3_setWarmth 38 = .ok (.return_, 1) := by decide +kernel
theorem dX3_barrels_0 : decode cX3_barrels 0 = .ok (.aload_n 0, 1) := by decide +kernel
theorem dX3_barrels_1 : decode cX3_barrels 1 = .ok (.iconst 0, 1) := by decide +kernel
theorem dX3_barrels_2 : decode cX3_barrels 2 = .ok (.putfield 30, 3) := by decide +kernel
theorem dX3_barrels_5 : decode cX3_barrels 5 = .ok (.aload_n 0, 1) := by decide +kernel
theorem dX3_barrels_6 : decode cX3_barrels 6 = .ok (.getfield 33, 3) := by decide +kernel
theorem dX3_barrels_9 : decode cX3_barrels 9 = .ok (.ireturn, 1) := by decide +kernel
set_option maxRecDepth 20000 in
theorem ggX3_of_X3_isThere : GoodIn wsX3_of wsX3_isThere := goodIn_r _ [6, 7, 8, 9, 10, 11, 12, 13, 14, 15, 16, 17, 18, 19, 20, 21] (by decide +kernel) (by decide +kernel)
set_option maxRecDepth 20000 in
theorem gX3_of_X3_isThere : GoodIn wsX3_of (wsV RX3 141 RX3 yX3_isThere wsX3_isThere) := goodIn_app (goodIn_of _ (by decide +kernel)) ggX3_of_X3_isThere
theorem dX3_of_0 : decode cX3_of 0 = .ok (.aload_n 0, 1) := by decide +kernel
theorem dX3_of_1 : decode cX3_of 1 = .ok (.iload_n 1, 1) := by decide +kernel
theorem dX3_of_2 : decode cX3_of 2 = .ok (.invokevirtual 141, 3) := by decide +kernel
theorem dX3_of_5 : decode cX3_of 5 = .ok (.ifCond .eq 14, 3) := by decide +kernel
theorem dX3_of_8 : decode cX3_of 8 = .ok (.aload_n 0, 1) := by decide +kernel
theorem dX3_of_9 : decode cX3_of 9 = .ok (.getfield 16, 3) := by decide +kernel
theorem dX3_of_12 : decode cX3_of 12 = .ok (.iload_n 2, 1) := by decide +kernel
theorem dX3_of_13 : decode cX3_of 13 = .ok (.iload_n 1, 1) := by decide +kernel
theorem dX3_of_14 : decode cX3_of 14 = .ok (.iadd, 1) := by decide +kernel
theorem dX3_of_15 : decode cX3_of 15 = .ok (.daload, 1) := by decide +kernel
theorem dX3_of_16 : decode cX3_of 16 = .ok (.goto 4, 3) := by decide +kernel
theorem dX3_of_19 : decode cX3_of 19 = .ok (.dconst 0, 1) := by decide +kernel
theorem dX3_of_20 : decode cX3_of 20 = .ok (.dreturn, 1) := by decide +kernel
set_option maxRecDepth 20000 in
theorem ggX3_litresIn_X3_of : GoodIn wsX3_litresIn wsX3_of := goodIn_r _ [5, 6, 7, 8, 9, 4, 10, 11, 12, 13, 14, 15, 16, 17, 18, 19, 20, 21, 22, 23, 24, 25] (by decide +kernel) (by decide +kernel)
set_option maxRecDepth 20000 in
theorem gX3_litresIn_X3_of : GoodIn wsX3_litresIn (wsV RX3 144 RX3 yX3_of wsX3_of) := goodIn_app (goodIn_of _ (by decide +kernel)) ggX3_litresIn_X3_of
theorem dX3_litresIn_0 : decode cX3_litresIn 0 = .ok (.aload_n 0, 1) := by decide +kernel
theorem dX3_litresIn_1 : decode cX3_litresIn 1 = .ok (.iload_n 1, 1) := by decide +kernel
theorem dX3_litresIn_2 : decode cX3_litresIn 2 = .ok (.iconst 0, 1) := by decide +kernel
theorem dX3_litresIn_3 : decode cX3_litresIn 3 = .ok (.invokevirtual 144, 3) := by decide +kernel
theorem dX3_litresIn_6 : decode cX3_litresIn 6 = .ok (.dreturn, 1) := by decide +kernel
set_option maxRecDepth 20000 in
theorem ggX3_ageOf_X3_of : GoodIn wsX3_ageOf wsX3_of := goodIn_r _ [5, 6, 7, 8, 9, 4, 10, 11, 12, 13, 14, 15, 16, 17, 18, 19, 20, 21, 22, 23, 24, 25] (by decide +kernel) (by decide +kernel)
set_option maxRecDepth 20000 in
theorem gX3_ageOf_X3_of : GoodIn wsX3_ageOf (wsV RX3 144 RX3 yX3_of wsX3_of) := goodIn_app (goodIn_of _ (by decide +kernel)) ggX3_ageOf_X3_of
theorem dX3_ageOf_0 : decode cX3_ageOf 0 = .ok (.aload_n 0, 1) := by decide +kernel
theorem dX3_ageOf_1 : decode cX3_ageOf 1 = .ok (.iload_n 1, 1) := by decide +kernel
theorem dX3_ageOf_2 : decode cX3_ageOf 2 = .ok (.bipush 8, 2) := by decide +kernel
theorem dX3_ageOf_4 : decode cX3_ageOf 4 = .ok (.invokevirtual 144, 3) := by decide +kernel
theorem dX3_ageOf_7 : decode cX3_ageOf 7 = .ok (.dreturn, 1) := by decide +kernel
set_option maxRecDepth 20000 in
theorem ggX3_acidOf_X3_of : GoodIn wsX3_acidOf wsX3_of := goodIn_r _ [5, 6, 7, 8, 9, 4, 10, 11, 12, 13, 14, 15, 16, 17, 18, 19, 20, 21, 22, 23, 24, 25] (by decide +kernel) (by decide +kernel)
set_option maxRecDepth 20000 in
theorem gX3_acidOf_X3_of : GoodIn wsX3_acidOf (wsV RX3 144 RX3 yX3_of wsX3_of) := goodIn_app (goodIn_of _ (by decide +kernel)) ggX3_acidOf_X3_of
theorem dX3_acidOf_0 : decode cX3_acidOf 0 = .ok (.aload_n 0, 1) := by decide +kernel
theorem dX3_acidOf_1 : decode cX3_acidOf 1 = .ok (.iload_n 1, 1) := by decide +kernel
theorem dX3_acidOf_2 : decode cX3_acidOf 2 = .ok (.bipush 16, 2) := by decide +kernel
theorem dX3_acidOf_4 : decode cX3_acidOf 4 = .ok (.invokevirtual 144, 3) := by decide +kernel
theorem dX3_acidOf_7 : decode cX3_acidOf 7 = .ok (.dreturn, 1) := by decide +kernel
set_option maxRecDepth 20000 in
theorem ggX3_sugarOf_X3_of : GoodIn wsX3_sugarOf wsX3_of := goodIn_r _ [5, 6, 7, 8, 9, 4, 10, 11, 12, 13, 14, 15, 16, 17, 18, 19, 20, 21, 22, 23, 24, 25] (by decide +kernel) (by decide +kernel)
set_option maxRecDepth 20000 in
theorem gX3_sugarOf_X3_of : GoodIn wsX3_sugarOf (wsV RX3 144 RX3 yX3_of wsX3_of) := goodIn_app (goodIn_of _ (by decide +kernel)) ggX3_sugarOf_X3_of
theorem dX3_sugarOf_0 : decode cX3_sugarOf 0 = .ok (.aload_n 0, 1) := by decide +kernel
theorem dX3_sugarOf_1 : decode cX3_sugarOf 1 = .ok (.iload_n 1, 1) := by decide +kernel
theorem dX3_sugarOf_2 : decode cX3_sugarOf 2 = .ok (.bipush 24, 2) := by decide +kernel
theorem dX3_sugarOf_4 : decode cX3_sugarOf 4 = .ok (.invokevirtual 144, 3) := by decide +kernel
theorem dX3_sugarOf_7 : decode cX3_sugarOf 7 = .ok (.dreturn, 1) := by decide +kernel
set_option maxRecDepth 20000 in
theorem ggX3_tasteOf_X3_isThere : GoodIn wsX3_tasteOf wsX3_isThere := goodIn_r _ [10, 11, 12, 17, 18, 19, 20, 21, 22, 23, 24, 25, 26, 27, 28, 29] (by decide +kernel) (by decide +kernel)
set_option maxRecDepth 20000 in
theorem gX3_tasteOf_X3_isThere : GoodIn wsX3_tasteOf (wsV RX3 141 RX3 yX3_isThere wsX3_isThere) := goodIn_app (goodIn_of _ (by decide +kernel)) ggX3_tasteOf_X3_isThere
set_option maxRecDepth 20000 in
theorem ggX3_tasteOf_X3_isEmpty : GoodIn wsX3_tasteOf wsX3_isEmpty := goodIn_r _ [16, 1, 17, 18, 19, 20, 21, 22, 23, 24, 25, 26, 27, 28, 29] (by decide +kernel) (by decide +kernel)
set_option maxRecDepth 20000 in
theorem gX3_tasteOf_X3_isEmpty : GoodIn wsX3_tasteOf (wsV RX3 88 RX3 yX3_isEmpty wsX3_isEmpty) := goodIn_app (goodIn_of _ (by decide +kernel)) ggX3_tasteOf_X3_isEmpty
theorem dX3_tasteOf_0 : decode cX3_tasteOf 0 = .ok (.aload_n 0, 1) := by decide +kernel
theorem dX3_tasteOf_1 : decode cX3_tasteOf 1 = .ok (.iload_n 1, 1) := by decide +kernel
theorem dX3_tasteOf_2 : decode cX3_tasteOf 2 = .ok (.invokevirtual 141, 3) := by decide +kernel
theorem dX3_tasteOf_5 : decode cX3_tasteOf 5 = .ok (.ifCond .eq 11, 3) := by decide +kernel
theorem dX3_tasteOf_8 : decode cX3_tasteOf 8 = .ok (.aload_n 0, 1) := by decide +kernel
theorem dX3_tasteOf_9 : decode cX3_tasteOf 9 = .ok (.iload_n 1, 1) := by decide +kernel
theorem dX3_tasteOf_10 : decode cX3_tasteOf 10 = .ok (.invokevirtual 88, 3) := by decide +kernel
theorem dX3_tasteOf_13 : decode cX3_tasteOf 13 = .ok (.ifCond .eq 5, 3) := by decide +kernel
theorem dX3_tasteOf_16 : decode cX3_tasteOf 16 = .ok (.dconst 0, 1) := by decide +kernel
theorem dX3_tasteOf_17 : decode cX3_tasteOf 17 = .ok (.dreturn, 1) := by decide +kernel
theorem dX3_tasteOf_18 : decode cX3_tasteOf 18 = .ok (.aload_n 0, 1) := by decide +kernel
theorem dX3_tasteOf_19 : decode cX3_tasteOf 19 = .ok (.getfield 16, 3) := by decide +kernel
theorem dX3_tasteOf_22 : decode cX3_tasteOf 22 = .ok (.bipush 16, 2) := by decide +kernel
theorem dX3_tasteOf_24 : decode cX3_tasteOf 24 = .ok (.iload_n 1, 1) := by decide +kernel
theorem dX3_tasteOf_25 : decode cX3_tasteOf 25 = .ok (.iadd, 1) := by decide +kernel
theorem dX3_tasteOf_26 : decode cX3_tasteOf 26 = .ok (.daload, 1) := by decide +kernel
theorem dX3_tasteOf_27 : decode cX3_tasteOf 27 = .ok (.ldc2_w 148, 3) := by decide +kernel
theorem dX3_tasteOf_30 : decode cX3_tasteOf 30 = .ok (.dsub, 1) := by decide +kernel
theorem dX3_tasteOf_31 : decode cX3_tasteOf 31 = .ok (.dstore_n 2, 1) := by decide +kernel
theorem dX3_tasteOf_32 : decode cX3_tasteOf 32 = .ok (.ldc2_w 48, 3) := by decide +kernel
theorem dX3_tasteOf_35 : decode cX3_tasteOf 35 = .ok (.aload_n 0, 1) := by decide +kernel
theorem dX3_tasteOf_36 : decode cX3_tasteOf 36 = .ok (.getfield 16, 3) := by decide +kernel
theorem dX3_tasteOf_39 : decode cX3_tasteOf 39 = .ok (.bipush 8, 2) := by decide +kernel
theorem dX3_tasteOf_41 : decode cX3_tasteOf 41 = .ok (.iload_n 1, 1) := by decide +kernel
theorem dX3_tasteOf_42 : decode cX3_tasteOf 42 = .ok (.iadd, 1) := by decide +kernel
theorem dX3_tasteOf_43 : decode cX3_tasteOf 43 = .ok (.daload, 1) := by decide +kernel
theorem dX3_tasteOf_44 : decode cX3_tasteOf 44 = .ok (.dmul, 1) := by decide +kernel
theorem dX3_tasteOf_45 : decode cX3_tasteOf 45 = .ok (.ldc2_w 82, 3) := by decide +kernel
theorem dX3_tasteOf_48 : decode cX3_tasteOf 48 = .ok (.aload_n 0, 1) := by decide +kernel
theorem dX3_tasteOf_49 : decode cX3_tasteOf 49 = .ok (.getfield 16, 3) := by decide +kernel
theorem dX3_tasteOf_52 : decode cX3_tasteOf 52 = .ok (.bipush 24, 2) := by decide +kernel
theorem dX3_tasteOf_54 : decode cX3_tasteOf 54 = .ok (.iload_n 1, 1) := by decide +kernel
theorem dX3_tasteOf_55 : decode cX3_tasteOf 55 = .ok (.iadd, 1) := by decide +kernel
theorem dX3_tasteOf_56 : decode cX3_tasteOf 56 = .ok (.daload, 1) := by decide +kernel
theorem dX3_tasteOf_57 : decode cX3_tasteOf 57 = .ok (.dmul, 1) := by decide +kernel
theorem dX3_tasteOf_58 : decode cX3_tasteOf 58 = .ok (.dadd, 1) := by decide +kernel
theorem dX3_tasteOf_59 : decode cX3_tasteOf 59 = .ok (.ldc2_w 150, 3) := by decide +kernel
theorem dX3_tasteOf_62 : decode cX3_tasteOf 62 = .ok (.dload_n 2, 1) := by decide +kernel
theorem dX3_tasteOf_63 : decode cX3_tasteOf 63 = .ok (.dconst 0, 1) := by decide +kernel
theorem dX3_tasteOf_64 : decode cX3_tasteOf 64 = .ok (.dcmp .g, 1) := by decide +kernel
theorem dX3_tasteOf_65 : decode cX3_tasteOf 65 = .ok (.ifCond .ge 8, 3) := by decide +kernel
theorem dX3_tasteOf_68 : decode cX3_tasteOf 68 = .ok (.dload_n 2, 1) := by decide +kernel
theorem dX3_tasteOf_69 : decode cX3_tasteOf 69 = .ok (.dneg, 1) := by decide +kernel
theorem dX3_tasteOf_70 : decode cX3_tasteOf 70 = .ok (.goto 4, 3) := by decide +kernel
theorem dX3_tasteOf_73 : decode cX3_tasteOf 73 = .ok (.dload_n 2, 1) := by decide +kernel
theorem dX3_tasteOf_74 : decode cX3_tasteOf 74 = .ok (.dmul, 1) := by decide +kernel
theorem dX3_tasteOf_75 : decode cX3_tasteOf 75 = .ok (.dsub, 1) := by decide +kernel
theorem dX3_tasteOf_76 : decode cX3_tasteOf 76 = .ok (.dreturn, 1) := by decide +kernel
set_option maxRecDepth 20000 in
theorem ggX3_oldest_X3_oldestNow : GoodIn wsX3_oldest wsX3_oldestNow := goodIn_r _ [6, 7, 8, 9, 10, 11, 5, 12, 13, 14, 15, 16, 17, 18, 19, 20, 21, 22, 23, 24, 25] (by decide +kernel) (by decide +kernel)
set_option maxRecDepth 20000 in
theorem gX3_oldest_X3_oldestNow : GoodIn wsX3_oldest (wsV RX3 98 RX3 yX3_oldestNow wsX3_oldestNow) := goodIn_app (goodIn_of _ (by decide +kernel)) ggX3_oldest_X3_oldestNow
theorem dX3_oldest_0 : decode cX3_oldest 0 = .ok (.aload_n 0, 1) := by decide +kernel
theorem dX3_oldest_1 : decode cX3_oldest 1 = .ok (.iconst 0, 1) := by decide +kernel
theorem dX3_oldest_2 : decode cX3_oldest 2 = .ok (.putfield 30, 3) := by decide +kernel
theorem dX3_oldest_5 : decode cX3_oldest 5 = .ok (.aload_n 0, 1) := by decide +kernel
theorem dX3_oldest_6 : decode cX3_oldest 6 = .ok (.invokevirtual 98, 3) := by decide +kernel
theorem dX3_oldest_9 : decode cX3_oldest 9 = .ok (.ireturn, 1) := by decide +kernel
set_option maxRecDepth 20000 in
theorem ggX3_drawable_X3_bottlesNow : GoodIn wsX3_drawable wsX3_bottlesNow := goodIn_r _ [6, 7, 8, 9, 10, 11, 12, 13, 14, 15, 5, 16, 17, 18, 19, 20, 21, 22, 23, 24, 25, 26, 27, 28, 29, 30, 31, 32, 33, 34, 35, 36, 37] (by decide +kernel) (by decide +kernel)
set_option maxRecDepth 20000 in
theorem gX3_drawable_X3_bottlesNow : GoodIn wsX3_drawable (wsV RX3 123 RX3 yX3_bottlesNow wsX3_bottlesNow) := goodIn_app (goodIn_of _ (by decide +kernel)) ggX3_drawable_X3_bottlesNow
theorem dX3_drawable_0 : decode cX3_drawable 0 = .ok (.aload_n 0, 1) := by decide +kernel
theorem dX3_drawable_1 : decode cX3_drawable 1 = .ok (.iconst 0, 1) := by decide +kernel
theorem dX3_drawable_2 : decode cX3_drawable 2 = .ok (.putfield 30, 3) := by decide +kernel
theorem dX3_drawable_5 : decode cX3_drawable 5 = .ok (.aload_n 0, 1) := by decide +kernel
theorem dX3_drawable_6 : decode cX3_drawable 6 = .ok (.invokevirtual 123, 3) := by decide +kernel
theorem dX3_drawable_9 : decode cX3_drawable 9 = .ok (.ireturn, 1) := by decide +kernel
theorem dX3_bottles_0 : decode cX3_bottles 0 = .ok (.aload_n 0, 1) := by decide +kernel
theorem dX3_bottles_1 : decode cX3_bottles 1 = .ok (.iload_n 1, 1) := by decide +kernel
theorem dX3_bottles_2 : decode cX3_bottles 2 = .ok (.ifCond .lt 12, 3) := by decide +kernel
theorem dX3_bottles_5 : decode cX3_bottles 5 = .ok (.iload_n 1, 1) := by decide +kernel
theorem dX3_bottles_6 : decode cX3_bottles 6 = .ok (.iconst 2, 1) := by decide +kernel
theorem dX3_bottles_7 : decode cX3_bottles 7 = .ok (.if_icmp .gt 7, 3) := by decide +kernel
theorem dX3_bottles_10 : decode cX3_bottles 10 = .ok (.iconst 0, 1) := by decide +kernel
theorem dX3_bottles_11 : decode cX3_bottles 11 = .ok (.goto 4, 3) := by decide +kernel
theorem dX3_bottles_14 : decode cX3_bottles 14 = .ok (.iconst 1, 1) := by decide +kernel
theorem dX3_bottles_15 : decode cX3_bottles 15 = .ok (.putfield 30, 3) := by decide +kernel
theorem dX3_bottles_18 : decode cX3_bottles 18 = .ok (.aload_n 0, 1) := by decide +kernel
theorem dX3_bottles_19 : decode cX3_bottles 19 = .ok (.getfield 30, 3) := by decide +kernel
theorem dX3_bottles_22 : decode cX3_bottles 22 = .ok (.ifCond .eq 7, 3) := by decide +kernel
theorem dX3_bottles_25 : decode cX3_bottles 25 = .ok (.iconst 0, 1) := by decide +kernel
theorem dX3_bottles_26 : decode cX3_bottles 26 = .ok (.goto 30, 3) := by decide +kernel
theorem dX3_bottles_29 : decode cX3_bottles 29 = .ok (.iload_n 1, 1) := by decide +kernel
theorem dX3_bottles_30 : decode cX3_bottles 30 = .ok (.ifCond .ne 10, 3) := by decide +kernel
theorem dX3_bottles_33 : decode cX3_bottles 33 = .ok (.aload_n 0, 1) := by decide +kernel
theorem dX3_bottles_34 : decode cX3_bottles 34 = .ok (.getfield 126, 3) := by decide +kernel
theorem dX3_bottles_37 : decode cX3_bottles 37 = .ok (.goto 19, 3) := by decide +kernel
theorem dX3_bottles_40 : decode cX3_bottles 40 = .ok (.iload_n 1, 1) := by decide +kernel
theorem dX3_bottles_41 : decode cX3_bottles 41 = .ok (.iconst 1, 1) := by decide +kernel
theorem dX3_bottles_42 : decode cX3_bottles 42 = .ok (.if_icmp .ne 10, 3) := by decide +kernel
theorem dX3_bottles_45 : decode cX3_bottles 45 = .ok (.aload_n 0, 1) := by decide +kernel
theorem dX3_bottles_46 : decode cX3_bottles 46 = .ok (.getfield 131, 3) := by decide +kernel
theorem dX3_bottles_49 : decode cX3_bottles 49 = .ok (.goto 7, 3) := by decide +kernel
theorem dX3_bottles_52 : decode cX3_bottles 52 = .ok (.aload_n 0, 1) := by decide +kernel
theorem dX3_bottles_53 : decode cX3_bottles 53 = .ok (.getfield 134, 3) := by decide +kernel
theorem dX3_bottles_56 : decode cX3_bottles 56 = .ok (.ireturn, 1) := by decide +kernel
theorem dX3_years_0 : decode cX3_years 0 = .ok (.aload_n 0, 1) := by decide +kernel
theorem dX3_years_1 : decode cX3_years 1 = .ok (.iconst 0, 1) := by decide +kernel
theorem dX3_years_2 : decode cX3_years 2 = .ok (.putfield 30, 3) := by decide +kernel
theorem dX3_years_5 : decode cX3_years 5 = .ok (.aload_n 0, 1) := by decide +kernel
theorem dX3_years_6 : decode cX3_years 6 = .ok (.getfield 95, 3) := by decide +kernel
theorem dX3_years_9 : decode cX3_years 9 = .ok (.ireturn, 1) := by decide +kernel
set_option maxRecDepth 20000 in
theorem ggX3_mean_X3_isEmpty : GoodIn wsX3_mean wsX3_isEmpty := goodIn_r _ [8, 3, 9, 10, 11, 12, 13, 14, 15, 16, 17, 18, 19, 20, 21] (by decide +kernel) (by decide +kernel)
set_option maxRecDepth 20000 in
theorem gX3_mean_X3_isEmpty : GoodIn wsX3_mean (wsV RX3 88 RX3 yX3_isEmpty wsX3_isEmpty) := goodIn_app (goodIn_of _ (by decide +kernel)) ggX3_mean_X3_isEmpty
theorem dX3_mean_0 : decode cX3_mean 0 = .ok (.aload_n 0, 1) := by decide +kernel
theorem dX3_mean_1 : decode cX3_mean 1 = .ok (.iconst 0, 1) := by decide +kernel
theorem dX3_mean_2 : decode cX3_mean 2 = .ok (.putfield 30, 3) := by decide +kernel
theorem dX3_mean_5 : decode cX3_mean 5 = .ok (.dconst 0, 1) := by decide +kernel
theorem dX3_mean_6 : decode cX3_mean 6 = .ok (.dstore_n 2, 1) := by decide +kernel
theorem dX3_mean_7 : decode cX3_mean 7 = .ok (.dconst 0, 1) := by decide +kernel
theorem dX3_mean_8 : decode cX3_mean 8 = .ok (.dstore 4, 2) := by decide +kernel
theorem dX3_mean_10 : decode cX3_mean 10 = .ok (.iconst 0, 1) := by decide +kernel
theorem dX3_mean_11 : decode cX3_mean 11 = .ok (.istore 6, 2) := by decide +kernel
theorem dX3_mean_13 : decode cX3_mean 13 = .ok (.iconst 0, 1) := by decide +kernel
theorem dX3_mean_14 : decode cX3_mean 14 = .ok (.istore 7, 2) := by decide +kernel
theorem dX3_mean_16 : decode cX3_mean 16 = .ok (.iload 7, 2) := by decide +kernel
theorem dX3_mean_18 : decode cX3_mean 18 = .ok (.aload_n 0, 1) := by decide +kernel
theorem dX3_mean_19 : decode cX3_mean 19 = .ok (.getfield 33, 3) := by decide +kernel
theorem dX3_mean_22 : decode cX3_mean 22 = .ok (.if_icmp .ge 66, 3) := by decide +kernel
theorem dX3_mean_25 : decode cX3_mean 25 = .ok (.iload 6, 2) := by decide +kernel
theorem dX3_mean_27 : decode cX3_mean 27 = .ok (.ifCond .ne 12, 3) := by decide +kernel
theorem dX3_mean_30 : decode cX3_mean 30 = .ok (.aload_n 0, 1) := by decide +kernel
theorem dX3_mean_31 : decode cX3_mean 31 = .ok (.iload 7, 2) := by decide +kernel
theorem dX3_mean_33 : decode cX3_mean 33 = .ok (.invokevirtual 88, 3) := by decide +kernel
theorem dX3_mean_36 : decode cX3_mean 36 = .ok (.ifCond .ne 7, 3) := by decide +kernel
theorem dX3_mean_39 : decode cX3_mean 39 = .ok (.iconst 1, 1) := by decide +kernel
