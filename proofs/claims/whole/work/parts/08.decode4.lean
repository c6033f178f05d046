theorem dX3_mean_40 : decode cX3_mean 40 = .ok (.goto 4, 3) := by decide +kernel
theorem dX3_mean_43 : decode cX3_mean 43 = .ok (.iconst 0, 1) := by decide +kernel
theorem dX3_mean_44 : decode cX3_mean 44 = .ok (.istore 6, 2) := by decide +kernel
theorem dX3_mean_46 : decode cX3_mean 46 = .ok (.dload 4, 2) := by decide +kernel
theorem dX3_mean_48 : decode cX3_mean 48 = .ok (.aload_n 0, 1) := by decide +kernel
theorem dX3_mean_49 : decode cX3_mean 49 = .ok (.getfield 16, 3) := by decide +kernel
theorem dX3_mean_52 : decode cX3_mean 52 = .ok (.iconst 0, 1) := by decide +kernel
theorem dX3_mean_53 : decode cX3_mean 53 = .ok (.iload 7, 2) := by decide +kernel
theorem dX3_mean_55 : decode cX3_mean 55 = .ok (.iadd, 1) := by decide +kernel
theorem dX3_mean_56 : decode cX3_mean 56 = .ok (.daload, 1) := by decide +kernel
theorem dX3_mean_57 : decode cX3_mean 57 = .ok (.aload_n 0, 1) := by decide +kernel
theorem dX3_mean_58 : decode cX3_mean 58 = .ok (.getfield 16, 3) := by decide +kernel
theorem dX3_mean_61 : decode cX3_mean 61 = .ok (.iload_n 1, 1) := by decide +kernel
theorem dX3_mean_62 : decode cX3_mean 62 = .ok (.iload 7, 2) := by decide +kernel
theorem dX3_mean_64 : decode cX3_mean 64 = .ok (.iadd, 1) := by decide +kernel
theorem dX3_mean_65 : decode cX3_mean 65 = .ok (.daload, 1) := by decide +kernel
theorem dX3_mean_66 : decode cX3_mean 66 = .ok (.dmul, 1) := by decide +kernel
theorem dX3_mean_67 : decode cX3_mean 67 = .ok (.dadd, 1) := by decide +kernel
theorem dX3_mean_68 : decode cX3_mean 68 = .ok (.dstore 4, 2) := by decide +kernel
theorem dX3_mean_70 : decode cX3_mean 70 = .ok (.dload_n 2, 1) := by decide +kernel
theorem dX3_mean_71 : decode cX3_mean 71 = .ok (.aload_n 0, 1) := by decide +kernel
theorem dX3_mean_72 : decode cX3_mean 72 = .ok (.getfield 16, 3) := by decide +kernel
theorem dX3_mean_75 : decode cX3_mean 75 = .ok (.iconst 0, 1) := by decide +kernel
theorem dX3_mean_76 : decode cX3_mean 76 = .ok (.iload 7, 2) := by decide +kernel
theorem dX3_mean_78 : decode cX3_mean 78 = .ok (.iadd, 1) := by decide +kernel
theorem dX3_mean_79 : decode cX3_mean 79 = .ok (.daload, 1) := by decide +kernel
theorem dX3_mean_80 : decode cX3_mean 80 = .ok (.dadd, 1) := by decide +kernel
theorem dX3_mean_81 : decode cX3_mean 81 = .ok (.dstore_n 2, 1) := by decide +kernel
theorem dX3_mean_82 : decode cX3_mean 82 = .ok (.iinc 7 1, 3) := by decide +kernel
theorem dX3_mean_85 : decode cX3_mean 85 = .ok (.goto (-69), 3) := by decide +kernel
theorem dX3_mean_88 : decode cX3_mean 88 = .ok (.iload 6, 2) := by decide +kernel
theorem dX3_mean_90 : decode cX3_mean 90 = .ok (.ifCond .eq 10, 3) := by decide +kernel
theorem dX3_mean_93 : decode cX3_mean 93 = .ok (.dload 4, 2) := by decide +kernel
theorem dX3_mean_95 : decode cX3_mean 95 = .ok (.dload_n 2, 1) := by decide +kernel
theorem dX3_mean_96 : decode cX3_mean 96 = .ok (.ddiv, 1) := by decide +kernel
theorem dX3_mean_97 : decode cX3_mean 97 = .ok (.goto 4, 3) := by decide +kernel
theorem dX3_mean_100 : decode cX3_mean 100 = .ok (.dconst 0, 1) := by decide +kernel
theorem dX3_mean_101 : decode cX3_mean 101 = .ok (.dreturn, 1) := by decide +kernel
set_option maxRecDepth 20000 in
theorem ggX3_meanAge_X3_mean : GoodIn wsX3_meanAge wsX3_mean := goodIn_r _ [5, 6, 7, 8, 9, 10, 11, 4, 12, 13, 14, 15, 16, 17, 18, 19, 20, 21, 22, 23, 24, 25] (by decide +kernel) (by decide +kernel)
set_option maxRecDepth 20000 in
theorem gX3_meanAge_X3_mean : GoodIn wsX3_meanAge (wsV RX3 152 RX3 yX3_mean wsX3_mean) := goodIn_app (goodIn_of _ (by decide +kernel)) ggX3_meanAge_X3_mean
theorem dX3_meanAge_0 : decode cX3_meanAge 0 = .ok (.aload_n 0, 1) := by decide +kernel
theorem dX3_meanAge_1 : decode cX3_meanAge 1 = .ok (.bipush 8, 2) := by decide +kernel
theorem dX3_meanAge_3 : decode cX3_meanAge 3 = .ok (.invokevirtual 152, 3) := by decide +kernel
theorem dX3_meanAge_6 : decode cX3_meanAge 6 = .ok (.dreturn, 1) := by decide +kernel
set_option maxRecDepth 20000 in
theorem ggX3_meanSugar_X3_mean : GoodIn wsX3_meanSugar wsX3_mean := goodIn_r _ [5, 6, 7, 8, 9, 10, 11, 4, 12, 13, 14, 15, 16, 17, 18, 19, 20, 21, 22, 23, 24, 25] (by decide +kernel) (by decide +kernel)
set_option maxRecDepth 20000 in
theorem gX3_meanSugar_X3_mean : GoodIn wsX3_meanSugar (wsV RX3 152 RX3 yX3_mean wsX3_mean) := goodIn_app (goodIn_of _ (by decide +kernel)) ggX3_meanSugar_X3_mean
theorem dX3_meanSugar_0 : decode cX3_meanSugar 0 = .ok (.aload_n 0, 1) := by decide +kernel
theorem dX3_meanSugar_1 : decode cX3_meanSugar 1 = .ok (.bipush 24, 2) := by decide +kernel
theorem dX3_meanSugar_3 : decode cX3_meanSugar 3 = .ok (.invokevirtual 152, 3) := by decide +kernel
theorem dX3_meanSugar_6 : decode cX3_meanSugar 6 = .ok (.dreturn, 1) := by decide +kernel
set_option maxRecDepth 20000 in
theorem ggX3_firstBottleIn_X3_bottlesNow : GoodIn wsX3_firstBottleIn wsX3_bottlesNow := goodIn_r _ [12, 6, 4, 13, 14, 7, 15, 16, 17, 18, 11, 19, 2, 20, 21, 22, 23, 24, 25, 26, 80, 81, 82, 83, 84, 85, 86, 87, 88, 89, 90, 91, 92] (by decide +kernel) (by decide +kernel)
set_option maxRecDepth 20000 in
theorem gX3_firstBottleIn_X3_bottlesNow : GoodIn wsX3_firstBottleIn (wsV RX3 123 RX3 yX3_bottlesNow wsX3_bottlesNow) := goodIn_app (goodIn_of _ (by decide +kernel)) ggX3_firstBottleIn_X3_bottlesNow
set_option maxRecDepth 20000 in
theorem ggX3_firstBottleIn_X3_room : GoodIn wsX3_firstBottleIn wsX3_room := goodIn_r _ [30, 31, 4, 80, 81, 82, 83, 84, 85, 86, 87, 88, 89, 90, 91, 92] (by decide +kernel) (by decide +kernel)
set_option maxRecDepth 20000 in
theorem gX3_firstBottleIn_X3_room : GoodIn wsX3_firstBottleIn (wsV RX3 110 RX3 yX3_room wsX3_room) := goodIn_app (goodIn_of _ (by decide +kernel)) ggX3_firstBottleIn_X3_room
set_option maxRecDepth 20000 in
theorem ggX3_firstBottleIn_X3_pours : GoodIn wsX3_firstBottleIn wsX3_pours := goodIn_r _ [35, 36, 37, 38, 39, 11, 40, 4, 41, 42, 43, 44, 80, 81, 82, 83, 84, 85, 86, 87, 88, 89, 90, 91, 92] (by decide +kernel) (by decide +kernel)
set_option maxRecDepth 20000 in
theorem gX3_firstBottleIn_X3_pours : GoodIn wsX3_firstBottleIn (wsV RX3 113 RX3 yX3_pours wsX3_pours) := goodIn_app (goodIn_of _ (by decide +kernel)) ggX3_firstBottleIn_X3_pours
set_option maxRecDepth 20000 in
theorem ggX3_firstBottleIn_X3_topsUp : GoodIn wsX3_firstBottleIn wsX3_topsUp := goodIn_r _ [48, 2, 49, 31, 4, 50, 24, 25, 11, 26, 37, 38, 39, 40, 41, 42, 43, 44, 80, 81, 82, 83, 84, 85, 86, 87, 88, 89, 90, 91, 92] (by decide +kernel) (by decide +kernel)
set_option maxRecDepth 20000 in
theorem gX3_firstBottleIn_X3_topsUp : GoodIn wsX3_firstBottleIn (wsV RX3 117 RX3 yX3_topsUp wsX3_topsUp) := goodIn_app (goodIn_of _ (by decide +kernel)) ggX3_firstBottleIn_X3_topsUp
set_option maxRecDepth 20000 in
theorem ggX3_firstBottleIn_X3_passes : GoodIn wsX3_firstBottleIn wsX3_passes := goodIn_r _ [54, 2, 5, 6, 55, 4, 7, 20, 21, 22, 11, 23, 56, 57, 58, 59, 60, 61, 62, 63, 64, 65, 15, 13, 66, 67, 68, 69, 70, 71, 72, 73, 74, 75, 76, 77, 78, 79, 24, 25, 26, 16, 17, 18, 19, 80, 81, 82, 83, 84, 85, 86, 87, 88, 89, 90, 91, 92] (by decide +kernel) (by decide +kernel)
set_option maxRecDepth 20000 in
theorem gX3_firstBottleIn_X3_passes : GoodIn wsX3_firstBottleIn (wsV RX3 120 RX3 yX3_passes wsX3_passes) := goodIn_app (goodIn_of _ (by decide +kernel)) ggX3_firstBottleIn_X3_passes
theorem dX3_firstBottleIn_0 : decode cX3_firstBottleIn 0 = .ok (.aload_n 0, 1) := by decide +kernel
theorem dX3_firstBottleIn_1 : decode cX3_firstBottleIn 1 = .ok (.iconst 0, 1) := by decide +kernel
theorem dX3_firstBottleIn_2 : decode cX3_firstBottleIn 2 = .ok (.putfield 30, 3) := by decide +kernel
theorem dX3_firstBottleIn_5 : decode cX3_firstBottleIn 5 = .ok (.aload_n 0, 1) := by decide +kernel
theorem dX3_firstBottleIn_6 : decode cX3_firstBottleIn 6 = .ok (.invokevirtual 123, 3) := by decide +kernel
theorem dX3_firstBottleIn_9 : decode cX3_firstBottleIn 9 = .ok (.ifCond .le 5, 3) := by decide +kernel
theorem dX3_firstBottleIn_12 : decode cX3_firstBottleIn 12 = .ok (.iconst 0, 1) := by decide +kernel
theorem dX3_firstBottleIn_13 : decode cX3_firstBottleIn 13 = .ok (.ireturn, 1) := by decide +kernel
theorem dX3_firstBottleIn_14 : decode cX3_firstBottleIn 14 = .ok (.aload_n 0, 1) := by decide +kernel
theorem dX3_firstBottleIn_15 : decode cX3_firstBottleIn 15 = .ok (.getfield 33, 3) := by decide +kernel
theorem dX3_firstBottleIn_18 : decode cX3_firstBottleIn 18 = .ok (.ifCond .ne 5, 3) := by decide +kernel
theorem dX3_firstBottleIn_21 : decode cX3_firstBottleIn 21 = .ok (.iconst (-1), 1) := by decide +kernel
theorem dX3_firstBottleIn_22 : decode cX3_firstBottleIn 22 = .ok (.ireturn, 1) := by decide +kernel
theorem dX3_firstBottleIn_23 : decode cX3_firstBottleIn 23 = .ok (.iconst 0, 1) := by decide +kernel
theorem dX3_firstBottleIn_24 : decode cX3_firstBottleIn 24 = .ok (.istore_n 1, 1) := by decide +kernel
theorem dX3_firstBottleIn_25 : decode cX3_firstBottleIn 25 = .ok (.iload_n 1, 1) := by decide +kernel
theorem dX3_firstBottleIn_26 : decode cX3_firstBottleIn 26 = .ok (.bipush 32, 2) := by decide +kernel
theorem dX3_firstBottleIn_28 : decode cX3_firstBottleIn 28 = .ok (.if_icmp .ge 21, 3) := by decide +kernel
theorem dX3_firstBottleIn_31 : decode cX3_firstBottleIn 31 = .ok (.aload_n 0, 1) := by decide +kernel
theorem dX3_firstBottleIn_32 : decode cX3_firstBottleIn 32 = .ok (.getfield 20, 3) := by decide +kernel
theorem dX3_firstBottleIn_35 : decode cX3_firstBottleIn 35 = .ok (.iload_n 1, 1) := by decide +kernel
theorem dX3_firstBottleIn_36 : decode cX3_firstBottleIn 36 = .ok (.aload_n 0, 1) := by decide +kernel
theorem dX3_firstBottleIn_37 : decode cX3_firstBottleIn 37 = .ok (.getfield 16, 3) := by decide +kernel
theorem dX3_firstBottleIn_40 : decode cX3_firstBottleIn 40 = .ok (.iload_n 1, 1) := by decide +kernel
theorem dX3_firstBottleIn_41 : decode cX3_firstBottleIn 41 = .ok (.daload, 1) := by decide +kernel
theorem dX3_firstBottleIn_42 : decode cX3_firstBottleIn 42 = .ok (.dastore, 1) := by decide +kernel
theorem dX3_firstBottleIn_43 : decode cX3_firstBottleIn 43 = .ok (.iinc 1 1, 3) := by decide +kernel
theorem dX3_firstBottleIn_46 : decode cX3_firstBottleIn 46 = .ok (.goto (-21), 3) := by decide +kernel
theorem dX3_firstBottleIn_49 : decode cX3_firstBottleIn 49 = .ok (.aload_n 0, 1) := by decide +kernel
theorem dX3_firstBottleIn_50 : decode cX3_firstBottleIn 50 = .ok (.getfield 95, 3) := by decide +kernel
theorem dX3_firstBottleIn_53 : decode cX3_firstBottleIn 53 = .ok (.istore_n 1, 1) := by decide +kernel
theorem dX3_firstBottleIn_54 : decode cX3_firstBottleIn 54 = .ok (.aload_n 0, 1) := by decide +kernel
theorem dX3_firstBottleIn_55 : decode cX3_firstBottleIn 55 = .ok (.getfield 27, 3) := by decide +kernel
theorem dX3_firstBottleIn_58 : decode cX3_firstBottleIn 58 = .ok (.istore_n 2, 1) := by decide +kernel
theorem dX3_firstBottleIn_59 : decode cX3_firstBottleIn 59 = .ok (.aload_n 0, 1) := by decide +kernel
theorem dX3_firstBottleIn_60 : decode cX3_firstBottleIn 60 = .ok (.getfield 104, 3) := by decide +kernel
theorem dX3_firstBottleIn_63 : decode cX3_firstBottleIn 63 = .ok (.dstore_n 3, 1) := by decide +kernel
theorem dX3_firstBottleIn_64 : decode cX3_firstBottleIn 64 = .ok (.iconst 0, 1) := by decide +kernel
theorem dX3_firstBottleIn_65 : decode cX3_firstBottleIn 65 = .ok (.istore 5, 2) := by decide +kernel
theorem dX3_firstBottleIn_67 : decode cX3_firstBottleIn 67 = .ok (.iconst 0, 1) := by decide +kernel
theorem dX3_firstBottleIn_68 : decode cX3_firstBottleIn 68 = .ok (.istore 6, 2) := by decide +kernel
theorem dX3_firstBottleIn_70 : decode cX3_firstBottleIn 70 = .ok (.iload 5, 2) := by decide +kernel
theorem dX3_firstBottleIn_72 : decode cX3_firstBottleIn 72 = .ok (.bipush 60, 2) := by decide +kernel
theorem dX3_firstBottleIn_74 : decode cX3_firstBottleIn 74 = .ok (.if_icmp .ge 50, 3) := by decide +kernel
theorem dX3_firstBottleIn_77 : decode cX3_firstBottleIn 77 = .ok (.iload 6, 2) := by decide +kernel
theorem dX3_firstBottleIn_79 : decode cX3_firstBottleIn 79 = .ok (.ifCond .ne 45, 3) := by decide +kernel
theorem dX3_firstBottleIn_82 : decode cX3_firstBottleIn 82 = .ok (.aload_n 0, 1) := by decide +kernel
theorem dX3_firstBottleIn_83 : decode cX3_firstBottleIn 83 = .ok (.aload_n 0, 1) := by decide +kernel
theorem dX3_firstBottleIn_84 : decode cX3_firstBottleIn 84 = .ok (.invokevirtual 110, 3) := by decide +kernel
theorem dX3_firstBottleIn_87 : decode cX3_firstBottleIn 87 = .ok (.invokevirtual 113, 3) := by decide +kernel
theorem dX3_firstBottleIn_90 : decode cX3_firstBottleIn 90 = .ok (.dstore 7, 2) := by decide +kernel
theorem dX3_firstBottleIn_92 : decode cX3_firstBottleIn 92 = .ok (.aload_n 0, 1) := by decide +kernel
theorem dX3_firstBottleIn_93 : decode cX3_firstBottleIn 93 = .ok (.invokevirtual 117, 3) := by decide +kernel
theorem dX3_firstBottleIn_96 : decode cX3_firstBottleIn 96 = .ok (.dstore 9, 2) := by decide +kernel
theorem dX3_firstBottleIn_98 : decode cX3_firstBottleIn 98 = .ok (.aload_n 0, 1) := by decide +kernel
theorem dX3_firstBottleIn_99 : decode cX3_firstBottleIn 99 = .ok (.invokevirtual 120, 3) := by decide +kernel
theorem dX3_firstBottleIn_102 : decode cX3_firstBottleIn 102 = .ok (.dstore 11, 2) := by decide +kernel
theorem dX3_firstBottleIn_104 : decode cX3_firstBottleIn 104 = .ok (.iinc 5 1, 3) := by decide +kernel
theorem dX3_firstBottleIn_107 : decode cX3_firstBottleIn 107 = .ok (.aload_n 0, 1) := by decide +kernel
theorem dX3_firstBottleIn_108 : decode cX3_firstBottleIn 108 = .ok (.invokevirtual 123, 3) := by decide +kernel
theorem dX3_firstBottleIn_111 : decode cX3_firstBottleIn 111 = .ok (.ifCond .le 7, 3) := by decide +kernel
theorem dX3_firstBottleIn_114 : decode cX3_firstBottleIn 114 = .ok (.iconst 1, 1) := by decide +kernel
theorem dX3_firstBottleIn_115 : decode cX3_firstBottleIn 115 = .ok (.goto 4, 3) := by decide +kernel
theorem dX3_firstBottleIn_118 : decode cX3_firstBottleIn 118 = .ok (.iconst 0, 1) := by decide +kernel
theorem dX3_firstBottleIn_119 : decode cX3_firstBottleIn 119 = .ok (.istore 6, 2) := by decide +kernel
theorem dX3_firstBottleIn_121 : decode cX3_firstBottleIn 121 = .ok (.goto (-51), 3) := by decide +kernel
theorem dX3_firstBottleIn_124 : decode cX3_firstBottleIn 124 = .ok (.iconst 0, 1) := by decide +kernel
theorem dX3_firstBottleIn_125 : decode cX3_firstBottleIn 125 = .ok (.istore 7, 2) := by decide +kernel
theorem dX3_firstBottleIn_127 : decode cX3_firstBottleIn 127 = .ok (.iload 7, 2) := by decide +kernel
theorem dX3_firstBottleIn_129 : decode cX3_firstBottleIn 129 = .ok (.bipush 32, 2) := by decide +kernel
theorem dX3_firstBottleIn_131 : decode cX3_firstBottleIn 131 = .ok (.if_icmp .ge 23, 3) := by decide +kernel
theorem dX3_firstBottleIn_134 : decode cX3_firstBottleIn 134 = .ok (.aload_n 0, 1) := by decide +kernel
theorem dX3_firstBottleIn_135 : decode cX3_firstBottleIn 135 = .ok (.getfield 16, 3) := by decide +kernel
theorem dX3_firstBottleIn_138 : decode cX3_firstBottleIn 138 = .ok (.iload 7, 2) := by decide +kernel
theorem dX3_firstBottleIn_140 : decode cX3_firstBottleIn 140 = .ok (.aload_n 0, 1) := by decide +kernel
theorem dX3_firstBottleIn_141 : decode cX3_firstBottleIn 141 = .ok (.getfield 20, 3) := by decide +kernel
theorem dX3_firstBottleIn_144 : decode cX3_firstBottleIn 144 = .ok (.iload 7, 2) := by decide +kernel
theorem dX3_firstBottleIn_146 : decode cX3_firstBottleIn 146 = .ok (.daload, 1) := by decide +kernel
theorem dX3_firstBottleIn_147 : decode cX3_firstBottleIn 147 = .ok (.dastore, 1) := by decide +kernel
theorem dX3_firstBottleIn_148 : decode cX3_firstBottleIn 148 = .ok (.iinc 7 1, 3) := by decide +kernel
theorem dX3_firstBottleIn_151 : decode cX3_firstBottleIn 151 = .ok (.goto (-24), 3) := by decide +kernel
theorem dX3_firstBottleIn_154 : decode cX3_firstBottleIn 154 = .ok (.aload_n 0, 1) := by decide +kernel
theorem dX3_firstBottleIn_155 : decode cX3_firstBottleIn 155 = .ok (.iload_n 1, 1) := by decide +kernel
theorem dX3_firstBottleIn_156 : decode cX3_firstBottleIn 156 = .ok (.putfield 95, 3) := by decide +kernel
theorem dX3_firstBottleIn_159 : decode cX3_firstBottleIn 159 = .ok (.aload_n 0, 1) := by decide +kernel
theorem dX3_firstBottleIn_160 : decode cX3_firstBottleIn 160 = .ok (.iload_n 2, 1) := by decide +kernel
theorem dX3_firstBottleIn_161 : decode cX3_firstBottleIn 161 = .ok (.putfield 27, 3) := by decide +kernel
theorem dX3_firstBottleIn_164 : decode cX3_firstBottleIn 164 = .ok (.aload_n 0, 1) := by decide +kernel
theorem dX3_firstBottleIn_165 : decode cX3_firstBottleIn 165 = .ok (.dload_n 3, 1) := by decide +kernel
theorem dX3_firstBottleIn_166 : decode cX3_firstBottleIn 166 = .ok (.putfield 104, 3) := by decide +kernel
theorem dX3_firstBottleIn_169 : decode cX3_firstBottleIn 169 = .ok (.iload 6, 2) := by decide +kernel
theorem dX3_firstBottleIn_171 : decode cX3_firstBottleIn 171 = .ok (.ifCond .eq 8, 3) := by decide +kernel
theorem dX3_firstBottleIn_174 : decode cX3_firstBottleIn 174 = .ok (.iload 5, 2) := by decide +kernel
theorem dX3_firstBottleIn_176 : decode cX3_firstBottleIn 176 = .ok (.goto 4, 3) := by decide +kernel
theorem dX3_firstBottleIn_179 : decode cX3_firstBottleIn 179 = .ok (.iconst (-1), 1) := by decide +kernel
theorem dX3_firstBottleIn_180 : decode cX3_firstBottleIn 180 = .ok (.ireturn, 1) := by decide +kernel
set_option maxRecDepth 20000 in
theorem ggL_add_X2_add : GoodIn wsL_add wsX2_add := goodIn_ca (goodIn_ca (goodIn_r _ [7, 8, 9, 10, 11, 12, 13, 14, 15, 16, 17, 18, 19, 20, 21, 22, 23, 24, 25, 26, 27, 28, 29, 30, 31, 32, 33, 34, 35, 36, 37, 38, 39, 40, 41, 42, 43, 44, 45, 46, 47, 48, 49, 50, 51, 52, 53, 54] (by decide +kernel) (by decide +kernel)) (goodIn_sub (fun _ h => List.mem_cons_of_mem _ (List.mem_append_left _ (List.mem_append_right _ h))) (by decide +kernel))) (goodIn_sub (fun _ h => List.mem_cons_of_mem _ (List.mem_append_right _ h)) (by decide +kernel))
set_option maxRecDepth 20000 in
theorem gL_add_X2_add : GoodIn wsL_add (wsV RL 7 RX2 yX2_add wsX2_add) := goodIn_app (goodIn_of _ (by decide +kernel)) ggL_add_X2_add
theorem dL_add_0 : decode cL_add 0 = .ok (.aload_n 3, 1) := by decide +kernel
theorem dL_add_1 : decode cL_add 1 = .ok (.iconst 0, 1) := by decide +kernel
theorem dL_add_2 : decode cL_add 2 = .ok (.aload_n 0, 1) := by decide +kernel
theorem dL_add_3 : decode cL_add 3 = .ok (.iload_n 1, 1) := by decide +kernel
theorem dL_add_4 : decode cL_add 4 = .ok (.iload_n 2, 1) := by decide +kernel
theorem dL_add_5 : decode cL_add 5 = .ok (.invokevirtual 7, 3) := by decide +kernel
theorem dL_add_8 : decode cL_add 8 = .ok (.i2l, 1) := by decide +kernel
theorem dL_add_9 : decode cL_add 9 = .ok (.lastore, 1) := by decide +kernel
theorem dL_add_10 : decode cL_add 10 = .ok (.goto 11, 3) := by decide +kernel
theorem dL_add_13 : decode cL_add 13 = .ok (.astore 4, 2) := by decide +kernel
theorem dL_add_15 : decode cL_add 15 = .ok (.iconst 1, 1) := by decide +kernel
theorem dL_add_16 : decode cL_add 16 = .ok (.ireturn, 1) := by decide +kernel
theorem dL_add_17 : decode cL_add 17 = .ok (.astore 4, 2) := by decide +kernel
theorem dL_add_19 : decode cL_add 19 = .ok (.iconst 2, 1) := by decide +kernel
theorem dL_add_20 : decode cL_add 20 = .ok (.ireturn, 1) := by decide +kernel
theorem dL_add_21 : decode cL_add 21 = .ok (.iconst 0, 1) := by decide +kernel
theorem dL_add_22 : decode cL_add 22 = .ok (.ireturn, 1) := by decide +kernel
set_option maxRecDepth 20000 in
theorem ggL_fill_X2_fill : GoodIn wsL_fill wsX2_fill := goodIn_ca (goodIn_r _ [6, 7, 8, 9, 10, 11, 12, 13, 14, 15, 16, 17, 18, 19, 20, 21, 22, 23, 24, 25, 26, 27, 28, 29, 30, 31, 32, 33, 34, 35, 36, 37, 38, 39, 40, 41, 42, 43, 44, 45, 46] (by decide +kernel) (by decide +kernel)) (goodIn_sub (fun _ h => List.mem_cons_of_mem _ (List.mem_append_right _ h)) (by decide +kernel))
set_option maxRecDepth 20000 in
theorem gL_fill_X2_fill : GoodIn wsL_fill (wsV RL 17 RX2 yX2_fill wsX2_fill) := goodIn_app (goodIn_of _ (by decide +kernel)) ggL_fill_X2_fill
theorem dL_fill_0 : decode cL_fill 0 = .ok (.aload_n 2, 1) := by decide +kernel
theorem dL_fill_1 : decode cL_fill 1 = .ok (.iconst 0, 1) := by decide +kernel
theorem dL_fill_2 : decode cL_fill 2 = .ok (.aload_n 0, 1) := by decide +kernel
theorem dL_fill_3 : decode cL_fill 3 = .ok (.iload_n 1, 1) := by decide +kernel
theorem dL_fill_4 : decode cL_fill 4 = .ok (.invokevirtual 17, 3) := by decide +kernel
theorem dL_fill_7 : decode cL_fill 7 = .ok (.dastore, 1) := by decide +kernel
theorem dL_fill_8 : decode cL_fill 8 = .ok (.goto 6, 3) := by decide +kernel
theorem dL_fill_11 : decode cL_fill 11 = .ok (.astore_n 3, 1) := by decide +kernel
theorem dL_fill_12 : decode cL_fill 12 = .ok (.iconst 1, 1) := by decide +kernel
theorem dL_fill_13 : decode cL_fill 13 = .ok (.ireturn, 1) := by decide +kernel
theorem dL_fill_14 : decode cL_fill 14 = .ok (.iconst 0, 1) := by decide +kernel
theorem dL_fill_15 : decode cL_fill 15 = .ok (.ireturn, 1) := by decide +kernel
set_option maxRecDepth 20000 in
theorem ggL_draw_X2_draw : GoodIn wsL_draw wsX2_draw := goodIn_ca (goodIn_r _ [6, 7, 8, 9, 10, 11, 12, 13, 14, 15, 16, 17, 18, 19, 20, 21, 22, 23, 24, 25, 26, 27, 28, 29, 30, 31, 32, 33, 34, 35, 36, 37, 38, 39, 40, 41, 5, 42, 43, 44, 45, 46, 47, 48, 49, 50, 51, 52, 53, 54, 55, 56, 57, 58, 59, 60, 61, 62, 63, 64, 65, 66, 67, 68, 69, 70, 71, 72, 73, 74] (by decide +kernel) (by decide +kernel)) (goodIn_sub (fun _ h => List.mem_cons_of_mem _ (List.mem_append_right _ h)) (by decide +kernel))
set_option maxRecDepth 20000 in
theorem gL_draw_X2_draw : GoodIn wsL_draw (wsV RL 21 RX2 yX2_draw wsX2_draw) := goodIn_app (goodIn_of _ (by decide +kernel)) ggL_draw_X2_draw
theorem dL_draw_0 : decode cL_draw 0 = .ok (.aload_n 2, 1) := by decide +kernel
theorem dL_draw_1 : decode cL_draw 1 = .ok (.iconst 0, 1) := by decide +kernel
theorem dL_draw_2 : decode cL_draw 2 = .ok (.aload_n 0, 1) := by decide +kernel
theorem dL_draw_3 : decode cL_draw 3 = .ok (.iload_n 1, 1) := by decide +kernel
theorem dL_draw_4 : decode cL_draw 4 = .ok (.invokevirtual 21, 3) := by decide +kernel
theorem dL_draw_7 : decode cL_draw 7 = .ok (.i2l, 1) := by decide +kernel
theorem dL_draw_8 : decode cL_draw 8 = .ok (.lastore, 1) := by decide +kernel
theorem dL_draw_9 : decode cL_draw 9 = .ok (.goto 6, 3) := by decide +kernel
theorem dL_draw_12 : decode cL_draw 12 = .ok (.astore_n 3, 1) := by decide +kernel
theorem dL_draw_13 : decode cL_draw 13 = .ok (.iconst 1, 1) := by decide +kernel
theorem dL_draw_14 : decode cL_draw 14 = .ok (.ireturn, 1) := by decide +kernel
theorem dL_draw_15 : decode cL_draw 15 = .ok (.iconst 0, 1) := by decide +kernel
theorem dL_draw_16 : decode cL_draw 16 = .ok (.ireturn, 1) := by decide +kernel
set_option maxRecDepth 20000 in
theorem ggL_pourAway_X2_pourAway : GoodIn wsL_pourAway wsX2_pourAway := goodIn_ca (goodIn_r _ [6, 7, 8, 9, 10, 5, 11, 12, 13, 14, 15, 16, 17, 18, 19, 20, 21, 22, 23, 24, 25, 26, 27, 28, 29, 30, 31, 32, 33, 34, 35, 36, 37, 38, 39, 40] (by decide +kernel) (by decide +kernel)) (goodIn_sub (fun _ h => List.mem_cons_of_mem _ (List.mem_append_right _ h)) (by decide +kernel))
set_option maxRecDepth 20000 in
theorem gL_pourAway_X2_pourAway : GoodIn wsL_pourAway (wsV RL 25 RX2 yX2_pourAway wsX2_pourAway) := goodIn_app (goodIn_of _ (by decide +kernel)) ggL_pourAway_X2_pourAway
theorem dL_pourAway_0 : decode cL_pourAway 0 = .ok (.aload_n 2, 1) := by decide +kernel
theorem dL_pourAway_1 : decode cL_pourAway 1 = .ok (.iconst 0, 1) := by decide +kernel
theorem dL_pourAway_2 : decode cL_pourAway 2 = .ok (.aload_n 0, 1) := by decide +kernel
theorem dL_pourAway_3 : decode cL_pourAway 3 = .ok (.iload_n 1, 1) := by decide +kernel
theorem dL_pourAway_4 : decode cL_pourAway 4 = .ok (.invokevirtual 25, 3) := by decide +kernel
theorem dL_pourAway_7 : decode cL_pourAway 7 = .ok (.dastore, 1) := by decide +kernel
theorem dL_pourAway_8 : decode cL_pourAway 8 = .ok (.goto 6, 3) := by decide +kernel
theorem dL_pourAway_11 : decode cL_pourAway 11 = .ok (.astore_n 3, 1) := by decide +kernel
theorem dL_pourAway_12 : decode cL_pourAway 12 = .ok (.iconst 1, 1) := by decide +kernel
theorem dL_pourAway_13 : decode cL_pourAway 13 = .ok (.ireturn, 1) := by decide +kernel
theorem dL_pourAway_14 : decode cL_pourAway 14 = .ok (.iconst 0, 1) := by decide +kernel
theorem dL_pourAway_15 : decode cL_pourAway 15 = .ok (.ireturn, 1) := by decide +kernel
set_option maxRecDepth 20000 in
theorem ggL_setWarmth_X2_setWarmth : GoodIn wsL_setWarmth wsX2_setWarmth := goodIn_ca (goodIn_r _ [6, 7, 8, 9, 10, 11, 12, 13, 14, 15, 16, 17, 18, 19] (by decide +kernel) (by decide +kernel)) (goodIn_sub (fun _ h => List.mem_cons_of_mem _ (List.mem_append_right _ h)) (by decide +kernel))
set_option maxRecDepth 20000 in
theorem gL_setWarmth_X2_setWarmth : GoodIn wsL_setWarmth (wsV RL 30 RX2 yX2_setWarmth wsX2_setWarmth) := goodIn_app (goodIn_of _ (by decide +kernel)) ggL_setWarmth_X2_setWarmth
theorem dL_setWarmth_0 : decode cL_setWarmth 0 = .ok (.aload_n 0, 1) := by decide +kernel
theorem dL_setWarmth_1 : decode cL_setWarmth 1 = .ok (.iload_n 1, 1) := by decide +kernel
theorem dL_setWarmth_2 : decode cL_setWarmth 2 = .ok (.invokevirtual 30, 3) := by decide +kernel
theorem dL_setWarmth_5 : decode cL_setWarmth 5 = .ok (.goto 6, 3) := by decide +kernel
theorem dL_setWarmth_8 : decode cL_setWarmth 8 = .ok (.astore_n 2, 1) := by decide +kernel
theorem dL_setWarmth_9 : decode cL_setWarmth 9 = .ok (.iconst 1, 1) := by decide +kernel
theorem dL_setWarmth_10 : decode cL_setWarmth 10 = .ok (.ireturn, 1) := by decide +kernel
theorem dL_setWarmth_11 : decode cL_setWarmth 11 = .ok (.iconst 0, 1) := by decide +kernel
theorem dL_setWarmth_12 : decode cL_setWarmth 12 = .ok (.ireturn, 1) := by decide +kernel
set_option maxRecDepth 20000 in
theorem ggL_litresIn_X2_litresIn : GoodIn wsL_litresIn wsX2_litresIn := goodIn_ca (goodIn_r _ [6, 7, 8, 9, 10, 5, 11, 12, 13, 14, 15, 16, 17, 18, 19, 20, 21, 22, 23, 24, 25, 26, 27, 28, 29, 30, 31] (by decide +kernel) (by decide +kernel)) (goodIn_sub (fun _ h => List.mem_cons_of_mem _ (List.mem_append_right _ h)) (by decide +kernel))
set_option maxRecDepth 20000 in
theorem gL_litresIn_X2_litresIn : GoodIn wsL_litresIn (wsV RL 34 RX2 yX2_litresIn wsX2_litresIn) := goodIn_app (goodIn_of _ (by decide +kernel)) ggL_litresIn_X2_litresIn
theorem dL_litresIn_0 : decode cL_litresIn 0 = .ok (.aload_n 2, 1) := by decide +kernel
theorem dL_litresIn_1 : decode cL_litresIn 1 = .ok (.iconst 0, 1) := by decide +kernel
theorem dL_litresIn_2 : decode cL_litresIn 2 = .ok (.aload_n 0, 1) := by decide +kernel
theorem dL_litresIn_3 : decode cL_litresIn 3 = .ok (.iload_n 1, 1) := by decide +kernel
theorem dL_litresIn_4 : decode cL_litresIn 4 = .ok (.invokevirtual 34, 3) := by decide +kernel
theorem dL_litresIn_7 : decode cL_litresIn 7 = .ok (.dastore, 1) := by decide +kernel
theorem dL_litresIn_8 : decode cL_litresIn 8 = .ok (.goto 6, 3) := by decide +kernel
theorem dL_litresIn_11 : decode cL_litresIn 11 = .ok (.astore_n 3, 1) := by decide +kernel
theorem dL_litresIn_12 : decode cL_litresIn 12 = .ok (.iconst 1, 1) := by decide +kernel
theorem dL_litresIn_13 : decode cL_litresIn 13 = .ok (.ireturn, 1) := by decide +kernel
theorem dL_litresIn_14 : decode cL_litresIn 14 = .ok (.iconst 0, 1) := by decide +kernel
theorem dL_litresIn_15 : decode cL_litresIn 15 = .ok (.ireturn, 1) := by decide +kernel
set_option maxRecDepth 20000 in
theorem ggL_ageOf_X2_ageOf : GoodIn wsL_ageOf wsX2_ageOf := goodIn_ca (goodIn_r _ [6, 7, 8, 9, 10, 5, 11, 12, 13, 14, 15, 16, 17, 18, 19, 20, 21, 22, 23, 24, 25, 26, 27, 28, 29, 30, 31] (by decide +kernel) (by decide +kernel)) (goodIn_sub (fun _ h => List.mem_cons_of_mem _ (List.mem_append_right _ h)) (by decide +kernel))
set_option maxRecDepth 20000 in
theorem gL_ageOf_X2_ageOf : GoodIn wsL_ageOf (wsV RL 37 RX2 yX2_ageOf wsX2_ageOf) := goodIn_app (goodIn_of _ (by decide +kernel)) ggL_ageOf_X2_ageOf
theorem dL_ageOf_0 : decode cL_ageOf 0 = .ok (.aload_n 2, 1) := by decide +kernel
theorem dL_ageOf_1 : decode cL_ageOf 1 = .ok (.iconst 0, 1) := by decide +kernel
theorem dL_ageOf_2 : decode cL_ageOf 2 = .ok (.aload_n 0, 1) := by decide +kernel
theorem dL_ageOf_3 : decode cL_ageOf 3 = .ok (.iload_n 1, 1) := by decide +kernel
theorem dL_ageOf_4 : decode cL_ageOf 4 = .ok (.invokevirtual 37, 3) := by decide +kernel
theorem dL_ageOf_7 : decode cL_ageOf 7 = .ok (.dastore, 1) := by decide +kernel
theorem dL_ageOf_8 : decode cL_ageOf 8 = .ok (.goto 6, 3) := by decide +kernel
theorem dL_ageOf_11 : decode cL_ageOf 11 = .ok (.astore_n 3, 1) := by decide +kernel
theorem dL_ageOf_12 : decode cL_ageOf 12 = .ok (.iconst 1, 1) := by decide +kernel
theorem dL_ageOf_13 : decode cL_ageOf 13 = .ok (.ireturn, 1) := by decide +kernel
theorem dL_ageOf_14 : decode cL_ageOf 14 = .ok (.iconst 0, 1) := by decide +kernel
theorem dL_ageOf_15 : decode cL_ageOf 15 = .ok (.ireturn, 1) := by decide +kernel
set_option maxRecDepth 20000 in
theorem ggL_acidOf_X2_acidOf : GoodIn wsL_acidOf wsX2_acidOf := goodIn_ca (goodIn_r _ [6, 7, 8, 9, 10, 5, 11, 12, 13, 14, 15, 16, 17, 18, 19, 20, 21, 22, 23, 24, 25, 26, 27, 28, 29, 30, 31] (by decide +kernel) (by decide +kernel)) (goodIn_sub (fun _ h => List.mem_cons_of_mem _ (List.mem_append_right _ h)) (by decide +kernel))
set_option maxRecDepth 20000 in
theorem gL_acidOf_X2_acidOf : GoodIn wsL_acidOf (wsV RL 40 RX2 yX2_acidOf wsX2_acidOf) := goodIn_app (goodIn_of _ (by decide +kernel)) ggL_acidOf_X2_acidOf
theorem dL_acidOf_0 : decode cL_acidOf 0 = .ok (.aload_n 2, 1) := by decide +kernel
theorem dL_acidOf_1 : decode cL_acidOf 1 = .ok (.iconst 0, 1) := by decide +kernel
theorem dL_acidOf_2 : decode cL_acidOf 2 = .ok (.aload_n 0, 1) := by decide +kernel
theorem dL_acidOf_3 : decode cL_acidOf 3 = .ok (.iload_n 1, 1) := by decide +kernel
theorem dL_acidOf_4 : decode cL_acidOf 4 = .ok (.invokevirtual 40, 3) := by decide +kernel
theorem dL_acidOf_7 : decode cL_acidOf 7 = .ok (.dastore, 1) := by decide +kernel
theorem dL_acidOf_8 : decode cL_acidOf 8 = .ok (.goto 6, 3) := by decide +kernel
theorem dL_acidOf_11 : decode cL_acidOf 11 = .ok (.astore_n 3, 1) := by decide +kernel
theorem dL_acidOf_12 : decode cL_acidOf 12 = .ok (.iconst 1, 1) := by decide +kernel
theorem dL_acidOf_13 : decode cL_acidOf 13 = .ok (.ireturn, 1) := by decide +kernel
theorem dL_acidOf_14 : decode cL_acidOf 14 = .ok (.iconst 0, 1) := by decide +kernel
theorem dL_acidOf_15 : decode cL_acidOf 15 = .ok (.ireturn, 1) := by decide +kernel
set_option maxRecDepth 20000 in
theorem ggL_sugarOf_X2_sugarOf : GoodIn wsL_sugarOf wsX2_sugarOf := goodIn_ca (goodIn_r _ [6, 7, 8, 9, 10, 5, 11, 12, 13, 14, 15, 16, 17, 18, 19, 20, 21, 22, 23, 24, 25, 26, 27, 28, 29, 30, 31] (by decide +kernel) (by decide +kernel)) (goodIn_sub (fun _ h => List.mem_cons_of_mem _ (List.mem_append_right _ h)) (by decide +kernel))
set_option maxRecDepth 20000 in
theorem gL_sugarOf_X2_sugarOf : GoodIn wsL_sugarOf (wsV RL 43 RX2 yX2_sugarOf wsX2_sugarOf) := goodIn_app (goodIn_of _ (by decide +kernel)) ggL_sugarOf_X2_sugarOf
theorem dL_sugarOf_0 : decode cL_sugarOf 0 = .ok (.aload_n 2, 1) := by decide +kernel
theorem dL_sugarOf_1 : decode cL_sugarOf 1 = .ok (.iconst 0, 1) := by decide +kernel
theorem dL_sugarOf_2 : decode cL_sugarOf 2 = .ok (.aload_n 0, 1) := by decide +kernel
theorem dL_sugarOf_3 : decode cL_sugarOf 3 = .ok (.iload_n 1, 1) := by decide +kernel
theorem dL_sugarOf_4 : decode cL_sugarOf 4 = .ok (.invokevirtual 43, 3) := by decide +kernel
theorem dL_sugarOf_7 : decode cL_sugarOf 7 = .ok (.dastore, 1) := by decide +kernel
theorem dL_sugarOf_8 : decode cL_sugarOf 8 = .ok (.goto 6, 3) := by decide +kernel
theorem dL_sugarOf_11 : decode cL_sugarOf 11 = .ok (.astore_n 3, 1) := by decide +kernel
theorem dL_sugarOf_12 : decode cL_sugarOf 12 = .ok (.iconst 1, 1) := by decide +kernel
theorem dL_sugarOf_13 : decode cL_sugarOf 13 = .ok (.ireturn, 1) := by decide +kernel
theorem dL_sugarOf_14 : decode cL_sugarOf 14 = .ok (.iconst 0, 1) := by decide +kernel
theorem dL_sugarOf_15 : decode cL_sugarOf 15 = .ok (.ireturn, 1) := by decide +kernel
set_option maxRecDepth 20000 in
theorem ggL_tasteOf_X2_tasteOf : GoodIn wsL_tasteOf wsX2_tasteOf := goodIn_ca (goodIn_r _ [6, 7, 8, 9, 5, 10, 11, 12, 13, 14, 15, 16, 17, 18, 19, 20, 21, 22, 23, 24, 25, 26, 27, 28, 29, 30, 31, 32, 33, 34, 35, 36, 37, 38, 39, 40, 41, 42, 43, 44, 45, 46, 47] (by decide +kernel) (by decide +kernel)) (goodIn_sub (fun _ h => List.mem_cons_of_mem _ (List.mem_append_right _ h)) (by decide +kernel))
set_option maxRecDepth 20000 in
theorem gL_tasteOf_X2_tasteOf : GoodIn wsL_tasteOf (wsV RL 46 RX2 yX2_tasteOf wsX2_tasteOf) := goodIn_app (goodIn_of _ (by decide +kernel)) ggL_tasteOf_X2_tasteOf
theorem dL_tasteOf_0 : decode cL_tasteOf 0 = .ok (.aload_n 2, 1) := by decide +kernel
theorem dL_tasteOf_1 : decode cL_tasteOf 1 = .ok (.iconst 0, 1) := by decide +kernel
theorem dL_tasteOf_2 : decode cL_tasteOf 2 = .ok (.aload_n 0, 1) := by decide +kernel
theorem dL_tasteOf_3 : decode cL_tasteOf 3 = .ok (.iload_n 1, 1) := by decide +kernel
theorem dL_tasteOf_4 : decode cL_tasteOf 4 = .ok (.invokevirtual 46, 3) := by decide +kernel
theorem dL_tasteOf_7 : decode cL_tasteOf 7 = .ok (.dastore, 1) := by decide +kernel
theorem dL_tasteOf_8 : decode cL_tasteOf 8 = .ok (.goto 6, 3) := by decide +kernel
theorem dL_tasteOf_11 : decode cL_tasteOf 11 = .ok (.astore_n 3, 1) := by decide +kernel
theorem dL_tasteOf_12 : decode cL_tasteOf 12 = .ok (.iconst 1, 1) := by decide +kernel
theorem dL_tasteOf_13 : decode cL_tasteOf 13 = .ok (.ireturn, 1) := by decide +kernel
theorem dL_tasteOf_14 : decode cL_tasteOf 14 = .ok (.iconst 0, 1) := by decide +kernel
theorem dL_tasteOf_15 : decode cL_tasteOf 15 = .ok (.ireturn, 1) := by decide +kernel
set_option maxRecDepth 20000 in
theorem ggL_bottles_X2_bottles : GoodIn wsL_bottles wsX2_bottles := goodIn_ca (goodIn_r _ [6, 7, 8, 9, 10, 11, 12, 13] (by decide +kernel) (by decide +kernel)) (goodIn_sub (fun _ h => List.mem_cons_of_mem _ (List.mem_append_right _ h)) (by decide +kernel))
set_option maxRecDepth 20000 in
theorem gL_bottles_X2_bottles : GoodIn wsL_bottles (wsV RL 49 RX2 yX2_bottles wsX2_bottles) := goodIn_app (goodIn_of _ (by decide +kernel)) ggL_bottles_X2_bottles
theorem dL_bottles_0 : decode cL_bottles 0 = .ok (.aload_n 2, 1) := by decide +kernel
theorem dL_bottles_1 : decode cL_bottles 1 = .ok (.iconst 0, 1) := by decide +kernel
theorem dL_bottles_2 : decode cL_bottles 2 = .ok (.aload_n 0, 1) := by decide +kernel
theorem dL_bottles_3 : decode cL_bottles 3 = .ok (.iload_n 1, 1) := by decide +kernel
theorem dL_bottles_4 : decode cL_bottles 4 = .ok (.invokevirtual 49, 3) := by decide +kernel
theorem dL_bottles_7 : decode cL_bottles 7 = .ok (.i2l, 1) := by decide +kernel
theorem dL_bottles_8 : decode cL_bottles 8 = .ok (.lastore, 1) := by decide +kernel
theorem dL_bottles_9 : decode cL_bottles 9 = .ok (.goto 6, 3) := by decide +kernel
theorem dL_bottles_12 : decode cL_bottles 12 = .ok (.astore_n 3, 1) := by decide +kernel
theorem dL_bottles_13 : decode cL_bottles 13 = .ok (.iconst 1, 1) := by decide +kernel
theorem dL_bottles_14 : decode cL_bottles 14 = .ok (.ireturn, 1) := by decide +kernel
theorem dL_bottles_15 : decode cL_bottles 15 = .ok (.iconst 0, 1) := by decide +kernel
theorem dL_bottles_16 : decode cL_bottles 16 = .ok (.ireturn, 1) := by decide +kernel
set_option maxRecDepth 20000 in
theorem ggL_law_X2_init : GoodIn wsL_law wsX2_init := goodIn_r _ [10, 11, 12, 13, 14, 15, 16, 17, 18, 19, 20, 21, 22, 23, 24, 25, 26, 27, 28, 29, 30, 31, 32, 33, 34, 35, 36, 523, 524, 525, 526, 527, 506, 507, 508, 509, 528, 529, 530, 531, 532, 533] (by decide +kernel) (by decide +kernel)
set_option maxRecDepth 20000 in
theorem gL_law_X2_init : GoodIn wsL_law (wsX2_init) := ggL_law_X2_init
set_option maxRecDepth 20000 in
theorem ggL_law_X3_init : GoodIn wsL_law wsX3_init := goodIn_r _ [39, 40, 12, 13, 19, 41, 42, 7, 43, 44, 45, 46, 510, 511, 512, 513, 514, 515, 516, 517, 518, 519, 520, 521, 522] (by decide +kernel) (by decide +kernel)
set_option maxRecDepth 20000 in
theorem gL_law_X3_init : GoodIn wsL_law (wsX3_init) := ggL_law_X3_init
set_option maxRecDepth 20000 in
theorem ggL_law_L_add : GoodIn wsL_law wsL_add := goodIn_ca (goodIn_ca (goodIn_r _ [50, 51, 52, 53, 54, 55, 2, 56, 57, 58, 59, 60, 17, 61, 62, 63, 16, 64, 30, 27, 65, 66, 67, 68, 69, 70, 71, 72, 73, 74, 75, 76, 77, 78, 29, 79, 80, 81, 82, 83, 506, 507, 508, 509, 523, 524, 525, 526, 527, 528, 529, 530, 531, 532, 533] (by decide +kernel) (by decide +kernel)) (goodIn_sub (fun _ h => List.mem_append_left _ (List.mem_append_left _ (List.mem_append_right _ h))) (by decide +kernel))) (goodIn_sub (fun _ h => List.mem_append_left _ (List.mem_append_right _ h)) (by decide +kernel))
set_option maxRecDepth 20000 in
theorem gL_law_L_add : GoodIn wsL_law (va_wsS RL 56 yL_add wsL_add) := goodIn_app (goodIn_of _ (by decide +kernel)) ggL_law_L_add
set_option maxRecDepth 20000 in
theorem ggL_law_X3_add : GoodIn wsL_law wsX3_add := goodIn_r _ [87, 88, 42, 89, 41, 510, 511, 512, 513, 514, 515, 516, 517, 518, 519, 520, 521, 522] (by decide +kernel) (by decide +kernel)
set_option maxRecDepth 20000 in
theorem gL_law_X3_add : GoodIn wsL_law (wsV RL 61 RX3 yX3_add wsX3_add) := goodIn_app (goodIn_of _ (by decide +kernel)) ggL_law_X3_add
set_option maxRecDepth 20000 in
theorem ggL_law_X3_thrown : GoodIn wsL_law wsX3_thrown := goodIn_r _ [93, 89, 510, 511, 512, 513, 514, 515, 516, 517, 518, 519, 520, 521, 522] (by decide +kernel) (by decide +kernel)
set_option maxRecDepth 20000 in
theorem gL_law_X3_thrown : GoodIn wsL_law (wsV RL 62 RX3 yX3_thrown wsX3_thrown) := goodIn_app (goodIn_of _ (by decide +kernel)) ggL_law_X3_thrown
set_option maxRecDepth 20000 in
theorem ggL_law_L_fill : GoodIn wsL_law wsL_fill := goodIn_ca (goodIn_r _ [96, 51, 97, 98, 99, 2, 100, 57, 58, 17, 101, 102, 103, 16, 104, 30, 27, 65, 105, 106, 107, 108, 109, 29, 110, 80, 81, 82, 83, 111, 112, 113, 506, 507, 508, 509, 523, 524, 525, 526, 527, 528, 529, 530, 531, 532, 533] (by decide +kernel) (by decide +kernel)) (goodIn_sub (fun _ h => List.mem_append_left _ (List.mem_append_left _ (List.mem_append_right _ h))) (by decide +kernel))
set_option maxRecDepth 20000 in
theorem gL_law_L_fill : GoodIn wsL_law (va_wsS RL 66 yL_fill wsL_fill) := goodIn_app (goodIn_of _ (by decide +kernel)) ggL_law_L_fill
set_option maxRecDepth 20000 in
theorem ggL_law_X3_fill : GoodIn wsL_law wsX3_fill := goodIn_r _ [117, 89, 88, 118, 119, 120, 5, 121, 42, 43, 122, 123, 124, 125, 126, 127, 128, 129, 130, 131, 132, 133, 134, 135, 136, 137, 510, 511, 512, 513, 514, 515, 516, 517, 518, 519, 520, 521, 522] (by decide +kernel) (by decide +kernel)
set_option maxRecDepth 20000 in
theorem gL_law_X3_fill : GoodIn wsL_law (wsV RL 69 RX3 yX3_fill wsX3_fill) := goodIn_app (goodIn_of _ (by decide +kernel)) ggL_law_X3_fill
set_option maxRecDepth 20000 in
theorem ggL_law_X2_topUp : GoodIn wsL_law wsX2_topUp := goodIn_r _ [141, 17, 142, 143, 144, 16, 145, 30, 27, 146, 147, 148, 149, 65, 105, 150, 151, 152, 153, 107, 108, 109, 29, 110, 80, 81, 82, 83, 111, 112, 113, 154, 155, 156, 157, 158, 77, 78, 79, 506, 507, 508, 509, 523, 524, 525, 526, 527, 528, 529, 530, 531, 532, 533] (by decide +kernel) (by decide +kernel)
set_option maxRecDepth 20000 in
theorem gL_law_X2_topUp : GoodIn wsL_law (wsV RL 70 RX2 yX2_topUp wsX2_topUp) := goodIn_app (goodIn_of _ (by decide +kernel)) ggL_law_X2_topUp
set_option maxRecDepth 20000 in
theorem ggL_law_X3_topUp : GoodIn wsL_law wsX3_topUp := goodIn_r _ [162, 89, 163, 164, 165, 5, 166, 88, 167, 42, 43, 168, 122, 123, 124, 130, 131, 132, 133, 134, 135, 136, 137, 510, 511, 512, 513, 514, 515, 516, 517, 518, 519, 520, 521, 522] (by decide +kernel) (by decide +kernel)
set_option maxRecDepth 20000 in
theorem gL_law_X3_topUp : GoodIn wsL_law (wsV RL 74 RX3 yX3_topUp wsX3_topUp) := goodIn_app (goodIn_of _ (by decide +kernel)) ggL_law_X3_topUp
set_option maxRecDepth 20000 in
theorem ggL_law_X2_year : GoodIn wsL_law wsX2_year := goodIn_r _ [172, 21, 17, 173, 174, 175, 16, 176, 30, 27, 32, 177, 105, 33, 178, 179, 180, 181, 182, 31, 183, 184, 185, 186, 29, 187, 80, 188, 189, 190, 191, 192, 83, 193, 81, 194, 195, 196, 197, 198, 199, 200, 201, 155, 156, 157, 158, 77, 78, 79, 82, 202, 203, 204, 205, 206, 207, 208, 209, 210, 211, 212, 213, 214, 215, 216, 151, 506, 507, 508, 509, 523, 524, 525, 526, 527, 528, 529, 530, 531, 532, 533] (by decide +kernel) (by decide +kernel)
set_option maxRecDepth 20000 in
theorem gL_law_X2_year : GoodIn wsL_law (wsV RL 75 RX2 yX2_year wsX2_year) := goodIn_app (goodIn_of _ (by decide +kernel)) ggL_law_X2_year
set_option maxRecDepth 20000 in
theorem ggL_law_X3_year : GoodIn wsL_law wsX3_year := goodIn_r _ [220, 89, 221, 222, 223, 5, 224, 88, 225, 46, 226, 43, 227, 228, 229, 230, 231, 232, 233, 234, 235, 41, 236, 237, 238, 239, 240, 241, 242, 243, 244, 245, 246, 247, 248, 249, 250, 251, 252, 253, 254, 45, 255, 122, 123, 124, 256, 257, 258, 259, 510, 511, 512, 513, 514, 515, 516, 517, 518, 519, 520, 521, 522] (by decide +kernel) (by decide +kernel)
set_option maxRecDepth 20000 in
theorem gL_law_X3_year : GoodIn wsL_law (wsV RL 78 RX3 yX3_year wsX3_year) := goodIn_app (goodIn_of _ (by decide +kernel)) ggL_law_X3_year
set_option maxRecDepth 20000 in
theorem ggL_law_L_draw : GoodIn wsL_law wsL_draw := goodIn_ca (goodIn_r _ [262, 51, 263, 264, 265, 2, 266, 57, 58, 17, 20, 267, 268, 269, 16, 270, 32, 27, 151, 271, 153, 272, 33, 105, 273, 213, 214, 215, 216, 30, 184, 185, 186, 29, 187, 80, 274, 275, 276, 277, 278, 279, 280, 281, 282, 283, 284, 285, 286, 154, 155, 156, 157, 158, 77, 78, 79, 81, 82, 83, 506, 507, 508, 509, 523, 524, 525, 526, 527, 528, 529, 530, 531, 532, 533] (by decide +kernel) (by decide +kernel)) (goodIn_sub (fun _ h => List.mem_append_left _ (List.mem_append_left _ (List.mem_append_right _ h))) (by decide +kernel))
set_option maxRecDepth 20000 in
theorem gL_law_L_draw : GoodIn wsL_law (va_wsS RL 79 yL_draw wsL_draw) := goodIn_app (goodIn_of _ (by decide +kernel)) ggL_law_L_draw
set_option maxRecDepth 20000 in
theorem ggL_law_X3_draw : GoodIn wsL_law wsX3_draw := goodIn_r _ [290, 89, 46, 43, 291, 292, 293, 294, 295, 227, 241, 296, 297, 298, 5, 299, 242, 256, 257, 258, 259, 88, 228, 229, 230, 231, 122, 123, 124, 300, 301, 302, 303, 510, 511, 512, 513, 514, 515, 516, 517, 518, 519, 520, 521, 522] (by decide +kernel) (by decide +kernel)
set_option maxRecDepth 20000 in
theorem gL_law_X3_draw : GoodIn wsL_law (wsV RL 82 RX3 yX3_draw wsX3_draw) := goodIn_app (goodIn_of _ (by decide +kernel)) ggL_law_X3_draw
set_option maxRecDepth 20000 in
theorem ggL_law_L_pourAway : GoodIn wsL_law wsL_pourAway := goodIn_ca (goodIn_r _ [306, 307, 308, 309, 310, 2, 311, 312, 313, 314, 315, 316, 317, 318, 17, 319, 320, 321, 77, 78, 29, 79, 80, 81, 82, 83, 528, 529, 530, 531, 532, 533, 506, 507, 508, 509, 523, 524, 525, 526, 527] (by decide +kernel) (by decide +kernel)) (goodIn_sub (fun _ h => List.mem_append_right _ h) (by decide +kernel))
set_option maxRecDepth 20000 in
theorem gL_law_L_pourAway : GoodIn wsL_law (va_wsS RL 83 yL_pourAway wsL_pourAway) := goodIn_app (goodIn_of _ (by decide +kernel)) ggL_law_L_pourAway
set_option maxRecDepth 20000 in
theorem ggL_law_X3_pourAway : GoodIn wsL_law wsX3_pourAway := goodIn_r _ [325, 43, 326, 327, 328, 5, 329, 88, 89, 300, 301, 302, 303, 510, 511, 512, 513, 514, 515, 516, 517, 518, 519, 520, 521, 522] (by decide +kernel) (by decide +kernel)
set_option maxRecDepth 20000 in
theorem gL_law_X3_pourAway : GoodIn wsL_law (wsV RL 85 RX3 yX3_pourAway wsX3_pourAway) := goodIn_app (goodIn_of _ (by decide +kernel)) ggL_law_X3_pourAway
set_option maxRecDepth 20000 in
theorem ggL_law_L_setWarmth : GoodIn wsL_law wsL_setWarmth := goodIn_ca (goodIn_r _ [332, 51, 333, 334, 335, 2, 336, 57, 58, 17, 337, 506, 507, 508, 509, 523, 524, 525, 526, 527] (by decide +kernel) (by decide +kernel)) (goodIn_sub (fun _ h => List.mem_append_left _ (List.mem_append_left _ (List.mem_append_right _ h))) (by decide +kernel))
set_option maxRecDepth 20000 in
theorem gL_law_L_setWarmth : GoodIn wsL_law (va_wsS RL 86 yL_setWarmth wsL_setWarmth) := goodIn_app (goodIn_of _ (by decide +kernel)) ggL_law_L_setWarmth
set_option maxRecDepth 20000 in
theorem ggL_law_X3_setWarmth : GoodIn wsL_law wsX3_setWarmth := goodIn_r _ [341, 89, 45, 510, 511, 512, 513, 514, 515, 516, 517, 518, 519, 520, 521, 522] (by decide +kernel) (by decide +kernel)
set_option maxRecDepth 20000 in
theorem gL_law_X3_setWarmth : GoodIn wsL_law (wsV RL 89 RX3 yX3_setWarmth wsX3_setWarmth) := goodIn_app (goodIn_of _ (by decide +kernel)) ggL_law_X3_setWarmth
set_option maxRecDepth 20000 in
theorem ggL_law_X2_barrels : GoodIn wsL_law wsX2_barrels := goodIn_r _ [345, 17, 319, 506, 507, 508, 509, 523, 524, 525, 526, 527] (by decide +kernel) (by decide +kernel)
set_option maxRecDepth 20000 in
theorem gL_law_X2_barrels : GoodIn wsL_law (wsV RL 90 RX2 yX2_barrels wsX2_barrels) := goodIn_app (goodIn_of _ (by decide +kernel)) ggL_law_X2_barrels
set_option maxRecDepth 20000 in
theorem ggL_law_X3_barrels : GoodIn wsL_law wsX3_barrels := goodIn_r _ [349, 89, 88, 510, 511, 512, 513, 514, 515, 516, 517, 518, 519, 520, 521, 522] (by decide +kernel) (by decide +kernel)
set_option maxRecDepth 20000 in
theorem gL_law_X3_barrels : GoodIn wsL_law (wsV RL 93 RX3 yX3_barrels wsX3_barrels) := goodIn_app (goodIn_of _ (by decide +kernel)) ggL_law_X3_barrels
set_option maxRecDepth 20000 in
theorem ggL_law_L_litresIn : GoodIn wsL_law wsL_litresIn := goodIn_ca (goodIn_r _ [352, 307, 353, 354, 355, 2, 356, 312, 313, 314, 315, 316, 317, 318, 17, 319, 320, 528, 529, 530, 531, 532, 533, 506, 507, 508, 509, 523, 524, 525, 526, 527] (by decide +kernel) (by decide +kernel)) (goodIn_sub (fun _ h => List.mem_append_right _ h) (by decide +kernel))
set_option maxRecDepth 20000 in
theorem gL_law_L_litresIn : GoodIn wsL_law (va_wsS RL 94 yL_litresIn wsL_litresIn) := goodIn_app (goodIn_of _ (by decide +kernel)) ggL_law_L_litresIn
set_option maxRecDepth 20000 in
theorem ggL_law_X3_litresIn : GoodIn wsL_law wsX3_litresIn := goodIn_r _ [360, 361, 362, 363, 5, 364, 43, 326, 327, 328, 329, 88, 89, 510, 511, 512, 513, 514, 515, 516, 517, 518, 519, 520, 521, 522] (by decide +kernel) (by decide +kernel)
set_option maxRecDepth 20000 in
theorem gL_law_X3_litresIn : GoodIn wsL_law (wsV RL 96 RX3 yX3_litresIn wsX3_litresIn) := goodIn_app (goodIn_of _ (by decide +kernel)) ggL_law_X3_litresIn
set_option maxRecDepth 20000 in
theorem ggL_law_L_ageOf : GoodIn wsL_law wsL_ageOf := goodIn_ca (goodIn_r _ [367, 307, 368, 369, 370, 2, 371, 372, 313, 314, 315, 316, 317, 318, 17, 319, 320, 528, 529, 530, 531, 532, 533, 506, 507, 508, 509, 523, 524, 525, 526, 527] (by decide +kernel) (by decide +kernel)) (goodIn_sub (fun _ h => List.mem_append_right _ h) (by decide +kernel))
set_option maxRecDepth 20000 in
theorem gL_law_L_ageOf : GoodIn wsL_law (va_wsS RL 97 yL_ageOf wsL_ageOf) := goodIn_app (goodIn_of _ (by decide +kernel)) ggL_law_L_ageOf
set_option maxRecDepth 20000 in
theorem ggL_law_X3_ageOf : GoodIn wsL_law wsX3_ageOf := goodIn_r _ [376, 361, 362, 363, 5, 364, 43, 326, 327, 328, 329, 88, 89, 510, 511, 512, 513, 514, 515, 516, 517, 518, 519, 520, 521, 522] (by decide +kernel) (by decide +kernel)
set_option maxRecDepth 20000 in
theorem gL_law_X3_ageOf : GoodIn wsL_law (wsV RL 99 RX3 yX3_ageOf wsX3_ageOf) := goodIn_app (goodIn_of _ (by decide +kernel)) ggL_law_X3_ageOf
set_option maxRecDepth 20000 in
theorem ggL_law_L_acidOf : GoodIn wsL_law wsL_acidOf := goodIn_ca (goodIn_r _ [379, 307, 380, 381, 382, 2, 383, 384, 313, 314, 315, 316, 317, 318, 17, 319, 320, 528, 529, 530, 531, 532, 533, 506, 507, 508, 509, 523, 524, 525, 526, 527] (by decide +kernel) (by decide +kernel)) (goodIn_sub (fun _ h => List.mem_append_right _ h) (by decide +kernel))
set_option maxRecDepth 20000 in
theorem gL_law_L_acidOf : GoodIn wsL_law (va_wsS RL 100 yL_acidOf wsL_acidOf) := goodIn_app (goodIn_of _ (by decide +kernel)) ggL_law_L_acidOf
set_option maxRecDepth 20000 in
theorem ggL_law_X3_acidOf : GoodIn wsL_law wsX3_acidOf := goodIn_r _ [388, 361, 362, 363, 5, 364, 43, 326, 327, 328, 329, 88, 89, 510, 511, 512, 513, 514, 515, 516, 517, 518, 519, 520, 521, 522] (by decide +kernel) (by decide +kernel)
set_option maxRecDepth 20000 in
theorem gL_law_X3_acidOf : GoodIn wsL_law (wsV RL 102 RX3 yX3_acidOf wsX3_acidOf) := goodIn_app (goodIn_of _ (by decide +kernel)) ggL_law_X3_acidOf
set_option maxRecDepth 20000 in
theorem ggL_law_L_sugarOf : GoodIn wsL_law wsL_sugarOf := goodIn_ca (goodIn_r _ [391, 307, 392, 393, 394, 2, 395, 396, 313, 314, 315, 316, 317, 318, 17, 319, 320, 528, 529, 530, 531, 532, 533, 506, 507, 508, 509, 523, 524, 525, 526, 527] (by decide +kernel) (by decide +kernel)) (goodIn_sub (fun _ h => List.mem_append_right _ h) (by decide +kernel))
set_option maxRecDepth 20000 in
theorem gL_law_L_sugarOf : GoodIn wsL_law (va_wsS RL 103 yL_sugarOf wsL_sugarOf) := goodIn_app (goodIn_of _ (by decide +kernel)) ggL_law_L_sugarOf
set_option maxRecDepth 20000 in
theorem ggL_law_X3_sugarOf : GoodIn wsL_law wsX3_sugarOf := goodIn_r _ [400, 361, 362, 363, 5, 364, 43, 326, 327, 328, 329, 88, 89, 510, 511, 512, 513, 514, 515, 516, 517, 518, 519, 520, 521, 522] (by decide +kernel) (by decide +kernel)
set_option maxRecDepth 20000 in
theorem gL_law_X3_sugarOf : GoodIn wsL_law (wsV RL 105 RX3 yX3_sugarOf wsX3_sugarOf) := goodIn_app (goodIn_of _ (by decide +kernel)) ggL_law_X3_sugarOf
set_option maxRecDepth 20000 in
theorem ggL_law_L_tasteOf : GoodIn wsL_law wsL_tasteOf := goodIn_ca (goodIn_r _ [403, 307, 404, 405, 406, 2, 407, 313, 314, 315, 316, 317, 318, 17, 319, 320, 408, 409, 410, 29, 411, 82, 412, 413, 81, 210, 83, 414, 202, 185, 186, 187, 80, 506, 507, 508, 509, 523, 524, 525, 526, 527, 528, 529, 530, 531, 532, 533] (by decide +kernel) (by decide +kernel)) (goodIn_sub (fun _ h => List.mem_append_right _ h) (by decide +kernel))
set_option maxRecDepth 20000 in
theorem gL_law_L_tasteOf : GoodIn wsL_law (va_wsS RL 106 yL_tasteOf wsL_tasteOf) := goodIn_app (goodIn_of _ (by decide +kernel)) ggL_law_L_tasteOf
set_option maxRecDepth 20000 in
theorem ggL_law_X3_tasteOf : GoodIn wsL_law wsX3_tasteOf := goodIn_r _ [418, 43, 419, 168, 240, 420, 326, 327, 328, 5, 329, 88, 89, 228, 229, 230, 231, 510, 511, 512, 513, 514, 515, 516, 517, 518, 519, 520, 521, 522] (by decide +kernel) (by decide +kernel)
set_option maxRecDepth 20000 in
theorem gL_law_X3_tasteOf : GoodIn wsL_law (wsV RL 108 RX3 yX3_tasteOf wsX3_tasteOf) := goodIn_app (goodIn_of _ (by decide +kernel)) ggL_law_X3_tasteOf
set_option maxRecDepth 20000 in
theorem ggL_law_X2_oldest : GoodIn wsL_law wsX2_oldest := goodIn_r _ [424, 17, 425, 214, 215, 16, 216, 30, 27, 151, 184, 185, 186, 29, 187, 80, 506, 507, 508, 509, 523, 524, 525, 526, 527, 528, 529, 530, 531, 532, 533] (by decide +kernel) (by decide +kernel)
set_option maxRecDepth 20000 in
theorem gL_law_X2_oldest : GoodIn wsL_law (wsV RL 109 RX2 yX2_oldest wsX2_oldest) := goodIn_app (goodIn_of _ (by decide +kernel)) ggL_law_X2_oldest
set_option maxRecDepth 20000 in
theorem ggL_law_X3_oldest : GoodIn wsL_law wsX3_oldest := goodIn_r _ [429, 89, 256, 257, 258, 5, 259, 88, 43, 228, 229, 230, 231, 510, 511, 512, 513, 514, 515, 516, 517, 518, 519, 520, 521, 522] (by decide +kernel) (by decide +kernel)
set_option maxRecDepth 20000 in
theorem gL_law_X3_oldest : GoodIn wsL_law (wsV RL 112 RX3 yX3_oldest wsX3_oldest) := goodIn_app (goodIn_of _ (by decide +kernel)) ggL_law_X3_oldest
set_option maxRecDepth 20000 in
theorem ggL_law_X2_drawable : GoodIn wsL_law wsX2_drawable := goodIn_r _ [433, 17, 267, 268, 269, 16, 270, 32, 27, 151, 271, 153, 272, 33, 105, 273, 213, 214, 215, 216, 30, 184, 185, 186, 29, 187, 80, 506, 507, 508, 509, 523, 524, 525, 526, 527, 528, 529, 530, 531, 532, 533] (by decide +kernel) (by decide +kernel)
set_option maxRecDepth 20000 in
theorem gL_law_X2_drawable : GoodIn wsL_law (wsV RL 113 RX2 yX2_drawable wsX2_drawable) := goodIn_app (goodIn_of _ (by decide +kernel)) ggL_law_X2_drawable
set_option maxRecDepth 20000 in
theorem ggL_law_X3_drawable : GoodIn wsL_law wsX3_drawable := goodIn_r _ [437, 89, 296, 297, 298, 5, 299, 46, 43, 242, 294, 227, 241, 256, 257, 258, 259, 88, 228, 229, 230, 231, 122, 123, 124, 510, 511, 512, 513, 514, 515, 516, 517, 518, 519, 520, 521, 522] (by decide +kernel) (by decide +kernel)
set_option maxRecDepth 20000 in
theorem gL_law_X3_drawable : GoodIn wsL_law (wsV RL 116 RX3 yX3_drawable wsX3_drawable) := goodIn_app (goodIn_of _ (by decide +kernel)) ggL_law_X3_drawable
set_option maxRecDepth 20000 in
theorem ggL_law_L_bottles : GoodIn wsL_law wsL_bottles := goodIn_ca (goodIn_r _ [440, 51, 441, 442, 443, 2, 444, 57, 58, 20, 506, 507, 508, 509] (by decide +kernel) (by decide +kernel)) (goodIn_sub (fun _ h => List.mem_append_left _ (List.mem_append_left _ (List.mem_append_right _ h))) (by decide +kernel))
set_option maxRecDepth 20000 in
theorem gL_law_L_bottles : GoodIn wsL_law (va_wsS RL 117 yL_bottles wsL_bottles) := goodIn_app (goodIn_of _ (by decide +kernel)) ggL_law_L_bottles
set_option maxRecDepth 20000 in
theorem ggL_law_X3_bottles : GoodIn wsL_law wsX3_bottles := goodIn_r _ [448, 89, 291, 293, 295, 510, 511, 512, 513, 514, 515, 516, 517, 518, 519, 520, 521, 522] (by decide +kernel) (by decide +kernel)
set_option maxRecDepth 20000 in
theorem gL_law_X3_bottles : GoodIn wsL_law (wsV RL 119 RX3 yX3_bottles wsX3_bottles) := goodIn_app (goodIn_of _ (by decide +kernel)) ggL_law_X3_bottles
set_option maxRecDepth 20000 in
theorem ggL_law_X2_years : GoodIn wsL_law wsX2_years := goodIn_r _ [452, 21, 506, 507, 508, 509] (by decide +kernel) (by decide +kernel)
set_option maxRecDepth 20000 in
theorem gL_law_X2_years : GoodIn wsL_law (wsV RL 120 RX2 yX2_years wsX2_years) := goodIn_app (goodIn_of _ (by decide +kernel)) ggL_law_X2_years
set_option maxRecDepth 20000 in
theorem ggL_law_X3_years : GoodIn wsL_law wsX3_years := goodIn_r _ [456, 89, 225, 510, 511, 512, 513, 514, 515, 516, 517, 518, 519, 520, 521, 522] (by decide +kernel) (by decide +kernel)
set_option maxRecDepth 20000 in
theorem gL_law_X3_years : GoodIn wsL_law (wsV RL 123 RX3 yX3_years wsX3_years) := goodIn_app (goodIn_of _ (by decide +kernel)) ggL_law_X3_years
set_option maxRecDepth 20000 in
theorem ggL_law_X2_meanAge : GoodIn wsL_law wsX2_meanAge := goodIn_r _ [460, 17, 461, 462, 463, 16, 464, 30, 27, 105, 465, 466, 467, 468, 151, 506, 507, 508, 509, 523, 524, 525, 526, 527, 528, 529, 530, 531, 532, 533] (by decide +kernel) (by decide +kernel)
set_option maxRecDepth 20000 in
theorem gL_law_X2_meanAge : GoodIn wsL_law (wsV RL 124 RX2 yX2_meanAge wsX2_meanAge) := goodIn_app (goodIn_of _ (by decide +kernel)) ggL_law_X2_meanAge
set_option maxRecDepth 20000 in
theorem ggL_law_X3_meanAge : GoodIn wsL_law wsX3_meanAge := goodIn_r _ [472, 473, 474, 475, 5, 476, 89, 88, 43, 228, 229, 230, 231, 510, 511, 512, 513, 514, 515, 516, 517, 518, 519, 520, 521, 522] (by decide +kernel) (by decide +kernel)
set_option maxRecDepth 20000 in
theorem gL_law_X3_meanAge : GoodIn wsL_law (wsV RL 127 RX3 yX3_meanAge wsX3_meanAge) := goodIn_app (goodIn_of _ (by decide +kernel)) ggL_law_X3_meanAge
set_option maxRecDepth 20000 in
theorem ggL_law_X2_meanSugar : GoodIn wsL_law wsX2_meanSugar := goodIn_r _ [480, 17, 461, 462, 463, 16, 464, 30, 27, 105, 481, 482, 483, 484, 153, 506, 507, 508, 509, 523, 524, 525, 526, 527, 528, 529, 530, 531, 532, 533] (by decide +kernel) (by decide +kernel)
set_option maxRecDepth 20000 in
theorem gL_law_X2_meanSugar : GoodIn wsL_law (wsV RL 128 RX2 yX2_meanSugar wsX2_meanSugar) := goodIn_app (goodIn_of _ (by decide +kernel)) ggL_law_X2_meanSugar
set_option maxRecDepth 20000 in
theorem ggL_law_X3_meanSugar : GoodIn wsL_law wsX3_meanSugar := goodIn_r _ [488, 473, 474, 475, 5, 476, 89, 88, 43, 228, 229, 230, 231, 510, 511, 512, 513, 514, 515, 516, 517, 518, 519, 520, 521, 522] (by decide +kernel) (by decide +kernel)
set_option maxRecDepth 20000 in
theorem gL_law_X3_meanSugar : GoodIn wsL_law (wsV RL 131 RX3 yX3_meanSugar wsX3_meanSugar) := goodIn_app (goodIn_of _ (by decide +kernel)) ggL_law_X3_meanSugar
set_option maxRecDepth 20000 in
theorem ggL_law_X2_firstBottleIn : GoodIn wsL_law wsX2_firstBottleIn := goodIn_r _ [492, 17, 18, 267, 268, 269, 16, 270, 32, 27, 151, 271, 153, 272, 33, 105, 273, 213, 214, 215, 216, 30, 184, 185, 186, 29, 187, 80, 493, 494, 495, 496, 31, 497, 498, 499, 500, 192, 501, 81, 82, 83, 101, 102, 103, 104, 65, 106, 107, 108, 109, 110, 111, 112, 113, 142, 143, 144, 145, 146, 147, 148, 149, 150, 152, 154, 155, 156, 157, 158, 77, 78, 79, 173, 174, 175, 176, 177, 178, 179, 180, 181, 182, 183, 188, 189, 190, 191, 193, 194, 195, 196, 197, 198, 199, 200, 201, 202, 203, 204, 205, 206, 207, 208, 209, 210, 211, 212, 506, 507, 508, 509, 523, 524, 525, 526, 527, 528, 529, 530, 531, 532, 533] (by decide +kernel) (by decide +kernel)
set_option maxRecDepth 20000 in
theorem gL_law_X2_firstBottleIn : GoodIn wsL_law (wsV RL 132 RX2 yX2_firstBottleIn wsX2_firstBottleIn) := goodIn_app (goodIn_of _ (by decide +kernel)) ggL_law_X2_firstBottleIn
set_option maxRecDepth 20000 in
theorem ggL_law_X3_firstBottleIn : GoodIn wsL_law wsX3_firstBottleIn := goodIn_r _ [505, 89, 88, 44, 43, 225, 46, 227, 296, 297, 298, 5, 299, 242, 294, 241, 256, 257, 258, 259, 228, 229, 230, 231, 122, 123, 124, 118, 119, 120, 121, 42, 125, 126, 127, 128, 129, 130, 131, 132, 133, 134, 135, 136, 137, 163, 164, 165, 166, 167, 168, 221, 222, 223, 224, 226, 232, 233, 234, 235, 41, 236, 237, 238, 239, 240, 243, 244, 245, 246, 247, 248, 249, 250, 251, 252, 253, 254, 45, 255, 510, 511, 512, 513, 514, 515, 516, 517, 518, 519, 520, 521, 522] (by decide +kernel) (by decide +kernel)
set_option maxRecDepth 20000 in
theorem gL_law_X3_firstBottleIn : GoodIn wsL_law (wsV RL 135 RX3 yX3_firstBottleIn wsX3_firstBottleIn) := goodIn_app (goodIn_of _ (by decide +kernel)) ggL_law_X3_firstBottleIn
theorem dL_law_0 : decode cL_law 0 = .ok (.new 8, 3) := by decide +kernel
theorem dL_law_3 : decode cL_law 3 = .ok (.dup, 1) := by decide +kernel
theorem dL_law_4 : decode cL_law 4 = .ok (.invokespecial 52, 3) := by decide +kernel
theorem dL_law_7 : decode cL_law 7 = .ok (.astore_n 1, 1) := by decide +kernel
theorem dL_law_8 : decode cL_law 8 = .ok (.new 53, 3) := by decide +kernel
theorem dL_law_11 : decode cL_law 11 = .ok (.dup, 1) := by decide +kernel
theorem dL_law_12 : decode cL_law 12 = .ok (.invokespecial 55, 3) := by decide +kernel
theorem dL_law_15 : decode cL_law 15 = .ok (.astore_n 2, 1) := by decide +kernel
theorem dL_law_16 : decode cL_law 16 = .ok (.iconst 1, 1) := by decide +kernel
theorem dL_law_17 : decode cL_law 17 = .ok (.newarray .long, 2) := by decide +kernel
theorem dL_law_19 : decode cL_law 19 = .ok (.astore_n 3, 1) := by decide +kernel
theorem dL_law_20 : decode cL_law 20 = .ok (.iconst 1, 1) := by decide +kernel
theorem dL_law_21 : decode cL_law 21 = .ok (.newarray .double, 2) := by decide +kernel
theorem dL_law_23 : decode cL_law 23 = .ok (.astore 4, 2) := by decide +kernel
theorem dL_law_25 : decode cL_law 25 = .ok (.iconst 0, 1) := by decide +kernel
theorem dL_law_26 : decode cL_law 26 = .ok (.istore 5, 2) := by decide +kernel
theorem dL_law_28 : decode cL_law 28 = .ok (.iload 5, 2) := by decide +kernel
theorem dL_law_30 : decode cL_law 30 = .ok (.aload_n 0, 1) := by decide +kernel
theorem dL_law_31 : decode cL_law 31 = .ok (.arraylength, 1) := by decide +kernel
theorem dL_law_32 : decode cL_law 32 = .ok (.iconst 3, 1) := by decide +kernel
theorem dL_law_33 : decode cL_law 33 = .ok (.isub, 1) := by decide +kernel
theorem dL_law_34 : decode cL_law 34 = .ok (.if_icmp .gt 1096, 3) := by decide +kernel
theorem dL_law_37 : decode cL_law 37 = .ok (.aload_n 0, 1) := by decide +kernel
theorem dL_law_38 : decode cL_law 38 = .ok (.iload 5, 2) := by decide +kernel
theorem dL_law_40 : decode cL_law 40 = .ok (.iaload, 1) := by decide +kernel
theorem dL_law_41 : decode cL_law 41 = .ok (.bipush 31, 2) := by decide +kernel
theorem dL_law_43 : decode cL_law 43 = .ok (.iand, 1) := by decide +kernel
theorem dL_law_44 : decode cL_law 44 = .ok (.tableswitch 1080 0 19 #[96, 164, 241, 282, 323, 379, 456, 492, 505, 582, 659, 736, 813, 890, 903, 916, 972, 985, 1026, 1067], 96) := by decide +kernel
theorem dL_law_140 : decode cL_law 140 = .ok (.aload_n 1, 1) := by decide +kernel
theorem dL_law_141 : decode cL_law 141 = .ok (.aload_n 0, 1) := by decide +kernel
theorem dL_law_142 : decode cL_law 142 = .ok (.iload 5, 2) := by decide +kernel
theorem dL_law_144 : decode cL_law 144 = .ok (.iconst 1, 1) := by decide +kernel
theorem dL_law_145 : decode cL_law 145 = .ok (.iadd, 1) := by decide +kernel
theorem dL_law_146 : decode cL_law 146 = .ok (.iaload, 1) := by decide +kernel
theorem dL_law_147 : decode cL_law 147 = .ok (.aload_n 0, 1) := by decide +kernel
theorem dL_law_148 : decode cL_law 148 = .ok (.iload 5, 2) := by decide +kernel
theorem dL_law_150 : decode cL_law 150 = .ok (.iconst 2, 1) := by decide +kernel
theorem dL_law_151 : decode cL_law 151 = .ok (.iadd, 1) := by decide +kernel
theorem dL_law_152 : decode cL_law 152 = .ok (.iaload, 1) := by decide +kernel
theorem dL_law_153 : decode cL_law 153 = .ok (.aload_n 3, 1) := by decide +kernel
theorem dL_law_154 : decode cL_law 154 = .ok (.invokestatic 56, 3) := by decide +kernel
theorem dL_law_157 : decode cL_law 157 = .ok (.istore 6, 2) := by decide +kernel
theorem dL_law_159 : decode cL_law 159 = .ok (.aload_n 2, 1) := by decide +kernel
theorem dL_law_160 : decode cL_law 160 = .ok (.aload_n 0, 1) := by decide +kernel
theorem dL_law_161 : decode cL_law 161 = .ok (.iload 5, 2) := by decide +kernel
theorem dL_law_163 : decode cL_law 163 = .ok (.iconst 1, 1) := by decide +kernel
theorem dL_law_164 : decode cL_law 164 = .ok (.iadd, 1) := by decide +kernel
theorem dL_law_165 : decode cL_law 165 = .ok (.iaload, 1) := by decide +kernel
theorem dL_law_166 : decode cL_law 166 = .ok (.aload_n 0, 1) := by decide +kernel
theorem dL_law_167 : decode cL_law 167 = .ok (.iload 5, 2) := by decide +kernel
theorem dL_law_169 : decode cL_law 169 = .ok (.iconst 2, 1) := by decide +kernel
theorem dL_law_170 : decode cL_law 170 = .ok (.iadd, 1) := by decide +kernel
theorem dL_law_171 : decode cL_law 171 = .ok (.iaload, 1) := by decide +kernel
theorem dL_law_172 : decode cL_law 172 = .ok (.invokevirtual 61, 3) := by decide +kernel
theorem dL_law_175 : decode cL_law 175 = .ok (.istore 7, 2) := by decide +kernel
theorem dL_law_177 : decode cL_law 177 = .ok (.aload_n 2, 1) := by decide +kernel
theorem dL_law_178 : decode cL_law 178 = .ok (.invokevirtual 62, 3) := by decide +kernel
theorem dL_law_181 : decode cL_law 181 = .ok (.iload 6, 2) := by decide +kernel
theorem dL_law_183 : decode cL_law 183 = .ok (.if_icmp .eq 5, 3) := by decide +kernel
theorem dL_law_186 : decode cL_law 186 = .ok (.iconst 0, 1) := by decide +kernel
theorem dL_law_187 : decode cL_law 187 = .ok (.ireturn, 1) := by decide +kernel
theorem dL_law_188 : decode cL_law 188 = .ok (.iload 6, 2) := by decide +kernel
theorem dL_law_190 : decode cL_law 190 = .ok (.ifCond .ne 15, 3) := by decide +kernel
theorem dL_law_193 : decode cL_law 193 = .ok (.aload_n 3, 1) := by decide +kernel
theorem dL_law_194 : decode cL_law 194 = .ok (.iconst 0, 1) := by decide +kernel
theorem dL_law_195 : decode cL_law 195 = .ok (.laload, 1) := by decide +kernel
theorem dL_law_196 : decode cL_law 196 = .ok (.iload 7, 2) := by decide +kernel
theorem dL_law_198 : decode cL_law 198 = .ok (.i2l, 1) := by decide +kernel
theorem dL_law_199 : decode cL_law 199 = .ok (.lcmp, 1) := by decide +kernel
theorem dL_law_200 : decode cL_law 200 = .ok (.ifCond .eq 5, 3) := by decide +kernel
theorem dL_law_203 : decode cL_law 203 = .ok (.iconst 0, 1) := by decide +kernel
theorem dL_law_204 : decode cL_law 204 = .ok (.ireturn, 1) := by decide +kernel
theorem dL_law_205 : decode cL_law 205 = .ok (.goto 919, 3) := by decide +kernel
theorem dL_law_208 : decode cL_law 208 = .ok (.aload_n 1, 1) := by decide +kernel
theorem dL_law_209 : decode cL_law 209 = .ok (.aload_n 0, 1) := by decide +kernel
theorem dL_law_210 : decode cL_law 210 = .ok (.iload 5, 2) := by decide +kernel
theorem dL_law_212 : decode cL_law 212 = .ok (.iconst 1, 1) := by decide +kernel
theorem dL_law_213 : decode cL_law 213 = .ok (.iadd, 1) := by decide +kernel
