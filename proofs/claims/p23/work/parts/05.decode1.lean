theorem dX1_ageAll_84 : decode cX1_ageAll 84 = .ok (.aaload, 1) := by decide +kernel
theorem dX1_ageAll_85 : decode cX1_ageAll 85 = .ok (.getfield 49, 3) := by decide +kernel
theorem dX1_ageAll_88 : decode cX1_ageAll 88 = .ok (.dmul, 1) := by decide +kernel
theorem dX1_ageAll_89 : decode cX1_ageAll 89 = .ok (.putfield 28, 3) := by decide +kernel
theorem dX1_ageAll_92 : decode cX1_ageAll 92 = .ok (.dload_n 3, 1) := by decide +kernel
theorem dX1_ageAll_93 : decode cX1_ageAll 93 = .ok (.dreturn, 1) := by decide +kernel
theorem dX1_draughtNow_0 : decode cX1_draughtNow 0 = .ok (.dconst 1, 1) := by decide +kernel
theorem dX1_draughtNow_1 : decode cX1_draughtNow 1 = .ok (.ldc2_w 96, 3) := by decide +kernel
theorem dX1_draughtNow_4 : decode cX1_draughtNow 4 = .ok (.aload_n 0, 1) := by decide +kernel
theorem dX1_draughtNow_5 : decode cX1_draughtNow 5 = .ok (.getfield 22, 3) := by decide +kernel
theorem dX1_draughtNow_8 : decode cX1_draughtNow 8 = .ok (.bipush 18, 2) := by decide +kernel
theorem dX1_draughtNow_10 : decode cX1_draughtNow 10 = .ok (.isub, 1) := by decide +kernel
theorem dX1_draughtNow_11 : decode cX1_draughtNow 11 = .ok (.i2d, 1) := by decide +kernel
theorem dX1_draughtNow_12 : decode cX1_draughtNow 12 = .ok (.dmul, 1) := by decide +kernel
theorem dX1_draughtNow_13 : decode cX1_draughtNow 13 = .ok (.dadd, 1) := by decide +kernel
theorem dX1_draughtNow_14 : decode cX1_draughtNow 14 = .ok (.dstore_n 1, 1) := by decide +kernel
theorem dX1_draughtNow_15 : decode cX1_draughtNow 15 = .ok (.dload_n 1, 1) := by decide +kernel
theorem dX1_draughtNow_16 : decode cX1_draughtNow 16 = .ok (.ldc2_w 98, 3) := by decide +kernel
theorem dX1_draughtNow_19 : decode cX1_draughtNow 19 = .ok (.dcmp .g, 1) := by decide +kernel
theorem dX1_draughtNow_20 : decode cX1_draughtNow 20 = .ok (.ifCond .ge 9, 3) := by decide +kernel
theorem dX1_draughtNow_23 : decode cX1_draughtNow 23 = .ok (.ldc2_w 98, 3) := by decide +kernel
theorem dX1_draughtNow_26 : decode cX1_draughtNow 26 = .ok (.goto 4, 3) := by decide +kernel
theorem dX1_draughtNow_29 : decode cX1_draughtNow 29 = .ok (.dload_n 1, 1) := by decide +kernel
theorem dX1_draughtNow_30 : decode cX1_draughtNow 30 = .ok (.dreturn, 1) := by decide +kernel
set_option maxRecDepth 20000 in
theorem ggX1_eldest_X0_isEmpty : GoodIn wsX1_eldest wsX0_isEmpty := goodIn_r _ [8, 9, 15, 16, 17, 18, 19, 20] (by decide +kernel) (by decide +kernel)
set_option maxRecDepth 20000 in
theorem gX1_eldest_X0_isEmpty : GoodIn wsX1_eldest (wsV RX1 83 RX0 yX0_isEmpty wsX0_isEmpty) := goodIn_app (goodIn_of _ (by decide +kernel)) ggX1_eldest_X0_isEmpty
theorem dX1_eldest_0 : decode cX1_eldest 0 = .ok (.iconst (-1), 1) := by decide +kernel
theorem dX1_eldest_1 : decode cX1_eldest 1 = .ok (.istore_n 1, 1) := by decide +kernel
theorem dX1_eldest_2 : decode cX1_eldest 2 = .ok (.dconst 0, 1) := by decide +kernel
theorem dX1_eldest_3 : decode cX1_eldest 3 = .ok (.dstore_n 2, 1) := by decide +kernel
theorem dX1_eldest_4 : decode cX1_eldest 4 = .ok (.iconst 0, 1) := by decide +kernel
theorem dX1_eldest_5 : decode cX1_eldest 5 = .ok (.istore 4, 2) := by decide +kernel
theorem dX1_eldest_7 : decode cX1_eldest 7 = .ok (.iload 4, 2) := by decide +kernel
theorem dX1_eldest_9 : decode cX1_eldest 9 = .ok (.aload_n 0, 1) := by decide +kernel
theorem dX1_eldest_10 : decode cX1_eldest 10 = .ok (.getfield 18, 3) := by decide +kernel
theorem dX1_eldest_13 : decode cX1_eldest 13 = .ok (.if_icmp .ge 51, 3) := by decide +kernel
theorem dX1_eldest_16 : decode cX1_eldest 16 = .ok (.aload_n 0, 1) := by decide +kernel
theorem dX1_eldest_17 : decode cX1_eldest 17 = .ok (.getfield 11, 3) := by decide +kernel
theorem dX1_eldest_20 : decode cX1_eldest 20 = .ok (.iload 4, 2) := by decide +kernel
theorem dX1_eldest_22 : decode cX1_eldest 22 = .ok (.aaload, 1) := by decide +kernel
theorem dX1_eldest_23 : decode cX1_eldest 23 = .ok (.invokevirtual 83, 3) := by decide +kernel
theorem dX1_eldest_26 : decode cX1_eldest 26 = .ok (.ifCond .ne 32, 3) := by decide +kernel
theorem dX1_eldest_29 : decode cX1_eldest 29 = .ok (.aload_n 0, 1) := by decide +kernel
theorem dX1_eldest_30 : decode cX1_eldest 30 = .ok (.getfield 11, 3) := by decide +kernel
theorem dX1_eldest_33 : decode cX1_eldest 33 = .ok (.iload 4, 2) := by decide +kernel
theorem dX1_eldest_35 : decode cX1_eldest 35 = .ok (.aaload, 1) := by decide +kernel
theorem dX1_eldest_36 : decode cX1_eldest 36 = .ok (.getfield 66, 3) := by decide +kernel
theorem dX1_eldest_39 : decode cX1_eldest 39 = .ok (.dload_n 2, 1) := by decide +kernel
theorem dX1_eldest_40 : decode cX1_eldest 40 = .ok (.dcmp .l, 1) := by decide +kernel
theorem dX1_eldest_41 : decode cX1_eldest 41 = .ok (.ifCond .lt 17, 3) := by decide +kernel
theorem dX1_eldest_44 : decode cX1_eldest 44 = .ok (.iload 4, 2) := by decide +kernel
theorem dX1_eldest_46 : decode cX1_eldest 46 = .ok (.istore_n 1, 1) := by decide +kernel
theorem dX1_eldest_47 : decode cX1_eldest 47 = .ok (.aload_n 0, 1) := by decide +kernel
theorem dX1_eldest_48 : decode cX1_eldest 48 = .ok (.getfield 11, 3) := by decide +kernel
theorem dX1_eldest_51 : decode cX1_eldest 51 = .ok (.iload 4, 2) := by decide +kernel
theorem dX1_eldest_53 : decode cX1_eldest 53 = .ok (.aaload, 1) := by decide +kernel
theorem dX1_eldest_54 : decode cX1_eldest 54 = .ok (.getfield 66, 3) := by decide +kernel
theorem dX1_eldest_57 : decode cX1_eldest 57 = .ok (.dstore_n 2, 1) := by decide +kernel
theorem dX1_eldest_58 : decode cX1_eldest 58 = .ok (.iinc 4 1, 3) := by decide +kernel
theorem dX1_eldest_61 : decode cX1_eldest 61 = .ok (.goto (-54), 3) := by decide +kernel
theorem dX1_eldest_64 : decode cX1_eldest 64 = .ok (.iload_n 1, 1) := by decide +kernel
theorem dX1_eldest_65 : decode cX1_eldest 65 = .ok (.ireturn, 1) := by decide +kernel
set_option maxRecDepth 20000 in
theorem ggX1_greatestAge_X1_eldest : GoodIn wsX1_greatestAge wsX1_eldest := goodIn_r _ [7, 8, 1, 2, 9, 10, 11, 12, 13, 14, 15, 16, 17, 18, 19, 20, 21, 22, 23, 24, 25] (by decide +kernel) (by decide +kernel)
set_option maxRecDepth 20000 in
theorem gX1_greatestAge_X1_eldest : GoodIn wsX1_greatestAge (wsV RX1 90 RX1 yX1_eldest wsX1_eldest) := goodIn_app (goodIn_of _ (by decide +kernel)) ggX1_greatestAge_X1_eldest
theorem dX1_greatestAge_0 : decode cX1_greatestAge 0 = .ok (.aload_n 0, 1) := by decide +kernel
theorem dX1_greatestAge_1 : decode cX1_greatestAge 1 = .ok (.invokevirtual 90, 3) := by decide +kernel
theorem dX1_greatestAge_4 : decode cX1_greatestAge 4 = .ok (.istore_n 1, 1) := by decide +kernel
theorem dX1_greatestAge_5 : decode cX1_greatestAge 5 = .ok (.iload_n 1, 1) := by decide +kernel
theorem dX1_greatestAge_6 : decode cX1_greatestAge 6 = .ok (.iconst (-1), 1) := by decide +kernel
theorem dX1_greatestAge_7 : decode cX1_greatestAge 7 = .ok (.if_icmp .ne 7, 3) := by decide +kernel
theorem dX1_greatestAge_10 : decode cX1_greatestAge 10 = .ok (.dconst 0, 1) := by decide +kernel
theorem dX1_greatestAge_11 : decode cX1_greatestAge 11 = .ok (.goto 12, 3) := by decide +kernel
theorem dX1_greatestAge_14 : decode cX1_greatestAge 14 = .ok (.aload_n 0, 1) := by decide +kernel
theorem dX1_greatestAge_15 : decode cX1_greatestAge 15 = .ok (.getfield 11, 3) := by decide +kernel
theorem dX1_greatestAge_18 : decode cX1_greatestAge 18 = .ok (.iload_n 1, 1) := by decide +kernel
theorem dX1_greatestAge_19 : decode cX1_greatestAge 19 = .ok (.aaload, 1) := by decide +kernel
theorem dX1_greatestAge_20 : decode cX1_greatestAge 20 = .ok (.getfield 66, 3) := by decide +kernel
theorem dX1_greatestAge_23 : decode cX1_greatestAge 23 = .ok (.dreturn, 1) := by decide +kernel
set_option maxRecDepth 20000 in
theorem ggX1_bottlesReady_X1_eldest : GoodIn wsX1_bottlesReady wsX1_eldest := goodIn_r _ [14, 15, 2, 3, 16, 17, 18, 19, 20, 21, 22, 23, 24, 25, 26, 27, 28, 29, 30, 31, 32] (by decide +kernel) (by decide +kernel)
set_option maxRecDepth 20000 in
theorem gX1_bottlesReady_X1_eldest : GoodIn wsX1_bottlesReady (wsV RX1 90 RX1 yX1_eldest wsX1_eldest) := goodIn_app (goodIn_of _ (by decide +kernel)) ggX1_bottlesReady_X1_eldest
theorem dX1_bottlesReady_0 : decode cX1_bottlesReady 0 = .ok (.aload_n 0, 1) := by decide +kernel
theorem dX1_bottlesReady_1 : decode cX1_bottlesReady 1 = .ok (.invokevirtual 90, 3) := by decide +kernel
theorem dX1_bottlesReady_4 : decode cX1_bottlesReady 4 = .ok (.istore_n 1, 1) := by decide +kernel
theorem dX1_bottlesReady_5 : decode cX1_bottlesReady 5 = .ok (.iload_n 1, 1) := by decide +kernel
theorem dX1_bottlesReady_6 : decode cX1_bottlesReady 6 = .ok (.iconst (-1), 1) := by decide +kernel
theorem dX1_bottlesReady_7 : decode cX1_bottlesReady 7 = .ok (.if_icmp .eq 11, 3) := by decide +kernel
theorem dX1_bottlesReady_10 : decode cX1_bottlesReady 10 = .ok (.iload_n 1, 1) := by decide +kernel
theorem dX1_bottlesReady_11 : decode cX1_bottlesReady 11 = .ok (.aload_n 0, 1) := by decide +kernel
theorem dX1_bottlesReady_12 : decode cX1_bottlesReady 12 = .ok (.getfield 25, 3) := by decide +kernel
theorem dX1_bottlesReady_15 : decode cX1_bottlesReady 15 = .ok (.if_icmp .eq 5, 3) := by decide +kernel
theorem dX1_bottlesReady_18 : decode cX1_bottlesReady 18 = .ok (.iconst 0, 1) := by decide +kernel
theorem dX1_bottlesReady_19 : decode cX1_bottlesReady 19 = .ok (.ireturn, 1) := by decide +kernel
theorem dX1_bottlesReady_20 : decode cX1_bottlesReady 20 = .ok (.aload_n 0, 1) := by decide +kernel
theorem dX1_bottlesReady_21 : decode cX1_bottlesReady 21 = .ok (.getfield 11, 3) := by decide +kernel
theorem dX1_bottlesReady_24 : decode cX1_bottlesReady 24 = .ok (.iload_n 1, 1) := by decide +kernel
theorem dX1_bottlesReady_25 : decode cX1_bottlesReady 25 = .ok (.aaload, 1) := by decide +kernel
theorem dX1_bottlesReady_26 : decode cX1_bottlesReady 26 = .ok (.astore_n 2, 1) := by decide +kernel
theorem dX1_bottlesReady_27 : decode cX1_bottlesReady 27 = .ok (.aload_n 2, 1) := by decide +kernel
theorem dX1_bottlesReady_28 : decode cX1_bottlesReady 28 = .ok (.getfield 66, 3) := by decide +kernel
theorem dX1_bottlesReady_31 : decode cX1_bottlesReady 31 = .ok (.ldc2_w 100, 3) := by decide +kernel
theorem dX1_bottlesReady_34 : decode cX1_bottlesReady 34 = .ok (.dcmp .g, 1) := by decide +kernel
theorem dX1_bottlesReady_35 : decode cX1_bottlesReady 35 = .ok (.ifCond .lt 14, 3) := by decide +kernel
theorem dX1_bottlesReady_38 : decode cX1_bottlesReady 38 = .ok (.aload_n 2, 1) := by decide +kernel
theorem dX1_bottlesReady_39 : decode cX1_bottlesReady 39 = .ok (.getfield 72, 3) := by decide +kernel
theorem dX1_bottlesReady_42 : decode cX1_bottlesReady 42 = .ok (.ldc2_w 102, 3) := by decide +kernel
theorem dX1_bottlesReady_45 : decode cX1_bottlesReady 45 = .ok (.dcmp .g, 1) := by decide +kernel
theorem dX1_bottlesReady_46 : decode cX1_bottlesReady 46 = .ok (.ifCond .ge 5, 3) := by decide +kernel
theorem dX1_bottlesReady_49 : decode cX1_bottlesReady 49 = .ok (.iconst 0, 1) := by decide +kernel
theorem dX1_bottlesReady_50 : decode cX1_bottlesReady 50 = .ok (.ireturn, 1) := by decide +kernel
theorem dX1_bottlesReady_51 : decode cX1_bottlesReady 51 = .ok (.aload_n 0, 1) := by decide +kernel
theorem dX1_bottlesReady_52 : decode cX1_bottlesReady 52 = .ok (.getfield 28, 3) := by decide +kernel
theorem dX1_bottlesReady_55 : decode cX1_bottlesReady 55 = .ok (.aload_n 2, 1) := by decide +kernel
theorem dX1_bottlesReady_56 : decode cX1_bottlesReady 56 = .ok (.getfield 49, 3) := by decide +kernel
theorem dX1_bottlesReady_59 : decode cX1_bottlesReady 59 = .ok (.dcmp .g, 1) := by decide +kernel
theorem dX1_bottlesReady_60 : decode cX1_bottlesReady 60 = .ok (.ifCond .ge 10, 3) := by decide +kernel
theorem dX1_bottlesReady_63 : decode cX1_bottlesReady 63 = .ok (.aload_n 0, 1) := by decide +kernel
theorem dX1_bottlesReady_64 : decode cX1_bottlesReady 64 = .ok (.getfield 28, 3) := by decide +kernel
theorem dX1_bottlesReady_67 : decode cX1_bottlesReady 67 = .ok (.goto 7, 3) := by decide +kernel
theorem dX1_bottlesReady_70 : decode cX1_bottlesReady 70 = .ok (.aload_n 2, 1) := by decide +kernel
theorem dX1_bottlesReady_71 : decode cX1_bottlesReady 71 = .ok (.getfield 49, 3) := by decide +kernel
theorem dX1_bottlesReady_74 : decode cX1_bottlesReady 74 = .ok (.dstore_n 3, 1) := by decide +kernel
theorem dX1_bottlesReady_75 : decode cX1_bottlesReady 75 = .ok (.dload_n 3, 1) := by decide +kernel
theorem dX1_bottlesReady_76 : decode cX1_bottlesReady 76 = .ok (.dconst 0, 1) := by decide +kernel
theorem dX1_bottlesReady_77 : decode cX1_bottlesReady 77 = .ok (.dcmp .l, 1) := by decide +kernel
theorem dX1_bottlesReady_78 : decode cX1_bottlesReady 78 = .ok (.ifCond .le 12, 3) := by decide +kernel
theorem dX1_bottlesReady_81 : decode cX1_bottlesReady 81 = .ok (.dload_n 3, 1) := by decide +kernel
theorem dX1_bottlesReady_82 : decode cX1_bottlesReady 82 = .ok (.ldc2_w 104, 3) := by decide +kernel
theorem dX1_bottlesReady_85 : decode cX1_bottlesReady 85 = .ok (.ddiv, 1) := by decide +kernel
theorem dX1_bottlesReady_86 : decode cX1_bottlesReady 86 = .ok (.d2i, 1) := by decide +kernel
theorem dX1_bottlesReady_87 : decode cX1_bottlesReady 87 = .ok (.goto 4, 3) := by decide +kernel
theorem dX1_bottlesReady_90 : decode cX1_bottlesReady 90 = .ok (.iconst 0, 1) := by decide +kernel
theorem dX1_bottlesReady_91 : decode cX1_bottlesReady 91 = .ok (.ireturn, 1) := by decide +kernel
set_option maxRecDepth 20000 in
theorem ggX1_takeBottles_X0_takeOut : GoodIn wsX1_takeBottles wsX0_takeOut := goodIn_r _ [9, 10, 11, 12, 13, 8, 14, 15, 16, 17, 23, 24, 25, 26, 27, 28] (by decide +kernel) (by decide +kernel)
set_option maxRecDepth 20000 in
theorem gX1_takeBottles_X0_takeOut : GoodIn wsX1_takeBottles (wsV RX1 75 RX0 yX0_takeOut wsX0_takeOut) := goodIn_app (goodIn_of _ (by decide +kernel)) ggX1_takeBottles_X0_takeOut
theorem dX1_takeBottles_0 : decode cX1_takeBottles 0 = .ok (.aload_n 0, 1) := by decide +kernel
theorem dX1_takeBottles_1 : decode cX1_takeBottles 1 = .ok (.getfield 25, 3) := by decide +kernel
theorem dX1_takeBottles_4 : decode cX1_takeBottles 4 = .ok (.iconst (-1), 1) := by decide +kernel
theorem dX1_takeBottles_5 : decode cX1_takeBottles 5 = .ok (.if_icmp .ne 4, 3) := by decide +kernel
theorem dX1_takeBottles_8 : decode cX1_takeBottles 8 = .ok (.return_, 1) := by decide +kernel
theorem dX1_takeBottles_9 : decode cX1_takeBottles 9 = .ok (.iload_n 1, 1) := by decide +kernel
theorem dX1_takeBottles_10 : decode cX1_takeBottles 10 = .ok (.i2d, 1) := by decide +kernel
theorem dX1_takeBottles_11 : decode cX1_takeBottles 11 = .ok (.ldc2_w 104, 3) := by decide +kernel
theorem dX1_takeBottles_14 : decode cX1_takeBottles 14 = .ok (.dmul, 1) := by decide +kernel
theorem dX1_takeBottles_15 : decode cX1_takeBottles 15 = .ok (.dstore_n 2, 1) := by decide +kernel
theorem dX1_takeBottles_16 : decode cX1_takeBottles 16 = .ok (.aload_n 0, 1) := by decide +kernel
theorem dX1_takeBottles_17 : decode cX1_takeBottles 17 = .ok (.aload_n 0, 1) := by decide +kernel
theorem dX1_takeBottles_18 : decode cX1_takeBottles 18 = .ok (.getfield 28, 3) := by decide +kernel
theorem dX1_takeBottles_21 : decode cX1_takeBottles 21 = .ok (.dload_n 2, 1) := by decide +kernel
theorem dX1_takeBottles_22 : decode cX1_takeBottles 22 = .ok (.dsub, 1) := by decide +kernel
theorem dX1_takeBottles_23 : decode cX1_takeBottles 23 = .ok (.putfield 28, 3) := by decide +kernel
theorem dX1_takeBottles_26 : decode cX1_takeBottles 26 = .ok (.aload_n 0, 1) := by decide +kernel
theorem dX1_takeBottles_27 : decode cX1_takeBottles 27 = .ok (.getfield 11, 3) := by decide +kernel
theorem dX1_takeBottles_30 : decode cX1_takeBottles 30 = .ok (.aload_n 0, 1) := by decide +kernel
theorem dX1_takeBottles_31 : decode cX1_takeBottles 31 = .ok (.getfield 25, 3) := by decide +kernel
theorem dX1_takeBottles_34 : decode cX1_takeBottles 34 = .ok (.aaload, 1) := by decide +kernel
theorem dX1_takeBottles_35 : decode cX1_takeBottles 35 = .ok (.dload_n 2, 1) := by decide +kernel
theorem dX1_takeBottles_36 : decode cX1_takeBottles 36 = .ok (.invokevirtual 75, 3) := by decide +kernel
theorem dX1_takeBottles_39 : decode cX1_takeBottles 39 = .ok (.return_, 1) := by decide +kernel
theorem dX1_allLitres_0 : decode cX1_allLitres 0 = .ok (.dconst 0, 1) := by decide +kernel
theorem dX1_allLitres_1 : decode cX1_allLitres 1 = .ok (.dstore_n 1, 1) := by decide +kernel
theorem dX1_allLitres_2 : decode cX1_allLitres 2 = .ok (.iconst 0, 1) := by decide +kernel
theorem dX1_allLitres_3 : decode cX1_allLitres 3 = .ok (.istore_n 3, 1) := by decide +kernel
theorem dX1_allLitres_4 : decode cX1_allLitres 4 = .ok (.iload_n 3, 1) := by decide +kernel
theorem dX1_allLitres_5 : decode cX1_allLitres 5 = .ok (.aload_n 0, 1) := by decide +kernel
theorem dX1_allLitres_6 : decode cX1_allLitres 6 = .ok (.getfield 18, 3) := by decide +kernel
theorem dX1_allLitres_9 : decode cX1_allLitres 9 = .ok (.if_icmp .ge 21, 3) := by decide +kernel
theorem dX1_allLitres_12 : decode cX1_allLitres 12 = .ok (.dload_n 1, 1) := by decide +kernel
theorem dX1_allLitres_13 : decode cX1_allLitres 13 = .ok (.aload_n 0, 1) := by decide +kernel
theorem dX1_allLitres_14 : decode cX1_allLitres 14 = .ok (.getfield 11, 3) := by decide +kernel
theorem dX1_allLitres_17 : decode cX1_allLitres 17 = .ok (.iload_n 3, 1) := by decide +kernel
theorem dX1_allLitres_18 : decode cX1_allLitres 18 = .ok (.aaload, 1) := by decide +kernel
theorem dX1_allLitres_19 : decode cX1_allLitres 19 = .ok (.getfield 49, 3) := by decide +kernel
theorem dX1_allLitres_22 : decode cX1_allLitres 22 = .ok (.dadd, 1) := by decide +kernel
theorem dX1_allLitres_23 : decode cX1_allLitres 23 = .ok (.dstore_n 1, 1) := by decide +kernel
theorem dX1_allLitres_24 : decode cX1_allLitres 24 = .ok (.iinc 3 1, 3) := by decide +kernel
theorem dX1_allLitres_27 : decode cX1_allLitres 27 = .ok (.goto (-23), 3) := by decide +kernel
theorem dX1_allLitres_30 : decode cX1_allLitres 30 = .ok (.dload_n 1, 1) := by decide +kernel
theorem dX1_allLitres_31 : decode cX1_allLitres 31 = .ok (.dreturn, 1) := by decide +kernel
theorem dX1_litresTimesAge_0 : decode cX1_litresTimesAge 0 = .ok (.dconst 0, 1) := by decide +kernel
theorem dX1_litresTimesAge_1 : decode cX1_litresTimesAge 1 = .ok (.dstore_n 1, 1) := by decide +kernel
theorem dX1_litresTimesAge_2 : decode cX1_litresTimesAge 2 = .ok (.iconst 0, 1) := by decide +kernel
theorem dX1_litresTimesAge_3 : decode cX1_litresTimesAge 3 = .ok (.istore_n 3, 1) := by decide +kernel
theorem dX1_litresTimesAge_4 : decode cX1_litresTimesAge 4 = .ok (.iload_n 3, 1) := by decide +kernel
theorem dX1_litresTimesAge_5 : decode cX1_litresTimesAge 5 = .ok (.aload_n 0, 1) := by decide +kernel
theorem dX1_litresTimesAge_6 : decode cX1_litresTimesAge 6 = .ok (.getfield 18, 3) := by decide +kernel
theorem dX1_litresTimesAge_9 : decode cX1_litresTimesAge 9 = .ok (.if_icmp .ge 31, 3) := by decide +kernel
theorem dX1_litresTimesAge_12 : decode cX1_litresTimesAge 12 = .ok (.dload_n 1, 1) := by decide +kernel
theorem dX1_litresTimesAge_13 : decode cX1_litresTimesAge 13 = .ok (.aload_n 0, 1) := by decide +kernel
theorem dX1_litresTimesAge_14 : decode cX1_litresTimesAge 14 = .ok (.getfield 11, 3) := by decide +kernel
theorem dX1_litresTimesAge_17 : decode cX1_litresTimesAge 17 = .ok (.iload_n 3, 1) := by decide +kernel
theorem dX1_litresTimesAge_18 : decode cX1_litresTimesAge 18 = .ok (.aaload, 1) := by decide +kernel
theorem dX1_litresTimesAge_19 : decode cX1_litresTimesAge 19 = .ok (.getfield 49, 3) := by decide +kernel
theorem dX1_litresTimesAge_22 : decode cX1_litresTimesAge 22 = .ok (.aload_n 0, 1) := by decide +kernel
theorem dX1_litresTimesAge_23 : decode cX1_litresTimesAge 23 = .ok (.getfield 11, 3) := by decide +kernel
theorem dX1_litresTimesAge_26 : decode cX1_litresTimesAge 26 = .ok (.iload_n 3, 1) := by decide +kernel
theorem dX1_litresTimesAge_27 : decode cX1_litresTimesAge 27 = .ok (.aaload, 1) := by decide +kernel
theorem dX1_litresTimesAge_28 : decode cX1_litresTimesAge 28 = .ok (.getfield 66, 3) := by decide +kernel
theorem dX1_litresTimesAge_31 : decode cX1_litresTimesAge 31 = .ok (.dmul, 1) := by decide +kernel
theorem dX1_litresTimesAge_32 : decode cX1_litresTimesAge 32 = .ok (.dadd, 1) := by decide +kernel
theorem dX1_litresTimesAge_33 : decode cX1_litresTimesAge 33 = .ok (.dstore_n 1, 1) := by decide +kernel
theorem dX1_litresTimesAge_34 : decode cX1_litresTimesAge 34 = .ok (.iinc 3 1, 3) := by decide +kernel
theorem dX1_litresTimesAge_37 : decode cX1_litresTimesAge 37 = .ok (.goto (-33), 3) := by decide +kernel
theorem dX1_litresTimesAge_40 : decode cX1_litresTimesAge 40 = .ok (.dload_n 1, 1) := by decide +kernel
theorem dX1_litresTimesAge_41 : decode cX1_litresTimesAge 41 = .ok (.dreturn, 1) := by decide +kernel
theorem dX1_litresTimesSugar_0 : decode cX1_litresTimesSugar 0 = .ok (.dconst 0, 1) := by decide +kernel
theorem dX1_litresTimesSugar_1 : decode cX1_litresTimesSugar 1 = .ok (.dstore_n 1, 1) := by decide +kernel
theorem dX1_litresTimesSugar_2 : decode cX1_litresTimesSugar 2 = .ok (.iconst 0, 1) := by decide +kernel
theorem dX1_litresTimesSugar_3 : decode cX1_litresTimesSugar 3 = .ok (.istore_n 3, 1) := by decide +kernel
theorem dX1_litresTimesSugar_4 : decode cX1_litresTimesSugar 4 = .ok (.iload_n 3, 1) := by decide +kernel
theorem dX1_litresTimesSugar_5 : decode cX1_litresTimesSugar 5 = .ok (.aload_n 0, 1) := by decide +kernel
theorem dX1_litresTimesSugar_6 : decode cX1_litresTimesSugar 6 = .ok (.getfield 18, 3) := by decide +kernel
theorem dX1_litresTimesSugar_9 : decode cX1_litresTimesSugar 9 = .ok (.if_icmp .ge 31, 3) := by decide +kernel
theorem dX1_litresTimesSugar_12 : decode cX1_litresTimesSugar 12 = .ok (.dload_n 1, 1) := by decide +kernel
theorem dX1_litresTimesSugar_13 : decode cX1_litresTimesSugar 13 = .ok (.aload_n 0, 1) := by decide +kernel
theorem dX1_litresTimesSugar_14 : decode cX1_litresTimesSugar 14 = .ok (.getfield 11, 3) := by decide +kernel
theorem dX1_litresTimesSugar_17 : decode cX1_litresTimesSugar 17 = .ok (.iload_n 3, 1) := by decide +kernel
theorem dX1_litresTimesSugar_18 : decode cX1_litresTimesSugar 18 = .ok (.aaload, 1) := by decide +kernel
theorem dX1_litresTimesSugar_19 : decode cX1_litresTimesSugar 19 = .ok (.getfield 49, 3) := by decide +kernel
theorem dX1_litresTimesSugar_22 : decode cX1_litresTimesSugar 22 = .ok (.aload_n 0, 1) := by decide +kernel
theorem dX1_litresTimesSugar_23 : decode cX1_litresTimesSugar 23 = .ok (.getfield 11, 3) := by decide +kernel
theorem dX1_litresTimesSugar_26 : decode cX1_litresTimesSugar 26 = .ok (.iload_n 3, 1) := by decide +kernel
theorem dX1_litresTimesSugar_27 : decode cX1_litresTimesSugar 27 = .ok (.aaload, 1) := by decide +kernel
theorem dX1_litresTimesSugar_28 : decode cX1_litresTimesSugar 28 = .ok (.getfield 72, 3) := by decide +kernel
theorem dX1_litresTimesSugar_31 : decode cX1_litresTimesSugar 31 = .ok (.dmul, 1) := by decide +kernel
theorem dX1_litresTimesSugar_32 : decode cX1_litresTimesSugar 32 = .ok (.dadd, 1) := by decide +kernel
theorem dX1_litresTimesSugar_33 : decode cX1_litresTimesSugar 33 = .ok (.dstore_n 1, 1) := by decide +kernel
theorem dX1_litresTimesSugar_34 : decode cX1_litresTimesSugar 34 = .ok (.iinc 3 1, 3) := by decide +kernel
theorem dX1_litresTimesSugar_37 : decode cX1_litresTimesSugar 37 = .ok (.goto (-33), 3) := by decide +kernel
theorem dX1_litresTimesSugar_40 : decode cX1_litresTimesSugar 40 = .ok (.dload_n 1, 1) := by decide +kernel
theorem dX1_litresTimesSugar_41 : decode cX1_litresTimesSugar 41 = .ok (.dreturn, 1) := by decide +kernel
set_option maxRecDepth 20000 in
theorem ggX2_init_X1_init : GoodIn wsX2_init wsX1_init := goodIn_r _ [14, 15, 2, 3, 16, 17, 18, 19, 20, 21, 22, 23, 24, 25, 26, 27, 28, 29, 30, 31, 36, 37, 38, 39, 40, 41] (by decide +kernel) (by decide +kernel)
set_option maxRecDepth 20000 in
theorem gX2_init_X1_init : GoodIn wsX2_init (wsX1_init) := ggX2_init_X1_init
theorem dX2_init_0 : decode cX2_init 0 = .ok (.aload_n 0, 1) := by decide +kernel
theorem dX2_init_1 : decode cX2_init 1 = .ok (.invokespecial 1, 3) := by decide +kernel
theorem dX2_init_4 : decode cX2_init 4 = .ok (.aload_n 0, 1) := by decide +kernel
theorem dX2_init_5 : decode cX2_init 5 = .ok (.new 7, 3) := by decide +kernel
theorem dX2_init_8 : decode cX2_init 8 = .ok (.dup, 1) := by decide +kernel
theorem dX2_init_9 : decode cX2_init 9 = .ok (.invokespecial 9, 3) := by decide +kernel
theorem dX2_init_12 : decode cX2_init 12 = .ok (.putfield 10, 3) := by decide +kernel
theorem dX2_init_15 : decode cX2_init 15 = .ok (.aload_n 0, 1) := by decide +kernel
theorem dX2_init_16 : decode cX2_init 16 = .ok (.new 7, 3) := by decide +kernel
theorem dX2_init_19 : decode cX2_init 19 = .ok (.dup, 1) := by decide +kernel
theorem dX2_init_20 : decode cX2_init 20 = .ok (.invokespecial 9, 3) := by decide +kernel
theorem dX2_init_23 : decode cX2_init 23 = .ok (.putfield 16, 3) := by decide +kernel
theorem dX2_init_26 : decode cX2_init 26 = .ok (.aload_n 0, 1) := by decide +kernel
theorem dX2_init_27 : decode cX2_init 27 = .ok (.iconst 3, 1) := by decide +kernel
theorem dX2_init_28 : decode cX2_init 28 = .ok (.newarray .int, 2) := by decide +kernel
theorem dX2_init_30 : decode cX2_init 30 = .ok (.putfield 19, 3) := by decide +kernel
theorem dX2_init_33 : decode cX2_init 33 = .ok (.aload_n 0, 1) := by decide +kernel
theorem dX2_init_34 : decode cX2_init 34 = .ok (.iconst 0, 1) := by decide +kernel
theorem dX2_init_35 : decode cX2_init 35 = .ok (.putfield 23, 3) := by decide +kernel
theorem dX2_init_38 : decode cX2_init 38 = .ok (.return_, 1) := by decide +kernel
set_option maxRecDepth 20000 in
theorem ggX2_add_X1_largestNext : GoodIn wsX2_add wsX1_largestNext := goodIn_r _ [10, 11, 12, 13, 37, 38, 39, 40, 41, 42, 43, 44, 45, 46, 47] (by decide +kernel) (by decide +kernel)
set_option maxRecDepth 20000 in
theorem gX2_add_X1_largestNext : GoodIn wsX2_add (wsV RX2 34 RX1 yX1_largestNext wsX1_largestNext) := goodIn_app (goodIn_of _ (by decide +kernel)) ggX2_add_X1_largestNext
set_option maxRecDepth 20000 in
theorem ggX2_add_X1_isComplete : GoodIn wsX2_add wsX1_isComplete := goodIn_r _ [17, 11, 12, 37, 38, 39, 40, 41] (by decide +kernel) (by decide +kernel)
set_option maxRecDepth 20000 in
theorem gX2_add_X1_isComplete : GoodIn wsX2_add (wsV RX2 40 RX1 yX1_isComplete wsX1_isComplete) := goodIn_app (goodIn_of _ (by decide +kernel)) ggX2_add_X1_isComplete
set_option maxRecDepth 20000 in
theorem ggX2_add_X1_putBehind : GoodIn wsX2_add wsX1_putBehind := goodIn_r _ [21, 12, 11, 22, 13, 23, 15, 16, 9, 17, 24, 25, 26, 27, 28, 29, 30, 31, 32, 37, 38, 39, 40, 41, 42, 43, 44, 45, 46, 47] (by decide +kernel) (by decide +kernel)
set_option maxRecDepth 20000 in
theorem gX2_add_X1_putBehind : GoodIn wsX2_add (wsV RX2 49 RX1 yX1_putBehind wsX1_putBehind) := goodIn_app (goodIn_of _ (by decide +kernel)) ggX2_add_X1_putBehind
theorem dX2_add_0 : decode cX2_add 0 = .ok (.iload_n 1, 1) := by decide +kernel
theorem dX2_add_1 : decode cX2_add 1 = .ok (.ifCond .lt 8, 3) := by decide +kernel
theorem dX2_add_4 : decode cX2_add 4 = .ok (.iload_n 1, 1) := by decide +kernel
theorem dX2_add_5 : decode cX2_add 5 = .ok (.iconst 4, 1) := by decide +kernel
theorem dX2_add_6 : decode cX2_add 6 = .ok (.if_icmp .lt 13, 3) := by decide +kernel
theorem dX2_add_9 : decode cX2_add 9 = .ok (.new 27, 3) := by decide +kernel
theorem dX2_add_12 : decode cX2_add 12 = .ok (.dup, 1) := by decide +kernel
theorem dX2_add_13 : decode cX2_add 13 = .ok (.ldc 29, 2) := by decide +kernel
theorem dX2_add_15 : decode cX2_add 15 = .ok (.invokespecial 31, 3) := by decide +kernel
theorem dX2_add_18 : decode cX2_add 18 = .ok (.athrow, 1) := by decide +kernel
theorem dX2_add_19 : decode cX2_add 19 = .ok (.iload_n 2, 1) := by decide +kernel
theorem dX2_add_20 : decode cX2_add 20 = .ok (.bipush 10, 2) := by decide +kernel
theorem dX2_add_22 : decode cX2_add 22 = .ok (.if_icmp .lt 14, 3) := by decide +kernel
theorem dX2_add_25 : decode cX2_add 25 = .ok (.iload_n 2, 1) := by decide +kernel
theorem dX2_add_26 : decode cX2_add 26 = .ok (.aload_n 0, 1) := by decide +kernel
theorem dX2_add_27 : decode cX2_add 27 = .ok (.getfield 10, 3) := by decide +kernel
theorem dX2_add_30 : decode cX2_add 30 = .ok (.invokevirtual 34, 3) := by decide +kernel
theorem dX2_add_33 : decode cX2_add 33 = .ok (.if_icmp .le 13, 3) := by decide +kernel
theorem dX2_add_36 : decode cX2_add 36 = .ok (.new 27, 3) := by decide +kernel
theorem dX2_add_39 : decode cX2_add 39 = .ok (.dup, 1) := by decide +kernel
theorem dX2_add_40 : decode cX2_add 40 = .ok (.ldc 38, 2) := by decide +kernel
theorem dX2_add_42 : decode cX2_add 42 = .ok (.invokespecial 31, 3) := by decide +kernel
theorem dX2_add_45 : decode cX2_add 45 = .ok (.athrow, 1) := by decide +kernel
theorem dX2_add_46 : decode cX2_add 46 = .ok (.aload_n 0, 1) := by decide +kernel
theorem dX2_add_47 : decode cX2_add 47 = .ok (.getfield 10, 3) := by decide +kernel
theorem dX2_add_50 : decode cX2_add 50 = .ok (.invokevirtual 40, 3) := by decide +kernel
theorem dX2_add_53 : decode cX2_add 53 = .ok (.ifCond .eq 13, 3) := by decide +kernel
theorem dX2_add_56 : decode cX2_add 56 = .ok (.new 44, 3) := by decide +kernel
theorem dX2_add_59 : decode cX2_add 59 = .ok (.dup, 1) := by decide +kernel
theorem dX2_add_60 : decode cX2_add 60 = .ok (.ldc 46, 2) := by decide +kernel
theorem dX2_add_62 : decode cX2_add 62 = .ok (.invokespecial 48, 3) := by decide +kernel
theorem dX2_add_65 : decode cX2_add 65 = .ok (.athrow, 1) := by decide +kernel
theorem dX2_add_66 : decode cX2_add 66 = .ok (.aload_n 0, 1) := by decide +kernel
theorem dX2_add_67 : decode cX2_add 67 = .ok (.getfield 10, 3) := by decide +kernel
theorem dX2_add_70 : decode cX2_add 70 = .ok (.iload_n 1, 1) := by decide +kernel
theorem dX2_add_71 : decode cX2_add 71 = .ok (.iload_n 2, 1) := by decide +kernel
theorem dX2_add_72 : decode cX2_add 72 = .ok (.invokevirtual 49, 3) := by decide +kernel
theorem dX2_add_75 : decode cX2_add 75 = .ok (.ireturn, 1) := by decide +kernel
set_option maxRecDepth 20000 in
theorem ggX2_fill_X1_pourMust : GoodIn wsX2_fill wsX1_pourMust := goodIn_r _ [8, 9, 10, 11, 12, 13, 14, 15, 16, 17, 18, 19, 20, 21, 22, 23, 24, 25, 30, 31, 32, 33, 34, 35, 36, 37, 38, 39, 40] (by decide +kernel) (by decide +kernel)
set_option maxRecDepth 20000 in
theorem gX2_fill_X1_pourMust : GoodIn wsX2_fill (wsV RX2 55 RX1 yX1_pourMust wsX1_pourMust) := goodIn_app (goodIn_of _ (by decide +kernel)) ggX2_fill_X1_pourMust
theorem dX2_fill_0 : decode cX2_fill 0 = .ok (.iload_n 1, 1) := by decide +kernel
theorem dX2_fill_1 : decode cX2_fill 1 = .ok (.iconst 1, 1) := by decide +kernel
theorem dX2_fill_2 : decode cX2_fill 2 = .ok (.if_icmp .lt 9, 3) := by decide +kernel
theorem dX2_fill_5 : decode cX2_fill 5 = .ok (.iload_n 1, 1) := by decide +kernel
theorem dX2_fill_6 : decode cX2_fill 6 = .ok (.bipush 100, 2) := by decide +kernel
theorem dX2_fill_8 : decode cX2_fill 8 = .ok (.if_icmp .le 13, 3) := by decide +kernel
theorem dX2_fill_11 : decode cX2_fill 11 = .ok (.new 27, 3) := by decide +kernel
theorem dX2_fill_14 : decode cX2_fill 14 = .ok (.dup, 1) := by decide +kernel
theorem dX2_fill_15 : decode cX2_fill 15 = .ok (.ldc 53, 2) := by decide +kernel
theorem dX2_fill_17 : decode cX2_fill 17 = .ok (.invokespecial 31, 3) := by decide +kernel
theorem dX2_fill_20 : decode cX2_fill 20 = .ok (.athrow, 1) := by decide +kernel
theorem dX2_fill_21 : decode cX2_fill 21 = .ok (.aload_n 0, 1) := by decide +kernel
theorem dX2_fill_22 : decode cX2_fill 22 = .ok (.getfield 10, 3) := by decide +kernel
theorem dX2_fill_25 : decode cX2_fill 25 = .ok (.iload_n 1, 1) := by decide +kernel
theorem dX2_fill_26 : decode cX2_fill 26 = .ok (.invokevirtual 55, 3) := by decide +kernel
theorem dX2_fill_29 : decode cX2_fill 29 = .ok (.dreturn, 1) := by decide +kernel
set_option maxRecDepth 20000 in
theorem ggX2_topUp_X1_passDown : GoodIn wsX2_topUp wsX1_passDown := goodIn_r _ [6, 7, 8, 9, 10, 5, 11, 12, 13, 14, 15, 16, 17, 18, 19, 20, 21, 22, 23, 24, 25, 26, 27, 28, 29, 30, 31, 32, 33, 34, 35, 36, 37, 38, 43, 44, 45, 46, 47, 48, 49, 50, 51, 52, 53] (by decide +kernel) (by decide +kernel)
set_option maxRecDepth 20000 in
theorem gX2_topUp_X1_passDown : GoodIn wsX2_topUp (wsV RX2 59 RX1 yX1_passDown wsX1_passDown) := goodIn_app (goodIn_of _ (by decide +kernel)) ggX2_topUp_X1_passDown
theorem dX2_topUp_0 : decode cX2_topUp 0 = .ok (.aload_n 0, 1) := by decide +kernel
theorem dX2_topUp_1 : decode cX2_topUp 1 = .ok (.getfield 10, 3) := by decide +kernel
theorem dX2_topUp_4 : decode cX2_topUp 4 = .ok (.invokevirtual 59, 3) := by decide +kernel
theorem dX2_topUp_7 : decode cX2_topUp 7 = .ok (.dreturn, 1) := by decide +kernel
set_option maxRecDepth 20000 in
theorem ggX2_year_X1_ageAll : GoodIn wsX2_year wsX1_ageAll := goodIn_r _ [7, 8, 9, 10, 11, 12, 13, 14, 15, 16, 6, 17, 18, 19, 20, 21, 22, 23, 24, 25, 26, 27, 28, 29, 30, 31, 32, 33, 34, 35, 36, 37, 38, 39, 40, 41, 42, 43, 44, 45, 46, 47, 48, 49, 50, 51, 52, 53, 54, 55, 56, 57, 58, 59, 60, 61, 62, 63, 64, 65, 66, 71, 72, 73, 74, 75, 76, 77, 78, 79, 80, 81] (by decide +kernel) (by decide +kernel)
set_option maxRecDepth 20000 in
theorem gX2_year_X1_ageAll : GoodIn wsX2_year (wsV RX2 63 RX1 yX1_ageAll wsX1_ageAll) := goodIn_app (goodIn_of _ (by decide +kernel)) ggX2_year_X1_ageAll
theorem dX2_year_0 : decode cX2_year 0 = .ok (.aload_n 0, 1) := by decide +kernel
theorem dX2_year_1 : decode cX2_year 1 = .ok (.dup, 1) := by decide +kernel
theorem dX2_year_2 : decode cX2_year 2 = .ok (.getfield 23, 3) := by decide +kernel
theorem dX2_year_5 : decode cX2_year 5 = .ok (.iconst 1, 1) := by decide +kernel
theorem dX2_year_6 : decode cX2_year 6 = .ok (.iadd, 1) := by decide +kernel
theorem dX2_year_7 : decode cX2_year 7 = .ok (.putfield 23, 3) := by decide +kernel
theorem dX2_year_10 : decode cX2_year 10 = .ok (.aload_n 0, 1) := by decide +kernel
theorem dX2_year_11 : decode cX2_year 11 = .ok (.getfield 10, 3) := by decide +kernel
theorem dX2_year_14 : decode cX2_year 14 = .ok (.invokevirtual 63, 3) := by decide +kernel
theorem dX2_year_17 : decode cX2_year 17 = .ok (.dreturn, 1) := by decide +kernel
set_option maxRecDepth 20000 in
theorem ggX2_draw_X1_bottlesReady : GoodIn wsX2_draw wsX1_bottlesReady := goodIn_r _ [9, 10, 11, 12, 13, 14, 15, 16, 17, 18, 19, 20, 21, 8, 22, 23, 24, 25, 26, 27, 28, 29, 59, 60, 61, 62, 63, 64, 65, 66, 67, 68, 69] (by decide +kernel) (by decide +kernel)
set_option maxRecDepth 20000 in
theorem gX2_draw_X1_bottlesReady : GoodIn wsX2_draw (wsV RX2 68 RX1 yX1_bottlesReady wsX1_bottlesReady) := goodIn_app (goodIn_of _ (by decide +kernel)) ggX2_draw_X1_bottlesReady
set_option maxRecDepth 20000 in
theorem ggX2_draw_X1_greatestAge : GoodIn wsX2_draw wsX1_greatestAge := goodIn_r _ [33, 11, 12, 19, 20, 21, 8, 22, 23, 24, 25, 26, 27, 28, 29, 59, 60, 61, 62, 63, 64, 65, 66, 67, 68, 69] (by decide +kernel) (by decide +kernel)
set_option maxRecDepth 20000 in
theorem gX2_draw_X1_greatestAge : GoodIn wsX2_draw (wsV RX2 71 RX1 yX1_greatestAge wsX1_greatestAge) := goodIn_app (goodIn_of _ (by decide +kernel)) ggX2_draw_X1_greatestAge
set_option maxRecDepth 20000 in
theorem ggX2_draw_X2_kindAt : GoodIn wsX2_draw wsX2_kindAt := goodIn_r _ [37, 38, 39] (by decide +kernel) (by decide +kernel)
set_option maxRecDepth 20000 in
theorem gX2_draw_X2_kindAt : GoodIn wsX2_draw (va_wsS RX2 74 yX2_kindAt wsX2_kindAt) := goodIn_app (goodIn_of _ (by decide +kernel)) ggX2_draw_X2_kindAt
set_option maxRecDepth 20000 in
theorem ggX2_draw_X1_takeBottles : GoodIn wsX2_draw wsX1_takeBottles := goodIn_r _ [43, 10, 18, 16, 11, 44, 45, 46, 27, 47, 29, 48, 49, 50, 51, 52, 53, 54, 59, 60, 61, 62, 63, 64, 65, 66, 67, 68, 69] (by decide +kernel) (by decide +kernel)
set_option maxRecDepth 20000 in
theorem gX2_draw_X1_takeBottles : GoodIn wsX2_draw (wsV RX2 78 RX1 yX1_takeBottles wsX1_takeBottles) := goodIn_app (goodIn_of _ (by decide +kernel)) ggX2_draw_X1_takeBottles
theorem dX2_draw_0 : decode cX2_draw 0 = .ok (.iload_n 1, 1) := by decide +kernel
theorem dX2_draw_1 : decode cX2_draw 1 = .ok (.iconst 1, 1) := by decide +kernel
theorem dX2_draw_2 : decode cX2_draw 2 = .ok (.if_icmp .lt 10, 3) := by decide +kernel
theorem dX2_draw_5 : decode cX2_draw 5 = .ok (.iload_n 1, 1) := by decide +kernel
theorem dX2_draw_6 : decode cX2_draw 6 = .ok (.sipush 1000, 3) := by decide +kernel
theorem dX2_draw_9 : decode cX2_draw 9 = .ok (.if_icmp .le 13, 3) := by decide +kernel
theorem dX2_draw_12 : decode cX2_draw 12 = .ok (.new 27, 3) := by decide +kernel
theorem dX2_draw_15 : decode cX2_draw 15 = .ok (.dup, 1) := by decide +kernel
theorem dX2_draw_16 : decode cX2_draw 16 = .ok (.ldc 66, 2) := by decide +kernel
theorem dX2_draw_18 : decode cX2_draw 18 = .ok (.invokespecial 31, 3) := by decide +kernel
theorem dX2_draw_21 : decode cX2_draw 21 = .ok (.athrow, 1) := by decide +kernel
theorem dX2_draw_22 : decode cX2_draw 22 = .ok (.aload_n 0, 1) := by decide +kernel
theorem dX2_draw_23 : decode cX2_draw 23 = .ok (.getfield 10, 3) := by decide +kernel
theorem dX2_draw_26 : decode cX2_draw 26 = .ok (.invokevirtual 68, 3) := by decide +kernel
theorem dX2_draw_29 : decode cX2_draw 29 = .ok (.istore_n 2, 1) := by decide +kernel
theorem dX2_draw_30 : decode cX2_draw 30 = .ok (.iload_n 1, 1) := by decide +kernel
theorem dX2_draw_31 : decode cX2_draw 31 = .ok (.iload_n 2, 1) := by decide +kernel
theorem dX2_draw_32 : decode cX2_draw 32 = .ok (.if_icmp .ge 7, 3) := by decide +kernel
theorem dX2_draw_35 : decode cX2_draw 35 = .ok (.iload_n 1, 1) := by decide +kernel
theorem dX2_draw_36 : decode cX2_draw 36 = .ok (.goto 4, 3) := by decide +kernel
theorem dX2_draw_39 : decode cX2_draw 39 = .ok (.iload_n 2, 1) := by decide +kernel
theorem dX2_draw_40 : decode cX2_draw 40 = .ok (.istore_n 3, 1) := by decide +kernel
theorem dX2_draw_41 : decode cX2_draw 41 = .ok (.iload_n 3, 1) := by decide +kernel
theorem dX2_draw_42 : decode cX2_draw 42 = .ok (.ifCond .le 30, 3) := by decide +kernel
theorem dX2_draw_45 : decode cX2_draw 45 = .ok (.aload_n 0, 1) := by decide +kernel
theorem dX2_draw_46 : decode cX2_draw 46 = .ok (.getfield 19, 3) := by decide +kernel
theorem dX2_draw_49 : decode cX2_draw 49 = .ok (.aload_n 0, 1) := by decide +kernel
theorem dX2_draw_50 : decode cX2_draw 50 = .ok (.getfield 10, 3) := by decide +kernel
theorem dX2_draw_53 : decode cX2_draw 53 = .ok (.invokevirtual 71, 3) := by decide +kernel
theorem dX2_draw_56 : decode cX2_draw 56 = .ok (.invokestatic 74, 3) := by decide +kernel
theorem dX2_draw_59 : decode cX2_draw 59 = .ok (.dup2, 1) := by decide +kernel
theorem dX2_draw_60 : decode cX2_draw 60 = .ok (.iaload, 1) := by decide +kernel
theorem dX2_draw_61 : decode cX2_draw 61 = .ok (.iload_n 3, 1) := by decide +kernel
theorem dX2_draw_62 : decode cX2_draw 62 = .ok (.iadd, 1) := by decide +kernel
theorem dX2_draw_63 : decode cX2_draw 63 = .ok (.iastore, 1) := by decide +kernel
theorem dX2_draw_64 : decode cX2_draw 64 = .ok (.aload_n 0, 1) := by decide +kernel
theorem dX2_draw_65 : decode cX2_draw 65 = .ok (.getfield 10, 3) := by decide +kernel
theorem dX2_draw_68 : decode cX2_draw 68 = .ok (.iload_n 3, 1) := by decide +kernel
theorem dX2_draw_69 : decode cX2_draw 69 = .ok (.invokevirtual 78, 3) := by decide +kernel
theorem dX2_draw_72 : decode cX2_draw 72 = .ok (.iload_n 3, 1) := by decide +kernel
theorem dX2_draw_73 : decode cX2_draw 73 = .ok (.ireturn, 1) := by decide +kernel
set_option maxRecDepth 20000 in
theorem ggX2_pourAway_X2_barrelNumbered : GoodIn wsX2_pourAway wsX2_barrelNumbered := goodIn_ca (goodIn_r _ [6, 7, 8, 9, 10, 11, 27, 28, 29, 30, 31, 32, 33, 34, 35] (by decide +kernel) (by decide +kernel)) (goodIn_sub (fun _ h => List.mem_cons_of_mem _ (List.mem_append_right _ h)) (by decide +kernel))
set_option maxRecDepth 20000 in
theorem gX2_pourAway_X2_barrelNumbered : GoodIn wsX2_pourAway (wsV RX2 82 RX2 yX2_barrelNumbered wsX2_barrelNumbered) := goodIn_app (goodIn_of _ (by decide +kernel)) ggX2_pourAway_X2_barrelNumbered
set_option maxRecDepth 20000 in
theorem ggX2_pourAway_X0_clear : GoodIn wsX2_pourAway wsX0_clear := goodIn_r _ [16, 17, 18, 19, 20, 21, 22, 23, 24, 25, 26] (by decide +kernel) (by decide +kernel)
set_option maxRecDepth 20000 in
theorem gX2_pourAway_X0_clear : GoodIn wsX2_pourAway (wsV RX2 92 RX0 yX0_clear wsX0_clear) := goodIn_app (goodIn_of _ (by decide +kernel)) ggX2_pourAway_X0_clear
theorem dX2_pourAway_0 : decode cX2_pourAway 0 = .ok (.aload_n 0, 1) := by decide +kernel
theorem dX2_pourAway_1 : decode cX2_pourAway 1 = .ok (.iload_n 1, 1) := by decide +kernel
theorem dX2_pourAway_2 : decode cX2_pourAway 2 = .ok (.invokevirtual 82, 3) := by decide +kernel
theorem dX2_pourAway_5 : decode cX2_pourAway 5 = .ok (.astore_n 2, 1) := by decide +kernel
theorem dX2_pourAway_6 : decode cX2_pourAway 6 = .ok (.aload_n 2, 1) := by decide +kernel
theorem dX2_pourAway_7 : decode cX2_pourAway 7 = .ok (.getfield 86, 3) := by decide +kernel
theorem dX2_pourAway_10 : decode cX2_pourAway 10 = .ok (.dstore_n 3, 1) := by decide +kernel
theorem dX2_pourAway_11 : decode cX2_pourAway 11 = .ok (.aload_n 2, 1) := by decide +kernel
theorem dX2_pourAway_12 : decode cX2_pourAway 12 = .ok (.invokevirtual 92, 3) := by decide +kernel
theorem dX2_pourAway_15 : decode cX2_pourAway 15 = .ok (.dload_n 3, 1) := by decide +kernel
theorem dX2_pourAway_16 : decode cX2_pourAway 16 = .ok (.dreturn, 1) := by decide +kernel
theorem dX2_setWarmth_0 : decode cX2_setWarmth 0 = .ok (.iload_n 1, 1) := by decide +kernel
theorem dX2_setWarmth_1 : decode cX2_setWarmth 1 = .ok (.ifCond .lt 9, 3) := by decide +kernel
theorem dX2_setWarmth_4 : decode cX2_setWarmth 4 = .ok (.iload_n 1, 1) := by decide +kernel
theorem dX2_setWarmth_5 : decode cX2_setWarmth 5 = .ok (.bipush 40, 2) := by decide +kernel
theorem dX2_setWarmth_7 : decode cX2_setWarmth 7 = .ok (.if_icmp .le 13, 3) := by decide +kernel
theorem dX2_setWarmth_10 : decode cX2_setWarmth 10 = .ok (.new 27, 3) := by decide +kernel
theorem dX2_setWarmth_13 : decode cX2_setWarmth 13 = .ok (.dup, 1) := by decide +kernel
theorem dX2_setWarmth_14 : decode cX2_setWarmth 14 = .ok (.ldc 95, 2) := by decide +kernel
theorem dX2_setWarmth_16 : decode cX2_setWarmth 16 = .ok (.invokespecial 31, 3) := by decide +kernel
theorem dX2_setWarmth_19 : decode cX2_setWarmth 19 = .ok (.athrow, 1) := by decide +kernel
theorem dX2_setWarmth_20 : decode cX2_setWarmth 20 = .ok (.aload_n 0, 1) := by decide +kernel
theorem dX2_setWarmth_21 : decode cX2_setWarmth 21 = .ok (.getfield 10, 3) := by decide +kernel
theorem dX2_setWarmth_24 : decode cX2_setWarmth 24 = .ok (.iload_n 1, 1) := by decide +kernel
theorem dX2_setWarmth_25 : decode cX2_setWarmth 25 = .ok (.putfield 97, 3) := by decide +kernel
theorem dX2_setWarmth_28 : decode cX2_setWarmth 28 = .ok (.return_, 1) := by decide +kernel
theorem dX2_barrels_0 : decode cX2_barrels 0 = .ok (.aload_n 0, 1) := by decide +kernel
theorem dX2_barrels_1 : decode cX2_barrels 1 = .ok (.getfield 10, 3) := by decide +kernel
theorem dX2_barrels_4 : decode cX2_barrels 4 = .ok (.getfield 100, 3) := by decide +kernel
theorem dX2_barrels_7 : decode cX2_barrels 7 = .ok (.ireturn, 1) := by decide +kernel
set_option maxRecDepth 20000 in
theorem ggX2_litresIn_X2_barrelNumbered : GoodIn wsX2_litresIn wsX2_barrelNumbered := goodIn_ca (goodIn_r _ [6, 7, 8, 9, 10, 11, 18, 19, 20, 21, 22, 23, 24, 25, 26] (by decide +kernel) (by decide +kernel)) (goodIn_sub (fun _ h => List.mem_cons_of_mem _ (List.mem_append_right _ h)) (by decide +kernel))
set_option maxRecDepth 20000 in
theorem gX2_litresIn_X2_barrelNumbered : GoodIn wsX2_litresIn (wsV RX2 82 RX2 yX2_barrelNumbered wsX2_barrelNumbered) := goodIn_app (goodIn_of _ (by decide +kernel)) ggX2_litresIn_X2_barrelNumbered
theorem dX2_litresIn_0 : decode cX2_litresIn 0 = .ok (.aload_n 0, 1) := by decide +kernel
theorem dX2_litresIn_1 : decode cX2_litresIn 1 = .ok (.iload_n 1, 1) := by decide +kernel
theorem dX2_litresIn_2 : decode cX2_litresIn 2 = .ok (.invokevirtual 82, 3) := by decide +kernel
theorem dX2_litresIn_5 : decode cX2_litresIn 5 = .ok (.getfield 86, 3) := by decide +kernel
theorem dX2_litresIn_8 : decode cX2_litresIn 8 = .ok (.dreturn, 1) := by decide +kernel
set_option maxRecDepth 20000 in
theorem ggX2_ageOf_X2_barrelNumbered : GoodIn wsX2_ageOf wsX2_barrelNumbered := goodIn_ca (goodIn_r _ [6, 7, 8, 9, 10, 11, 18, 19, 20, 21, 22, 23, 24, 25, 26] (by decide +kernel) (by decide +kernel)) (goodIn_sub (fun _ h => List.mem_cons_of_mem _ (List.mem_append_right _ h)) (by decide +kernel))
set_option maxRecDepth 20000 in
theorem gX2_ageOf_X2_barrelNumbered : GoodIn wsX2_ageOf (wsV RX2 82 RX2 yX2_barrelNumbered wsX2_barrelNumbered) := goodIn_app (goodIn_of _ (by decide +kernel)) ggX2_ageOf_X2_barrelNumbered
theorem dX2_ageOf_0 : decode cX2_ageOf 0 = .ok (.aload_n 0, 1) := by decide +kernel
theorem dX2_ageOf_1 : decode cX2_ageOf 1 = .ok (.iload_n 1, 1) := by decide +kernel
theorem dX2_ageOf_2 : decode cX2_ageOf 2 = .ok (.invokevirtual 82, 3) := by decide +kernel
theorem dX2_ageOf_5 : decode cX2_ageOf 5 = .ok (.getfield 103, 3) := by decide +kernel
theorem dX2_ageOf_8 : decode cX2_ageOf 8 = .ok (.dreturn, 1) := by decide +kernel
set_option maxRecDepth 20000 in
theorem ggX2_acidOf_X2_barrelNumbered : GoodIn wsX2_acidOf wsX2_barrelNumbered := goodIn_ca (goodIn_r _ [6, 7, 8, 9, 10, 11, 18, 19, 20, 21, 22, 23, 24, 25, 26] (by decide +kernel) (by decide +kernel)) (goodIn_sub (fun _ h => List.mem_cons_of_mem _ (List.mem_append_right _ h)) (by decide +kernel))
set_option maxRecDepth 20000 in
theorem gX2_acidOf_X2_barrelNumbered : GoodIn wsX2_acidOf (wsV RX2 82 RX2 yX2_barrelNumbered wsX2_barrelNumbered) := goodIn_app (goodIn_of _ (by decide +kernel)) ggX2_acidOf_X2_barrelNumbered
theorem dX2_acidOf_0 : decode cX2_acidOf 0 = .ok (.aload_n 0, 1) := by decide +kernel
theorem dX2_acidOf_1 : decode cX2_acidOf 1 = .ok (.iload_n 1, 1) := by decide +kernel
theorem dX2_acidOf_2 : decode cX2_acidOf 2 = .ok (.invokevirtual 82, 3) := by decide +kernel
theorem dX2_acidOf_5 : decode cX2_acidOf 5 = .ok (.getfield 106, 3) := by decide +kernel
theorem dX2_acidOf_8 : decode cX2_acidOf 8 = .ok (.dreturn, 1) := by decide +kernel
set_option maxRecDepth 20000 in
theorem ggX2_sugarOf_X2_barrelNumbered : GoodIn wsX2_sugarOf wsX2_barrelNumbered := goodIn_ca (goodIn_r _ [6, 7, 8, 9, 10, 11, 18, 19, 20, 21, 22, 23, 24, 25, 26] (by decide +kernel) (by decide +kernel)) (goodIn_sub (fun _ h => List.mem_cons_of_mem _ (List.mem_append_right _ h)) (by decide +kernel))
set_option maxRecDepth 20000 in
theorem gX2_sugarOf_X2_barrelNumbered : GoodIn wsX2_sugarOf (wsV RX2 82 RX2 yX2_barrelNumbered wsX2_barrelNumbered) := goodIn_app (goodIn_of _ (by decide +kernel)) ggX2_sugarOf_X2_barrelNumbered
theorem dX2_sugarOf_0 : decode cX2_sugarOf 0 = .ok (.aload_n 0, 1) := by decide +kernel
theorem dX2_sugarOf_1 : decode cX2_sugarOf 1 = .ok (.iload_n 1, 1) := by decide +kernel
theorem dX2_sugarOf_2 : decode cX2_sugarOf 2 = .ok (.invokevirtual 82, 3) := by decide +kernel
theorem dX2_sugarOf_5 : decode cX2_sugarOf 5 = .ok (.getfield 109, 3) := by decide +kernel
theorem dX2_sugarOf_8 : decode cX2_sugarOf 8 = .ok (.dreturn, 1) := by decide +kernel
set_option maxRecDepth 20000 in
theorem ggX2_tasteOf_X2_barrelNumbered : GoodIn wsX2_tasteOf wsX2_barrelNumbered := goodIn_ca (goodIn_r _ [5, 6, 7, 8, 9, 10, 28, 29, 30, 31, 32, 33, 34, 35, 36] (by decide +kernel) (by decide +kernel)) (goodIn_sub (fun _ h => List.mem_cons_of_mem _ (List.mem_append_right _ h)) (by decide +kernel))
set_option maxRecDepth 20000 in
theorem gX2_tasteOf_X2_barrelNumbered : GoodIn wsX2_tasteOf (wsV RX2 82 RX2 yX2_barrelNumbered wsX2_barrelNumbered) := goodIn_app (goodIn_of _ (by decide +kernel)) ggX2_tasteOf_X2_barrelNumbered
set_option maxRecDepth 20000 in
theorem ggX2_tasteOf_X0_taste : GoodIn wsX2_tasteOf wsX0_taste := goodIn_r _ [15, 16, 17, 18, 19, 20, 21, 22, 23, 24, 25, 14, 26, 27, 37, 38, 39, 40, 41, 42] (by decide +kernel) (by decide +kernel)
set_option maxRecDepth 20000 in
theorem gX2_tasteOf_X0_taste : GoodIn wsX2_tasteOf (wsV RX2 112 RX0 yX0_taste wsX0_taste) := goodIn_app (goodIn_of _ (by decide +kernel)) ggX2_tasteOf_X0_taste
theorem dX2_tasteOf_0 : decode cX2_tasteOf 0 = .ok (.aload_n 0, 1) := by decide +kernel
theorem dX2_tasteOf_1 : decode cX2_tasteOf 1 = .ok (.iload_n 1, 1) := by decide +kernel
theorem dX2_tasteOf_2 : decode cX2_tasteOf 2 = .ok (.invokevirtual 82, 3) := by decide +kernel
theorem dX2_tasteOf_5 : decode cX2_tasteOf 5 = .ok (.invokevirtual 112, 3) := by decide +kernel
theorem dX2_tasteOf_8 : decode cX2_tasteOf 8 = .ok (.dreturn, 1) := by decide +kernel
set_option maxRecDepth 20000 in
theorem ggX2_oldest_X1_eldest : GoodIn wsX2_oldest wsX1_eldest := goodIn_r _ [6, 7, 8, 9, 10, 11, 12, 13, 14, 15, 20, 21, 22, 23, 24, 25, 26, 27, 28, 29, 30] (by decide +kernel) (by decide +kernel)
set_option maxRecDepth 20000 in
theorem gX2_oldest_X1_eldest : GoodIn wsX2_oldest (wsV RX2 115 RX1 yX1_eldest wsX1_eldest) := goodIn_app (goodIn_of _ (by decide +kernel)) ggX2_oldest_X1_eldest
theorem dX2_oldest_0 : decode cX2_oldest 0 = .ok (.aload_n 0, 1) := by decide +kernel
theorem dX2_oldest_1 : decode cX2_oldest 1 = .ok (.getfield 10, 3) := by decide +kernel
theorem dX2_oldest_4 : decode cX2_oldest 4 = .ok (.invokevirtual 115, 3) := by decide +kernel
theorem dX2_oldest_7 : decode cX2_oldest 7 = .ok (.ireturn, 1) := by decide +kernel
set_option maxRecDepth 20000 in
theorem ggX2_drawable_X1_bottlesReady : GoodIn wsX2_drawable wsX1_bottlesReady := goodIn_r _ [6, 7, 8, 9, 10, 11, 12, 13, 14, 15, 16, 17, 18, 5, 19, 20, 21, 22, 23, 24, 25, 26, 31, 32, 33, 34, 35, 36, 37, 38, 39, 40, 41] (by decide +kernel) (by decide +kernel)
set_option maxRecDepth 20000 in
theorem gX2_drawable_X1_bottlesReady : GoodIn wsX2_drawable (wsV RX2 68 RX1 yX1_bottlesReady wsX1_bottlesReady) := goodIn_app (goodIn_of _ (by decide +kernel)) ggX2_drawable_X1_bottlesReady
theorem dX2_drawable_0 : decode cX2_drawable 0 = .ok (.aload_n 0, 1) := by decide +kernel
theorem dX2_drawable_1 : decode cX2_drawable 1 = .ok (.getfield 10, 3) := by decide +kernel
theorem dX2_drawable_4 : decode cX2_drawable 4 = .ok (.invokevirtual 68, 3) := by decide +kernel
theorem dX2_drawable_7 : decode cX2_drawable 7 = .ok (.ireturn, 1) := by decide +kernel
theorem dX2_bottles_0 : decode cX2_bottles 0 = .ok (.iload_n 1, 1) := by decide +kernel
theorem dX2_bottles_1 : decode cX2_bottles 1 = .ok (.ifCond .lt 8, 3) := by decide +kernel
theorem dX2_bottles_4 : decode cX2_bottles 4 = .ok (.iload_n 1, 1) := by decide +kernel
theorem dX2_bottles_5 : decode cX2_bottles 5 = .ok (.iconst 3, 1) := by decide +kernel
theorem dX2_bottles_6 : decode cX2_bottles 6 = .ok (.if_icmp .lt 13, 3) := by decide +kernel
theorem dX2_bottles_9 : decode cX2_bottles 9 = .ok (.new 27, 3) := by decide +kernel
theorem dX2_bottles_12 : decode cX2_bottles 12 = .ok (.dup, 1) := by decide +kernel
theorem dX2_bottles_13 : decode cX2_bottles 13 = .ok (.ldc 118, 2) := by decide +kernel
theorem dX2_bottles_15 : decode cX2_bottles 15 = .ok (.invokespecial 31, 3) := by decide +kernel
theorem dX2_bottles_18 : decode cX2_bottles 18 = .ok (.athrow, 1) := by decide +kernel
theorem dX2_bottles_19 : decode cX2_bottles 19 = .ok (.aload_n 0, 1) := by decide +kernel
theorem dX2_bottles_20 : decode cX2_bottles 20 = .ok (.getfield 19, 3) := by decide +kernel
theorem dX2_bottles_23 : decode cX2_bottles 23 = .ok (.iload_n 1, 1) := by decide +kernel
theorem dX2_bottles_24 : decode cX2_bottles 24 = .ok (.iaload, 1) := by decide +kernel
theorem dX2_bottles_25 : decode cX2_bottles 25 = .ok (.ireturn, 1) := by decide +kernel
theorem dX2_years_0 : decode cX2_years 0 = .ok (.aload_n 0, 1) := by decide +kernel
theorem dX2_years_1 : decode cX2_years 1 = .ok (.getfield 23, 3) := by decide +kernel
theorem dX2_years_4 : decode cX2_years 4 = .ok (.ireturn, 1) := by decide +kernel
set_option maxRecDepth 20000 in
theorem ggX2_meanAge_X1_allLitres : GoodIn wsX2_meanAge wsX1_allLitres := goodIn_r _ [6, 7, 8, 9, 19, 20, 21, 22, 23, 24, 25, 26, 27, 28, 29] (by decide +kernel) (by decide +kernel)
set_option maxRecDepth 20000 in
theorem gX2_meanAge_X1_allLitres : GoodIn wsX2_meanAge (wsV RX2 120 RX1 yX1_allLitres wsX1_allLitres) := goodIn_app (goodIn_of _ (by decide +kernel)) ggX2_meanAge_X1_allLitres
set_option maxRecDepth 20000 in
theorem ggX2_meanAge_X1_litresTimesAge : GoodIn wsX2_meanAge wsX1_litresTimesAge := goodIn_r _ [13, 7, 8, 9, 14, 19, 20, 21, 22, 23, 24, 25, 26, 27, 28, 29] (by decide +kernel) (by decide +kernel)
set_option maxRecDepth 20000 in
theorem gX2_meanAge_X1_litresTimesAge : GoodIn wsX2_meanAge (wsV RX2 123 RX1 yX1_litresTimesAge wsX1_litresTimesAge) := goodIn_app (goodIn_of _ (by decide +kernel)) ggX2_meanAge_X1_litresTimesAge
theorem dX2_meanAge_0 : decode cX2_meanAge 0 = .ok (.aload_n 0, 1) := by decide +kernel
theorem dX2_meanAge_1 : decode cX2_meanAge 1 = .ok (.getfield 10, 3) := by decide +kernel
theorem dX2_meanAge_4 : decode cX2_meanAge 4 = .ok (.invokevirtual 120, 3) := by decide +kernel
theorem dX2_meanAge_7 : decode cX2_meanAge 7 = .ok (.dstore_n 1, 1) := by decide +kernel
theorem dX2_meanAge_8 : decode cX2_meanAge 8 = .ok (.dload_n 1, 1) := by decide +kernel
theorem dX2_meanAge_9 : decode cX2_meanAge 9 = .ok (.dconst 0, 1) := by decide +kernel
theorem dX2_meanAge_10 : decode cX2_meanAge 10 = .ok (.dcmp .l, 1) := by decide +kernel
theorem dX2_meanAge_11 : decode cX2_meanAge 11 = .ok (.ifCond .le 15, 3) := by decide +kernel
theorem dX2_meanAge_14 : decode cX2_meanAge 14 = .ok (.aload_n 0, 1) := by decide +kernel
theorem dX2_meanAge_15 : decode cX2_meanAge 15 = .ok (.getfield 10, 3) := by decide +kernel
theorem dX2_meanAge_18 : decode cX2_meanAge 18 = .ok (.invokevirtual 123, 3) := by decide +kernel
theorem dX2_meanAge_21 : decode cX2_meanAge 21 = .ok (.dload_n 1, 1) := by decide +kernel
theorem dX2_meanAge_22 : decode cX2_meanAge 22 = .ok (.ddiv, 1) := by decide +kernel
theorem dX2_meanAge_23 : decode cX2_meanAge 23 = .ok (.goto 4, 3) := by decide +kernel
theorem dX2_meanAge_26 : decode cX2_meanAge 26 = .ok (.dconst 0, 1) := by decide +kernel
theorem dX2_meanAge_27 : decode cX2_meanAge 27 = .ok (.dreturn, 1) := by decide +kernel
set_option maxRecDepth 20000 in
theorem ggX2_meanSugar_X1_allLitres : GoodIn wsX2_meanSugar wsX1_allLitres := goodIn_r _ [6, 7, 8, 9, 19, 20, 21, 22, 23, 24, 25, 26, 27, 28, 29] (by decide +kernel) (by decide +kernel)
set_option maxRecDepth 20000 in
theorem gX2_meanSugar_X1_allLitres : GoodIn wsX2_meanSugar (wsV RX2 120 RX1 yX1_allLitres wsX1_allLitres) := goodIn_app (goodIn_of _ (by decide +kernel)) ggX2_meanSugar_X1_allLitres
set_option maxRecDepth 20000 in
theorem ggX2_meanSugar_X1_litresTimesSugar : GoodIn wsX2_meanSugar wsX1_litresTimesSugar := goodIn_r _ [13, 7, 8, 9, 14, 19, 20, 21, 22, 23, 24, 25, 26, 27, 28, 29] (by decide +kernel) (by decide +kernel)
set_option maxRecDepth 20000 in
theorem gX2_meanSugar_X1_litresTimesSugar : GoodIn wsX2_meanSugar (wsV RX2 126 RX1 yX1_litresTimesSugar wsX1_litresTimesSugar) := goodIn_app (goodIn_of _ (by decide +kernel)) ggX2_meanSugar_X1_litresTimesSugar
theorem dX2_meanSugar_0 : decode cX2_meanSugar 0 = .ok (.aload_n 0, 1) := by decide +kernel
theorem dX2_meanSugar_1 : decode cX2_meanSugar 1 = .ok (.getfield 10, 3) := by decide +kernel
theorem dX2_meanSugar_4 : decode cX2_meanSugar 4 = .ok (.invokevirtual 120, 3) := by decide +kernel
theorem dX2_meanSugar_7 : decode cX2_meanSugar 7 = .ok (.dstore_n 1, 1) := by decide +kernel
theorem dX2_meanSugar_8 : decode cX2_meanSugar 8 = .ok (.dload_n 1, 1) := by decide +kernel
theorem dX2_meanSugar_9 : decode cX2_meanSugar 9 = .ok (.dconst 0, 1) := by decide +kernel
theorem dX2_meanSugar_10 : decode cX2_meanSugar 10 = .ok (.dcmp .l, 1) := by decide +kernel
theorem dX2_meanSugar_11 : decode cX2_meanSugar 11 = .ok (.ifCond .le 15, 3) := by decide +kernel
theorem dX2_meanSugar_14 : decode cX2_meanSugar 14 = .ok (.aload_n 0, 1) := by decide +kernel
theorem dX2_meanSugar_15 : decode cX2_meanSugar 15 = .ok (.getfield 10, 3) := by decide +kernel
theorem dX2_meanSugar_18 : decode cX2_meanSugar 18 = .ok (.invokevirtual 126, 3) := by decide +kernel
theorem dX2_meanSugar_21 : decode cX2_meanSugar 21 = .ok (.dload_n 1, 1) := by decide +kernel
theorem dX2_meanSugar_22 : decode cX2_meanSugar 22 = .ok (.ddiv, 1) := by decide +kernel
theorem dX2_meanSugar_23 : decode cX2_meanSugar 23 = .ok (.goto 4, 3) := by decide +kernel
theorem dX2_meanSugar_26 : decode cX2_meanSugar 26 = .ok (.dconst 0, 1) := by decide +kernel
theorem dX2_meanSugar_27 : decode cX2_meanSugar 27 = .ok (.dreturn, 1) := by decide +kernel
set_option maxRecDepth 20000 in
theorem ggX2_firstBottleIn_X1_bottlesReady : GoodIn wsX2_firstBottleIn wsX1_bottlesReady := goodIn_r _ [7, 8, 9, 10, 11, 12, 13, 14, 15, 16, 17, 18, 19, 6, 20, 21, 22, 23, 24, 25, 26, 27, 112, 113, 114, 115, 116, 117, 118, 119, 120, 121, 122] (by decide +kernel) (by decide +kernel)
set_option maxRecDepth 20000 in
theorem gX2_firstBottleIn_X1_bottlesReady : GoodIn wsX2_firstBottleIn (wsV RX2 68 RX1 yX1_bottlesReady wsX1_bottlesReady) := goodIn_app (goodIn_of _ (by decide +kernel)) ggX2_firstBottleIn_X1_bottlesReady
set_option maxRecDepth 20000 in
theorem ggX2_firstBottleIn_X1_copyFrom : GoodIn wsX2_firstBottleIn wsX1_copyFrom := goodIn_r _ [31, 21, 32, 8, 14, 9, 33, 34, 35, 25, 36, 37, 38, 27, 39, 40, 41, 112, 113, 114, 115, 116, 117, 118, 119, 120, 121, 122] (by decide +kernel) (by decide +kernel)
set_option maxRecDepth 20000 in
theorem gX2_firstBottleIn_X1_copyFrom : GoodIn wsX2_firstBottleIn (wsV RX2 129 RX1 yX1_copyFrom wsX1_copyFrom) := goodIn_app (goodIn_of _ (by decide +kernel)) ggX2_firstBottleIn_X1_copyFrom
set_option maxRecDepth 20000 in
theorem ggX2_firstBottleIn_X1_pourMust : GoodIn wsX2_firstBottleIn wsX1_pourMust := goodIn_r _ [45, 21, 9, 46, 15, 47, 48, 49, 50, 25, 51, 27, 39, 40, 41, 52, 53, 54, 112, 113, 114, 115, 116, 117, 118, 119, 120, 121, 122] (by decide +kernel) (by decide +kernel)
set_option maxRecDepth 20000 in
theorem gX2_firstBottleIn_X1_pourMust : GoodIn wsX2_firstBottleIn (wsV RX2 55 RX1 yX1_pourMust wsX1_pourMust) := goodIn_app (goodIn_of _ (by decide +kernel)) ggX2_firstBottleIn_X1_pourMust
set_option maxRecDepth 20000 in
theorem ggX2_firstBottleIn_X1_passDown : GoodIn wsX2_firstBottleIn wsX1_passDown := goodIn_r _ [58, 21, 9, 59, 60, 6, 61, 62, 46, 15, 63, 10, 64, 12, 48, 49, 50, 25, 51, 27, 39, 40, 41, 52, 53, 54, 65, 66, 67, 68, 69, 70, 71, 72, 112, 113, 114, 115, 116, 117, 118, 119, 120, 121, 122] (by decide +kernel) (by decide +kernel)
set_option maxRecDepth 20000 in
theorem gX2_firstBottleIn_X1_passDown : GoodIn wsX2_firstBottleIn (wsV RX2 59 RX1 yX1_passDown wsX1_passDown) := goodIn_app (goodIn_of _ (by decide +kernel)) ggX2_firstBottleIn_X1_passDown
set_option maxRecDepth 20000 in
theorem ggX2_firstBottleIn_X1_ageAll : GoodIn wsX2_firstBottleIn wsX1_ageAll := goodIn_r _ [76, 21, 9, 8, 77, 15, 14, 78, 79, 80, 6, 81, 82, 32, 83, 22, 23, 24, 25, 26, 27, 84, 85, 86, 87, 37, 41, 88, 39, 89, 90, 91, 92, 93, 94, 95, 96, 66, 67, 68, 69, 70, 71, 72, 40, 97, 98, 99, 100, 101, 102, 103, 104, 105, 106, 107, 17, 18, 19, 20, 10, 112, 113, 114, 115, 116, 117, 118, 119, 120, 121, 122] (by decide +kernel) (by decide +kernel)
set_option maxRecDepth 20000 in
theorem gX2_firstBottleIn_X1_ageAll : GoodIn wsX2_firstBottleIn (wsV RX2 63 RX1 yX1_ageAll wsX1_ageAll) := goodIn_app (goodIn_of _ (by decide +kernel)) ggX2_firstBottleIn_X1_ageAll
