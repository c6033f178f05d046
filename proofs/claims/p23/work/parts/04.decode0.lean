theorem inJ0 : ∀ w ∈ wsJ00, w ∈ lw_tbl := by decide +kernel
theorem dX0_init_0 : decode cX0_init 0 = .ok (.aload_n 0, 1) := by decide +kernel
theorem dX0_init_1 : decode cX0_init 1 = .ok (.invokespecial 1, 3) := by decide +kernel
theorem dX0_init_4 : decode cX0_init 4 = .ok (.return_, 1) := by decide +kernel
theorem dX0_copyFrom_0 : decode cX0_copyFrom 0 = .ok (.aload_n 0, 1) := by decide +kernel
theorem dX0_copyFrom_1 : decode cX0_copyFrom 1 = .ok (.aload_n 1, 1) := by decide +kernel
theorem dX0_copyFrom_2 : decode cX0_copyFrom 2 = .ok (.getfield 7, 3) := by decide +kernel
theorem dX0_copyFrom_5 : decode cX0_copyFrom 5 = .ok (.putfield 7, 3) := by decide +kernel
theorem dX0_copyFrom_8 : decode cX0_copyFrom 8 = .ok (.aload_n 0, 1) := by decide +kernel
theorem dX0_copyFrom_9 : decode cX0_copyFrom 9 = .ok (.aload_n 1, 1) := by decide +kernel
theorem dX0_copyFrom_10 : decode cX0_copyFrom 10 = .ok (.getfield 13, 3) := by decide +kernel
theorem dX0_copyFrom_13 : decode cX0_copyFrom 13 = .ok (.putfield 13, 3) := by decide +kernel
theorem dX0_copyFrom_16 : decode cX0_copyFrom 16 = .ok (.aload_n 0, 1) := by decide +kernel
theorem dX0_copyFrom_17 : decode cX0_copyFrom 17 = .ok (.aload_n 1, 1) := by decide +kernel
theorem dX0_copyFrom_18 : decode cX0_copyFrom 18 = .ok (.getfield 16, 3) := by decide +kernel
theorem dX0_copyFrom_21 : decode cX0_copyFrom 21 = .ok (.putfield 16, 3) := by decide +kernel
theorem dX0_copyFrom_24 : decode cX0_copyFrom 24 = .ok (.aload_n 0, 1) := by decide +kernel
theorem dX0_copyFrom_25 : decode cX0_copyFrom 25 = .ok (.aload_n 1, 1) := by decide +kernel
theorem dX0_copyFrom_26 : decode cX0_copyFrom 26 = .ok (.getfield 20, 3) := by decide +kernel
theorem dX0_copyFrom_29 : decode cX0_copyFrom 29 = .ok (.putfield 20, 3) := by decide +kernel
theorem dX0_copyFrom_32 : decode cX0_copyFrom 32 = .ok (.aload_n 0, 1) := by decide +kernel
theorem dX0_copyFrom_33 : decode cX0_copyFrom 33 = .ok (.aload_n 1, 1) := by decide +kernel
theorem dX0_copyFrom_34 : decode cX0_copyFrom 34 = .ok (.getfield 23, 3) := by decide +kernel
theorem dX0_copyFrom_37 : decode cX0_copyFrom 37 = .ok (.putfield 23, 3) := by decide +kernel
theorem dX0_copyFrom_40 : decode cX0_copyFrom 40 = .ok (.aload_n 0, 1) := by decide +kernel
theorem dX0_copyFrom_41 : decode cX0_copyFrom 41 = .ok (.aload_n 1, 1) := by decide +kernel
theorem dX0_copyFrom_42 : decode cX0_copyFrom 42 = .ok (.getfield 26, 3) := by decide +kernel
theorem dX0_copyFrom_45 : decode cX0_copyFrom 45 = .ok (.putfield 26, 3) := by decide +kernel
theorem dX0_copyFrom_48 : decode cX0_copyFrom 48 = .ok (.return_, 1) := by decide +kernel
theorem dX0_isEmpty_0 : decode cX0_isEmpty 0 = .ok (.aload_n 0, 1) := by decide +kernel
theorem dX0_isEmpty_1 : decode cX0_isEmpty 1 = .ok (.getfield 16, 3) := by decide +kernel
theorem dX0_isEmpty_4 : decode cX0_isEmpty 4 = .ok (.dconst 0, 1) := by decide +kernel
theorem dX0_isEmpty_5 : decode cX0_isEmpty 5 = .ok (.dcmp .g, 1) := by decide +kernel
theorem dX0_isEmpty_6 : decode cX0_isEmpty 6 = .ok (.ifCond .gt 7, 3) := by decide +kernel
theorem dX0_isEmpty_9 : decode cX0_isEmpty 9 = .ok (.iconst 1, 1) := by decide +kernel
theorem dX0_isEmpty_10 : decode cX0_isEmpty 10 = .ok (.goto 4, 3) := by decide +kernel
theorem dX0_isEmpty_13 : decode cX0_isEmpty 13 = .ok (.iconst 0, 1) := by decide +kernel
theorem dX0_isEmpty_14 : decode cX0_isEmpty 14 = .ok (.ireturn, 1) := by decide +kernel
theorem dX0_clear_0 : decode cX0_clear 0 = .ok (.aload_n 0, 1) := by decide +kernel
theorem dX0_clear_1 : decode cX0_clear 1 = .ok (.dconst 0, 1) := by decide +kernel
theorem dX0_clear_2 : decode cX0_clear 2 = .ok (.putfield 16, 3) := by decide +kernel
theorem dX0_clear_5 : decode cX0_clear 5 = .ok (.aload_n 0, 1) := by decide +kernel
theorem dX0_clear_6 : decode cX0_clear 6 = .ok (.dconst 0, 1) := by decide +kernel
theorem dX0_clear_7 : decode cX0_clear 7 = .ok (.putfield 20, 3) := by decide +kernel
theorem dX0_clear_10 : decode cX0_clear 10 = .ok (.aload_n 0, 1) := by decide +kernel
theorem dX0_clear_11 : decode cX0_clear 11 = .ok (.dconst 0, 1) := by decide +kernel
theorem dX0_clear_12 : decode cX0_clear 12 = .ok (.putfield 23, 3) := by decide +kernel
theorem dX0_clear_15 : decode cX0_clear 15 = .ok (.aload_n 0, 1) := by decide +kernel
theorem dX0_clear_16 : decode cX0_clear 16 = .ok (.dconst 0, 1) := by decide +kernel
theorem dX0_clear_17 : decode cX0_clear 17 = .ok (.putfield 26, 3) := by decide +kernel
theorem dX0_clear_20 : decode cX0_clear 20 = .ok (.return_, 1) := by decide +kernel
set_option maxRecDepth 20000 in
theorem ggX0_mixIn_X0_mixed : GoodIn wsX0_mixIn wsX0_mixed := goodIn_r _ [8] (by decide +kernel) (by decide +kernel)
set_option maxRecDepth 20000 in
theorem gX0_mixIn_X0_mixed : GoodIn wsX0_mixIn (va_wsS RX0 29 yX0_mixed wsX0_mixed) := goodIn_app (goodIn_of _ (by decide +kernel)) ggX0_mixIn_X0_mixed
theorem dX0_mixIn_0 : decode cX0_mixIn 0 = .ok (.aload_n 0, 1) := by decide +kernel
theorem dX0_mixIn_1 : decode cX0_mixIn 1 = .ok (.aload_n 0, 1) := by decide +kernel
theorem dX0_mixIn_2 : decode cX0_mixIn 2 = .ok (.getfield 16, 3) := by decide +kernel
theorem dX0_mixIn_5 : decode cX0_mixIn 5 = .ok (.aload_n 0, 1) := by decide +kernel
theorem dX0_mixIn_6 : decode cX0_mixIn 6 = .ok (.getfield 20, 3) := by decide +kernel
theorem dX0_mixIn_9 : decode cX0_mixIn 9 = .ok (.dload_n 1, 1) := by decide +kernel
theorem dX0_mixIn_10 : decode cX0_mixIn 10 = .ok (.dload_n 3, 1) := by decide +kernel
theorem dX0_mixIn_11 : decode cX0_mixIn 11 = .ok (.invokestatic 29, 3) := by decide +kernel
theorem dX0_mixIn_14 : decode cX0_mixIn 14 = .ok (.putfield 20, 3) := by decide +kernel
theorem dX0_mixIn_17 : decode cX0_mixIn 17 = .ok (.aload_n 0, 1) := by decide +kernel
theorem dX0_mixIn_18 : decode cX0_mixIn 18 = .ok (.aload_n 0, 1) := by decide +kernel
theorem dX0_mixIn_19 : decode cX0_mixIn 19 = .ok (.getfield 16, 3) := by decide +kernel
theorem dX0_mixIn_22 : decode cX0_mixIn 22 = .ok (.aload_n 0, 1) := by decide +kernel
theorem dX0_mixIn_23 : decode cX0_mixIn 23 = .ok (.getfield 23, 3) := by decide +kernel
theorem dX0_mixIn_26 : decode cX0_mixIn 26 = .ok (.dload_n 1, 1) := by decide +kernel
theorem dX0_mixIn_27 : decode cX0_mixIn 27 = .ok (.dload 5, 2) := by decide +kernel
theorem dX0_mixIn_29 : decode cX0_mixIn 29 = .ok (.invokestatic 29, 3) := by decide +kernel
theorem dX0_mixIn_32 : decode cX0_mixIn 32 = .ok (.putfield 23, 3) := by decide +kernel
theorem dX0_mixIn_35 : decode cX0_mixIn 35 = .ok (.aload_n 0, 1) := by decide +kernel
theorem dX0_mixIn_36 : decode cX0_mixIn 36 = .ok (.aload_n 0, 1) := by decide +kernel
theorem dX0_mixIn_37 : decode cX0_mixIn 37 = .ok (.getfield 16, 3) := by decide +kernel
theorem dX0_mixIn_40 : decode cX0_mixIn 40 = .ok (.aload_n 0, 1) := by decide +kernel
theorem dX0_mixIn_41 : decode cX0_mixIn 41 = .ok (.getfield 26, 3) := by decide +kernel
theorem dX0_mixIn_44 : decode cX0_mixIn 44 = .ok (.dload_n 1, 1) := by decide +kernel
theorem dX0_mixIn_45 : decode cX0_mixIn 45 = .ok (.dload 7, 2) := by decide +kernel
theorem dX0_mixIn_47 : decode cX0_mixIn 47 = .ok (.invokestatic 29, 3) := by decide +kernel
theorem dX0_mixIn_50 : decode cX0_mixIn 50 = .ok (.putfield 26, 3) := by decide +kernel
theorem dX0_mixIn_53 : decode cX0_mixIn 53 = .ok (.aload_n 0, 1) := by decide +kernel
theorem dX0_mixIn_54 : decode cX0_mixIn 54 = .ok (.aload_n 0, 1) := by decide +kernel
theorem dX0_mixIn_55 : decode cX0_mixIn 55 = .ok (.getfield 16, 3) := by decide +kernel
theorem dX0_mixIn_58 : decode cX0_mixIn 58 = .ok (.dload_n 1, 1) := by decide +kernel
theorem dX0_mixIn_59 : decode cX0_mixIn 59 = .ok (.dadd, 1) := by decide +kernel
theorem dX0_mixIn_60 : decode cX0_mixIn 60 = .ok (.putfield 16, 3) := by decide +kernel
theorem dX0_mixIn_63 : decode cX0_mixIn 63 = .ok (.return_, 1) := by decide +kernel
set_option maxRecDepth 20000 in
theorem ggX0_takeOut_X0_clear : GoodIn wsX0_takeOut wsX0_clear := goodIn_r _ [6, 1, 7, 8, 9, 10, 11, 12, 13, 14, 15] (by decide +kernel) (by decide +kernel)
set_option maxRecDepth 20000 in
theorem gX0_takeOut_X0_clear : GoodIn wsX0_takeOut (wsV RX0 33 RX0 yX0_clear wsX0_clear) := goodIn_app (goodIn_of _ (by decide +kernel)) ggX0_takeOut_X0_clear
theorem dX0_takeOut_0 : decode cX0_takeOut 0 = .ok (.aload_n 0, 1) := by decide +kernel
theorem dX0_takeOut_1 : decode cX0_takeOut 1 = .ok (.aload_n 0, 1) := by decide +kernel
theorem dX0_takeOut_2 : decode cX0_takeOut 2 = .ok (.getfield 16, 3) := by decide +kernel
theorem dX0_takeOut_5 : decode cX0_takeOut 5 = .ok (.dload_n 1, 1) := by decide +kernel
theorem dX0_takeOut_6 : decode cX0_takeOut 6 = .ok (.dsub, 1) := by decide +kernel
theorem dX0_takeOut_7 : decode cX0_takeOut 7 = .ok (.putfield 16, 3) := by decide +kernel
theorem dX0_takeOut_10 : decode cX0_takeOut 10 = .ok (.aload_n 0, 1) := by decide +kernel
theorem dX0_takeOut_11 : decode cX0_takeOut 11 = .ok (.getfield 16, 3) := by decide +kernel
theorem dX0_takeOut_14 : decode cX0_takeOut 14 = .ok (.dconst 0, 1) := by decide +kernel
theorem dX0_takeOut_15 : decode cX0_takeOut 15 = .ok (.dcmp .g, 1) := by decide +kernel
theorem dX0_takeOut_16 : decode cX0_takeOut 16 = .ok (.ifCond .gt 7, 3) := by decide +kernel
theorem dX0_takeOut_19 : decode cX0_takeOut 19 = .ok (.aload_n 0, 1) := by decide +kernel
theorem dX0_takeOut_20 : decode cX0_takeOut 20 = .ok (.invokevirtual 33, 3) := by decide +kernel
theorem dX0_takeOut_23 : decode cX0_takeOut 23 = .ok (.return_, 1) := by decide +kernel
set_option maxRecDepth 20000 in
theorem ggX0_spendYear_X0_share : GoodIn wsX0_spendYear wsX0_share := goodIn_r _ [9, 10, 11, 12, 13] (by decide +kernel) (by decide +kernel)
set_option maxRecDepth 20000 in
theorem gX0_spendYear_X0_share : GoodIn wsX0_spendYear (va_wsS RX0 36 yX0_share wsX0_share) := goodIn_app (goodIn_of _ (by decide +kernel)) ggX0_spendYear_X0_share
set_option maxRecDepth 20000 in
theorem ggX0_spendYear_X0_takeOut : GoodIn wsX0_spendYear wsX0_takeOut := goodIn_r _ [17, 1, 18, 19, 20, 8, 21, 5, 22, 3, 37, 38, 39, 40, 41, 42] (by decide +kernel) (by decide +kernel)
set_option maxRecDepth 20000 in
theorem gX0_spendYear_X0_takeOut : GoodIn wsX0_spendYear (wsV RX0 40 RX0 yX0_takeOut wsX0_takeOut) := goodIn_app (goodIn_of _ (by decide +kernel)) ggX0_spendYear_X0_takeOut
set_option maxRecDepth 20000 in
theorem ggX0_spendYear_X0_isEmpty : GoodIn wsX0_spendYear wsX0_isEmpty := goodIn_r _ [26, 1, 37, 38, 39, 40, 41, 42] (by decide +kernel) (by decide +kernel)
set_option maxRecDepth 20000 in
theorem gX0_spendYear_X0_isEmpty : GoodIn wsX0_spendYear (wsV RX0 44 RX0 yX0_isEmpty wsX0_isEmpty) := goodIn_app (goodIn_of _ (by decide +kernel)) ggX0_spendYear_X0_isEmpty
set_option maxRecDepth 20000 in
theorem ggX0_spendYear_X0_sour : GoodIn wsX0_spendYear wsX0_sour := goodIn_r _ [30, 3, 31, 22, 32, 33, 34, 35, 36, 37, 38, 39, 40, 41, 42] (by decide +kernel) (by decide +kernel)
set_option maxRecDepth 20000 in
theorem gX0_spendYear_X0_sour : GoodIn wsX0_spendYear (wsV RX0 50 RX0 yX0_sour wsX0_sour) := goodIn_app (goodIn_of _ (by decide +kernel)) ggX0_spendYear_X0_sour
theorem dX0_spendYear_0 : decode cX0_spendYear 0 = .ok (.aload_n 0, 1) := by decide +kernel
theorem dX0_spendYear_1 : decode cX0_spendYear 1 = .ok (.getfield 16, 3) := by decide +kernel
theorem dX0_spendYear_4 : decode cX0_spendYear 4 = .ok (.dstore_n 3, 1) := by decide +kernel
theorem dX0_spendYear_5 : decode cX0_spendYear 5 = .ok (.aload_n 0, 1) := by decide +kernel
theorem dX0_spendYear_6 : decode cX0_spendYear 6 = .ok (.getfield 16, 3) := by decide +kernel
theorem dX0_spendYear_9 : decode cX0_spendYear 9 = .ok (.aload_n 0, 1) := by decide +kernel
theorem dX0_spendYear_10 : decode cX0_spendYear 10 = .ok (.getfield 7, 3) := by decide +kernel
theorem dX0_spendYear_13 : decode cX0_spendYear 13 = .ok (.invokestatic 36, 3) := by decide +kernel
theorem dX0_spendYear_16 : decode cX0_spendYear 16 = .ok (.dmul, 1) := by decide +kernel
theorem dX0_spendYear_17 : decode cX0_spendYear 17 = .ok (.dload_n 1, 1) := by decide +kernel
theorem dX0_spendYear_18 : decode cX0_spendYear 18 = .ok (.dmul, 1) := by decide +kernel
theorem dX0_spendYear_19 : decode cX0_spendYear 19 = .ok (.dstore 5, 2) := by decide +kernel
theorem dX0_spendYear_21 : decode cX0_spendYear 21 = .ok (.aload_n 0, 1) := by decide +kernel
theorem dX0_spendYear_22 : decode cX0_spendYear 22 = .ok (.dload 5, 2) := by decide +kernel
theorem dX0_spendYear_24 : decode cX0_spendYear 24 = .ok (.invokevirtual 40, 3) := by decide +kernel
theorem dX0_spendYear_27 : decode cX0_spendYear 27 = .ok (.aload_n 0, 1) := by decide +kernel
theorem dX0_spendYear_28 : decode cX0_spendYear 28 = .ok (.invokevirtual 44, 3) := by decide +kernel
theorem dX0_spendYear_31 : decode cX0_spendYear 31 = .ok (.ifCond .ne 51, 3) := by decide +kernel
theorem dX0_spendYear_34 : decode cX0_spendYear 34 = .ok (.aload_n 0, 1) := by decide +kernel
theorem dX0_spendYear_35 : decode cX0_spendYear 35 = .ok (.getfield 26, 3) := by decide +kernel
theorem dX0_spendYear_38 : decode cX0_spendYear 38 = .ok (.dload_n 3, 1) := by decide +kernel
theorem dX0_spendYear_39 : decode cX0_spendYear 39 = .ok (.dmul, 1) := by decide +kernel
theorem dX0_spendYear_40 : decode cX0_spendYear 40 = .ok (.aload_n 0, 1) := by decide +kernel
theorem dX0_spendYear_41 : decode cX0_spendYear 41 = .ok (.getfield 16, 3) := by decide +kernel
theorem dX0_spendYear_44 : decode cX0_spendYear 44 = .ok (.ddiv, 1) := by decide +kernel
theorem dX0_spendYear_45 : decode cX0_spendYear 45 = .ok (.dstore 7, 2) := by decide +kernel
theorem dX0_spendYear_47 : decode cX0_spendYear 47 = .ok (.aload_n 0, 1) := by decide +kernel
theorem dX0_spendYear_48 : decode cX0_spendYear 48 = .ok (.dload 7, 2) := by decide +kernel
theorem dX0_spendYear_50 : decode cX0_spendYear 50 = .ok (.ldc2_w 48, 3) := by decide +kernel
theorem dX0_spendYear_53 : decode cX0_spendYear 53 = .ok (.dcmp .l, 1) := by decide +kernel
theorem dX0_spendYear_54 : decode cX0_spendYear 54 = .ok (.ifCond .le 9, 3) := by decide +kernel
theorem dX0_spendYear_57 : decode cX0_spendYear 57 = .ok (.ldc2_w 48, 3) := by decide +kernel
theorem dX0_spendYear_60 : decode cX0_spendYear 60 = .ok (.goto 5, 3) := by decide +kernel
theorem dX0_spendYear_63 : decode cX0_spendYear 63 = .ok (.dload 7, 2) := by decide +kernel
theorem dX0_spendYear_65 : decode cX0_spendYear 65 = .ok (.putfield 26, 3) := by decide +kernel
theorem dX0_spendYear_68 : decode cX0_spendYear 68 = .ok (.aload_n 0, 1) := by decide +kernel
theorem dX0_spendYear_69 : decode cX0_spendYear 69 = .ok (.invokevirtual 50, 3) := by decide +kernel
theorem dX0_spendYear_72 : decode cX0_spendYear 72 = .ok (.aload_n 0, 1) := by decide +kernel
theorem dX0_spendYear_73 : decode cX0_spendYear 73 = .ok (.aload_n 0, 1) := by decide +kernel
theorem dX0_spendYear_74 : decode cX0_spendYear 74 = .ok (.getfield 20, 3) := by decide +kernel
theorem dX0_spendYear_77 : decode cX0_spendYear 77 = .ok (.dconst 1, 1) := by decide +kernel
theorem dX0_spendYear_78 : decode cX0_spendYear 78 = .ok (.dadd, 1) := by decide +kernel
theorem dX0_spendYear_79 : decode cX0_spendYear 79 = .ok (.putfield 20, 3) := by decide +kernel
theorem dX0_spendYear_82 : decode cX0_spendYear 82 = .ok (.dload 5, 2) := by decide +kernel
theorem dX0_spendYear_84 : decode cX0_spendYear 84 = .ok (.dreturn, 1) := by decide +kernel
theorem dX0_sour_0 : decode cX0_sour 0 = .ok (.aload_n 0, 1) := by decide +kernel
theorem dX0_sour_1 : decode cX0_sour 1 = .ok (.getfield 26, 3) := by decide +kernel
theorem dX0_sour_4 : decode cX0_sour 4 = .ok (.ldc2_w 53, 3) := by decide +kernel
theorem dX0_sour_7 : decode cX0_sour 7 = .ok (.dcmp .l, 1) := by decide +kernel
theorem dX0_sour_8 : decode cX0_sour 8 = .ok (.ifCond .le 41, 3) := by decide +kernel
theorem dX0_sour_11 : decode cX0_sour 11 = .ok (.aload_n 0, 1) := by decide +kernel
theorem dX0_sour_12 : decode cX0_sour 12 = .ok (.getfield 23, 3) := by decide +kernel
theorem dX0_sour_15 : decode cX0_sour 15 = .ok (.ldc2_w 55, 3) := by decide +kernel
theorem dX0_sour_18 : decode cX0_sour 18 = .ok (.dcmp .g, 1) := by decide +kernel
theorem dX0_sour_19 : decode cX0_sour 19 = .ok (.ifCond .ge 30, 3) := by decide +kernel
theorem dX0_sour_22 : decode cX0_sour 22 = .ok (.aload_n 0, 1) := by decide +kernel
theorem dX0_sour_23 : decode cX0_sour 23 = .ok (.aload_n 0, 1) := by decide +kernel
theorem dX0_sour_24 : decode cX0_sour 24 = .ok (.getfield 23, 3) := by decide +kernel
theorem dX0_sour_27 : decode cX0_sour 27 = .ok (.ldc2_w 57, 3) := by decide +kernel
theorem dX0_sour_30 : decode cX0_sour 30 = .ok (.dadd, 1) := by decide +kernel
theorem dX0_sour_31 : decode cX0_sour 31 = .ok (.putfield 23, 3) := by decide +kernel
theorem dX0_sour_34 : decode cX0_sour 34 = .ok (.aload_n 0, 1) := by decide +kernel
theorem dX0_sour_35 : decode cX0_sour 35 = .ok (.aload_n 0, 1) := by decide +kernel
theorem dX0_sour_36 : decode cX0_sour 36 = .ok (.getfield 26, 3) := by decide +kernel
theorem dX0_sour_39 : decode cX0_sour 39 = .ok (.ldc2_w 59, 3) := by decide +kernel
theorem dX0_sour_42 : decode cX0_sour 42 = .ok (.dsub, 1) := by decide +kernel
theorem dX0_sour_43 : decode cX0_sour 43 = .ok (.putfield 26, 3) := by decide +kernel
theorem dX0_sour_46 : decode cX0_sour 46 = .ok (.goto 31, 3) := by decide +kernel
theorem dX0_sour_49 : decode cX0_sour 49 = .ok (.aload_n 0, 1) := by decide +kernel
theorem dX0_sour_50 : decode cX0_sour 50 = .ok (.getfield 23, 3) := by decide +kernel
theorem dX0_sour_53 : decode cX0_sour 53 = .ok (.ldc2_w 61, 3) := by decide +kernel
theorem dX0_sour_56 : decode cX0_sour 56 = .ok (.dadd, 1) := by decide +kernel
theorem dX0_sour_57 : decode cX0_sour 57 = .ok (.dstore_n 1, 1) := by decide +kernel
theorem dX0_sour_58 : decode cX0_sour 58 = .ok (.aload_n 0, 1) := by decide +kernel
theorem dX0_sour_59 : decode cX0_sour 59 = .ok (.dload_n 1, 1) := by decide +kernel
theorem dX0_sour_60 : decode cX0_sour 60 = .ok (.ldc2_w 63, 3) := by decide +kernel
theorem dX0_sour_63 : decode cX0_sour 63 = .ok (.dcmp .l, 1) := by decide +kernel
theorem dX0_sour_64 : decode cX0_sour 64 = .ok (.ifCond .le 9, 3) := by decide +kernel
theorem dX0_sour_67 : decode cX0_sour 67 = .ok (.ldc2_w 63, 3) := by decide +kernel
theorem dX0_sour_70 : decode cX0_sour 70 = .ok (.goto 4, 3) := by decide +kernel
theorem dX0_sour_73 : decode cX0_sour 73 = .ok (.dload_n 1, 1) := by decide +kernel
theorem dX0_sour_74 : decode cX0_sour 74 = .ok (.putfield 23, 3) := by decide +kernel
theorem dX0_sour_77 : decode cX0_sour 77 = .ok (.return_, 1) := by decide +kernel
set_option maxRecDepth 20000 in
theorem ggX0_taste_X0_isEmpty : GoodIn wsX0_taste wsX0_isEmpty := goodIn_r _ [12, 13, 14, 15, 16, 17, 18, 19] (by decide +kernel) (by decide +kernel)
set_option maxRecDepth 20000 in
theorem gX0_taste_X0_isEmpty : GoodIn wsX0_taste (wsV RX0 44 RX0 yX0_isEmpty wsX0_isEmpty) := goodIn_app (goodIn_of _ (by decide +kernel)) ggX0_taste_X0_isEmpty
theorem dX0_taste_0 : decode cX0_taste 0 = .ok (.aload_n 0, 1) := by decide +kernel
theorem dX0_taste_1 : decode cX0_taste 1 = .ok (.invokevirtual 44, 3) := by decide +kernel
theorem dX0_taste_4 : decode cX0_taste 4 = .ok (.ifCond .eq 5, 3) := by decide +kernel
theorem dX0_taste_7 : decode cX0_taste 7 = .ok (.dconst 0, 1) := by decide +kernel
theorem dX0_taste_8 : decode cX0_taste 8 = .ok (.dreturn, 1) := by decide +kernel
theorem dX0_taste_9 : decode cX0_taste 9 = .ok (.aload_n 0, 1) := by decide +kernel
theorem dX0_taste_10 : decode cX0_taste 10 = .ok (.getfield 23, 3) := by decide +kernel
theorem dX0_taste_13 : decode cX0_taste 13 = .ok (.ldc2_w 65, 3) := by decide +kernel
theorem dX0_taste_16 : decode cX0_taste 16 = .ok (.dsub, 1) := by decide +kernel
theorem dX0_taste_17 : decode cX0_taste 17 = .ok (.dstore_n 1, 1) := by decide +kernel
theorem dX0_taste_18 : decode cX0_taste 18 = .ok (.dload_n 1, 1) := by decide +kernel
theorem dX0_taste_19 : decode cX0_taste 19 = .ok (.dconst 0, 1) := by decide +kernel
theorem dX0_taste_20 : decode cX0_taste 20 = .ok (.dcmp .g, 1) := by decide +kernel
theorem dX0_taste_21 : decode cX0_taste 21 = .ok (.ifCond .ge 8, 3) := by decide +kernel
theorem dX0_taste_24 : decode cX0_taste 24 = .ok (.dload_n 1, 1) := by decide +kernel
theorem dX0_taste_25 : decode cX0_taste 25 = .ok (.dneg, 1) := by decide +kernel
theorem dX0_taste_26 : decode cX0_taste 26 = .ok (.goto 4, 3) := by decide +kernel
theorem dX0_taste_29 : decode cX0_taste 29 = .ok (.dload_n 1, 1) := by decide +kernel
theorem dX0_taste_30 : decode cX0_taste 30 = .ok (.dstore_n 3, 1) := by decide +kernel
theorem dX0_taste_31 : decode cX0_taste 31 = .ok (.ldc2_w 67, 3) := by decide +kernel
theorem dX0_taste_34 : decode cX0_taste 34 = .ok (.aload_n 0, 1) := by decide +kernel
theorem dX0_taste_35 : decode cX0_taste 35 = .ok (.getfield 20, 3) := by decide +kernel
theorem dX0_taste_38 : decode cX0_taste 38 = .ok (.dmul, 1) := by decide +kernel
theorem dX0_taste_39 : decode cX0_taste 39 = .ok (.ldc2_w 59, 3) := by decide +kernel
theorem dX0_taste_42 : decode cX0_taste 42 = .ok (.aload_n 0, 1) := by decide +kernel
theorem dX0_taste_43 : decode cX0_taste 43 = .ok (.getfield 26, 3) := by decide +kernel
theorem dX0_taste_46 : decode cX0_taste 46 = .ok (.dmul, 1) := by decide +kernel
theorem dX0_taste_47 : decode cX0_taste 47 = .ok (.dadd, 1) := by decide +kernel
theorem dX0_taste_48 : decode cX0_taste 48 = .ok (.ldc2_w 69, 3) := by decide +kernel
theorem dX0_taste_51 : decode cX0_taste 51 = .ok (.dload_n 3, 1) := by decide +kernel
theorem dX0_taste_52 : decode cX0_taste 52 = .ok (.dmul, 1) := by decide +kernel
theorem dX0_taste_53 : decode cX0_taste 53 = .ok (.dsub, 1) := by decide +kernel
theorem dX0_taste_54 : decode cX0_taste 54 = .ok (.dreturn, 1) := by decide +kernel
theorem dX0_mixed_0 : decode cX0_mixed 0 = .ok (.dload_n 0, 1) := by decide +kernel
theorem dX0_mixed_1 : decode cX0_mixed 1 = .ok (.dload 4, 2) := by decide +kernel
theorem dX0_mixed_3 : decode cX0_mixed 3 = .ok (.dadd, 1) := by decide +kernel
theorem dX0_mixed_4 : decode cX0_mixed 4 = .ok (.dstore 8, 2) := by decide +kernel
theorem dX0_mixed_6 : decode cX0_mixed 6 = .ok (.dload 8, 2) := by decide +kernel
theorem dX0_mixed_8 : decode cX0_mixed 8 = .ok (.dconst 0, 1) := by decide +kernel
theorem dX0_mixed_9 : decode cX0_mixed 9 = .ok (.dcmp .l, 1) := by decide +kernel
theorem dX0_mixed_10 : decode cX0_mixed 10 = .ok (.ifCond .le 18, 3) := by decide +kernel
theorem dX0_mixed_13 : decode cX0_mixed 13 = .ok (.dload_n 0, 1) := by decide +kernel
theorem dX0_mixed_14 : decode cX0_mixed 14 = .ok (.dload_n 2, 1) := by decide +kernel
theorem dX0_mixed_15 : decode cX0_mixed 15 = .ok (.dmul, 1) := by decide +kernel
theorem dX0_mixed_16 : decode cX0_mixed 16 = .ok (.dload 4, 2) := by decide +kernel
theorem dX0_mixed_18 : decode cX0_mixed 18 = .ok (.dload 6, 2) := by decide +kernel
theorem dX0_mixed_20 : decode cX0_mixed 20 = .ok (.dmul, 1) := by decide +kernel
theorem dX0_mixed_21 : decode cX0_mixed 21 = .ok (.dadd, 1) := by decide +kernel
theorem dX0_mixed_22 : decode cX0_mixed 22 = .ok (.dload 8, 2) := by decide +kernel
theorem dX0_mixed_24 : decode cX0_mixed 24 = .ok (.ddiv, 1) := by decide +kernel
theorem dX0_mixed_25 : decode cX0_mixed 25 = .ok (.goto 4, 3) := by decide +kernel
theorem dX0_mixed_28 : decode cX0_mixed 28 = .ok (.dconst 0, 1) := by decide +kernel
theorem dX0_mixed_29 : decode cX0_mixed 29 = .ok (.dreturn, 1) := by decide +kernel
theorem dX0_share_0 : decode cX0_share 0 = .ok (.iload_n 0, 1) := by decide +kernel
theorem dX0_share_1 : decode cX0_share 1 = .ok (.tableswitch 39 0 2 #[27, 31, 35], 27) := by decide +kernel
theorem dX0_share_28 : decode cX0_share 28 = .ok (.ldc2_w 71, 3) := by decide +kernel
theorem dX0_share_31 : decode cX0_share 31 = .ok (.dreturn, 1) := by decide +kernel
theorem dX0_share_32 : decode cX0_share 32 = .ok (.ldc2_w 73, 3) := by decide +kernel
theorem dX0_share_35 : decode cX0_share 35 = .ok (.dreturn, 1) := by decide +kernel
theorem dX0_share_36 : decode cX0_share 36 = .ok (.ldc2_w 75, 3) := by decide +kernel
theorem dX0_share_39 : decode cX0_share 39 = .ok (.dreturn, 1) := by decide +kernel
theorem dX0_share_40 : decode cX0_share 40 = .ok (.ldc2_w 77, 3) := by decide +kernel
theorem dX0_share_43 : decode cX0_share 43 = .ok (.dreturn, 1) := by decide +kernel
set_option maxRecDepth 20000 in
theorem ggX1_init_X0_init : GoodIn wsX1_init wsX0_init := goodIn_r _ [13, 14, 2, 3] (by decide +kernel) (by decide +kernel)
set_option maxRecDepth 20000 in
theorem gX1_init_X0_init_n17 : GoodIn wsX1_init (wsX0_init) := ggX1_init_X0_init
theorem dX1_init_0 : decode cX1_init 0 = .ok (.aload_n 0, 1) := by decide +kernel
theorem dX1_init_1 : decode cX1_init 1 = .ok (.invokespecial 3, 3) := by decide +kernel
theorem dX1_init_4 : decode cX1_init 4 = .ok (.aload_n 0, 1) := by decide +kernel
theorem dX1_init_5 : decode cX1_init 5 = .ok (.bipush 8, 2) := by decide +kernel
theorem dX1_init_7 : decode cX1_init 7 = .ok (.anewarray 9, 3) := by decide +kernel
theorem dX1_init_10 : decode cX1_init 10 = .ok (.putfield 11, 3) := by decide +kernel
theorem dX1_init_13 : decode cX1_init 13 = .ok (.iconst 0, 1) := by decide +kernel
theorem dX1_init_14 : decode cX1_init 14 = .ok (.istore_n 1, 1) := by decide +kernel
theorem dX1_init_15 : decode cX1_init 15 = .ok (.iload_n 1, 1) := by decide +kernel
theorem dX1_init_16 : decode cX1_init 16 = .ok (.aload_n 0, 1) := by decide +kernel
theorem dX1_init_17 : decode cX1_init 17 = .ok (.getfield 11, 3) := by decide +kernel
theorem dX1_init_20 : decode cX1_init 20 = .ok (.arraylength, 1) := by decide +kernel
theorem dX1_init_21 : decode cX1_init 21 = .ok (.if_icmp .ge 22, 3) := by decide +kernel
theorem dX1_init_24 : decode cX1_init 24 = .ok (.aload_n 0, 1) := by decide +kernel
theorem dX1_init_25 : decode cX1_init 25 = .ok (.getfield 11, 3) := by decide +kernel
theorem dX1_init_28 : decode cX1_init 28 = .ok (.iload_n 1, 1) := by decide +kernel
theorem dX1_init_29 : decode cX1_init 29 = .ok (.new 9, 3) := by decide +kernel
theorem dX1_init_32 : decode cX1_init 32 = .ok (.dup, 1) := by decide +kernel
theorem dX1_init_33 : decode cX1_init 33 = .ok (.invokespecial 17, 3) := by decide +kernel
theorem dX1_init_36 : decode cX1_init 36 = .ok (.aastore, 1) := by decide +kernel
theorem dX1_init_37 : decode cX1_init 37 = .ok (.iinc 1 1, 3) := by decide +kernel
theorem dX1_init_40 : decode cX1_init 40 = .ok (.goto (-25), 3) := by decide +kernel
theorem dX1_init_43 : decode cX1_init 43 = .ok (.aload_n 0, 1) := by decide +kernel
theorem dX1_init_44 : decode cX1_init 44 = .ok (.iconst 0, 1) := by decide +kernel
theorem dX1_init_45 : decode cX1_init 45 = .ok (.putfield 18, 3) := by decide +kernel
theorem dX1_init_48 : decode cX1_init 48 = .ok (.aload_n 0, 1) := by decide +kernel
theorem dX1_init_49 : decode cX1_init 49 = .ok (.bipush 18, 2) := by decide +kernel
theorem dX1_init_51 : decode cX1_init 51 = .ok (.putfield 22, 3) := by decide +kernel
theorem dX1_init_54 : decode cX1_init 54 = .ok (.aload_n 0, 1) := by decide +kernel
theorem dX1_init_55 : decode cX1_init 55 = .ok (.iconst (-1), 1) := by decide +kernel
theorem dX1_init_56 : decode cX1_init 56 = .ok (.putfield 25, 3) := by decide +kernel
theorem dX1_init_59 : decode cX1_init 59 = .ok (.aload_n 0, 1) := by decide +kernel
theorem dX1_init_60 : decode cX1_init 60 = .ok (.dconst 0, 1) := by decide +kernel
theorem dX1_init_61 : decode cX1_init 61 = .ok (.putfield 28, 3) := by decide +kernel
theorem dX1_init_64 : decode cX1_init 64 = .ok (.return_, 1) := by decide +kernel
set_option maxRecDepth 20000 in
theorem ggX1_copyFrom_X0_copyFrom : GoodIn wsX1_copyFrom wsX0_copyFrom := goodIn_r _ [10, 11, 12, 13, 14, 15, 16, 22, 23, 24, 25, 26, 27] (by decide +kernel) (by decide +kernel)
set_option maxRecDepth 20000 in
theorem gX1_copyFrom_X0_copyFrom : GoodIn wsX1_copyFrom (wsV RX1 32 RX0 yX0_copyFrom wsX0_copyFrom) := goodIn_app (goodIn_of _ (by decide +kernel)) ggX1_copyFrom_X0_copyFrom
theorem dX1_copyFrom_0 : decode cX1_copyFrom 0 = .ok (.aload_n 0, 1) := by decide +kernel
theorem dX1_copyFrom_1 : decode cX1_copyFrom 1 = .ok (.aload_n 1, 1) := by decide +kernel
theorem dX1_copyFrom_2 : decode cX1_copyFrom 2 = .ok (.getfield 18, 3) := by decide +kernel
theorem dX1_copyFrom_5 : decode cX1_copyFrom 5 = .ok (.putfield 18, 3) := by decide +kernel
theorem dX1_copyFrom_8 : decode cX1_copyFrom 8 = .ok (.aload_n 0, 1) := by decide +kernel
theorem dX1_copyFrom_9 : decode cX1_copyFrom 9 = .ok (.aload_n 1, 1) := by decide +kernel
theorem dX1_copyFrom_10 : decode cX1_copyFrom 10 = .ok (.getfield 22, 3) := by decide +kernel
theorem dX1_copyFrom_13 : decode cX1_copyFrom 13 = .ok (.putfield 22, 3) := by decide +kernel
theorem dX1_copyFrom_16 : decode cX1_copyFrom 16 = .ok (.aload_n 0, 1) := by decide +kernel
theorem dX1_copyFrom_17 : decode cX1_copyFrom 17 = .ok (.aload_n 1, 1) := by decide +kernel
theorem dX1_copyFrom_18 : decode cX1_copyFrom 18 = .ok (.getfield 25, 3) := by decide +kernel
theorem dX1_copyFrom_21 : decode cX1_copyFrom 21 = .ok (.putfield 25, 3) := by decide +kernel
theorem dX1_copyFrom_24 : decode cX1_copyFrom 24 = .ok (.aload_n 0, 1) := by decide +kernel
theorem dX1_copyFrom_25 : decode cX1_copyFrom 25 = .ok (.aload_n 1, 1) := by decide +kernel
theorem dX1_copyFrom_26 : decode cX1_copyFrom 26 = .ok (.getfield 28, 3) := by decide +kernel
theorem dX1_copyFrom_29 : decode cX1_copyFrom 29 = .ok (.putfield 28, 3) := by decide +kernel
theorem dX1_copyFrom_32 : decode cX1_copyFrom 32 = .ok (.iconst 0, 1) := by decide +kernel
theorem dX1_copyFrom_33 : decode cX1_copyFrom 33 = .ok (.istore_n 2, 1) := by decide +kernel
theorem dX1_copyFrom_34 : decode cX1_copyFrom 34 = .ok (.iload_n 2, 1) := by decide +kernel
theorem dX1_copyFrom_35 : decode cX1_copyFrom 35 = .ok (.aload_n 0, 1) := by decide +kernel
theorem dX1_copyFrom_36 : decode cX1_copyFrom 36 = .ok (.getfield 18, 3) := by decide +kernel
theorem dX1_copyFrom_39 : decode cX1_copyFrom 39 = .ok (.if_icmp .ge 24, 3) := by decide +kernel
theorem dX1_copyFrom_42 : decode cX1_copyFrom 42 = .ok (.aload_n 0, 1) := by decide +kernel
theorem dX1_copyFrom_43 : decode cX1_copyFrom 43 = .ok (.getfield 11, 3) := by decide +kernel
theorem dX1_copyFrom_46 : decode cX1_copyFrom 46 = .ok (.iload_n 2, 1) := by decide +kernel
theorem dX1_copyFrom_47 : decode cX1_copyFrom 47 = .ok (.aaload, 1) := by decide +kernel
theorem dX1_copyFrom_48 : decode cX1_copyFrom 48 = .ok (.aload_n 1, 1) := by decide +kernel
theorem dX1_copyFrom_49 : decode cX1_copyFrom 49 = .ok (.getfield 11, 3) := by decide +kernel
theorem dX1_copyFrom_52 : decode cX1_copyFrom 52 = .ok (.iload_n 2, 1) := by decide +kernel
theorem dX1_copyFrom_53 : decode cX1_copyFrom 53 = .ok (.aaload, 1) := by decide +kernel
theorem dX1_copyFrom_54 : decode cX1_copyFrom 54 = .ok (.invokevirtual 32, 3) := by decide +kernel
theorem dX1_copyFrom_57 : decode cX1_copyFrom 57 = .ok (.iinc 2 1, 3) := by decide +kernel
theorem dX1_copyFrom_60 : decode cX1_copyFrom 60 = .ok (.goto (-26), 3) := by decide +kernel
theorem dX1_copyFrom_63 : decode cX1_copyFrom 63 = .ok (.return_, 1) := by decide +kernel
theorem dX1_isComplete_0 : decode cX1_isComplete 0 = .ok (.aload_n 0, 1) := by decide +kernel
theorem dX1_isComplete_1 : decode cX1_isComplete 1 = .ok (.getfield 18, 3) := by decide +kernel
theorem dX1_isComplete_4 : decode cX1_isComplete 4 = .ok (.aload_n 0, 1) := by decide +kernel
theorem dX1_isComplete_5 : decode cX1_isComplete 5 = .ok (.getfield 11, 3) := by decide +kernel
theorem dX1_isComplete_8 : decode cX1_isComplete 8 = .ok (.arraylength, 1) := by decide +kernel
theorem dX1_isComplete_9 : decode cX1_isComplete 9 = .ok (.if_icmp .lt 7, 3) := by decide +kernel
theorem dX1_isComplete_12 : decode cX1_isComplete 12 = .ok (.iconst 1, 1) := by decide +kernel
theorem dX1_isComplete_13 : decode cX1_isComplete 13 = .ok (.goto 4, 3) := by decide +kernel
theorem dX1_isComplete_16 : decode cX1_isComplete 16 = .ok (.iconst 0, 1) := by decide +kernel
theorem dX1_isComplete_17 : decode cX1_isComplete 17 = .ok (.ireturn, 1) := by decide +kernel
theorem dX1_largestNext_0 : decode cX1_largestNext 0 = .ok (.aload_n 0, 1) := by decide +kernel
theorem dX1_largestNext_1 : decode cX1_largestNext 1 = .ok (.getfield 18, 3) := by decide +kernel
theorem dX1_largestNext_4 : decode cX1_largestNext 4 = .ok (.ifCond .le 22, 3) := by decide +kernel
theorem dX1_largestNext_7 : decode cX1_largestNext 7 = .ok (.aload_n 0, 1) := by decide +kernel
theorem dX1_largestNext_8 : decode cX1_largestNext 8 = .ok (.getfield 11, 3) := by decide +kernel
theorem dX1_largestNext_11 : decode cX1_largestNext 11 = .ok (.aload_n 0, 1) := by decide +kernel
theorem dX1_largestNext_12 : decode cX1_largestNext 12 = .ok (.getfield 18, 3) := by decide +kernel
theorem dX1_largestNext_15 : decode cX1_largestNext 15 = .ok (.iconst 1, 1) := by decide +kernel
theorem dX1_largestNext_16 : decode cX1_largestNext 16 = .ok (.isub, 1) := by decide +kernel
theorem dX1_largestNext_17 : decode cX1_largestNext 17 = .ok (.aaload, 1) := by decide +kernel
theorem dX1_largestNext_18 : decode cX1_largestNext 18 = .ok (.getfield 36, 3) := by decide +kernel
theorem dX1_largestNext_21 : decode cX1_largestNext 21 = .ok (.iconst 1, 1) := by decide +kernel
theorem dX1_largestNext_22 : decode cX1_largestNext 22 = .ok (.isub, 1) := by decide +kernel
theorem dX1_largestNext_23 : decode cX1_largestNext 23 = .ok (.goto 5, 3) := by decide +kernel
theorem dX1_largestNext_26 : decode cX1_largestNext 26 = .ok (.bipush 100, 2) := by decide +kernel
theorem dX1_largestNext_28 : decode cX1_largestNext 28 = .ok (.ireturn, 1) := by decide +kernel
set_option maxRecDepth 20000 in
theorem ggX1_putBehind_X1_isComplete : GoodIn wsX1_putBehind wsX1_isComplete := goodIn_r _ [9, 2, 1, 19, 20, 21, 22, 23] (by decide +kernel) (by decide +kernel)
set_option maxRecDepth 20000 in
theorem gX1_putBehind_X1_isComplete : GoodIn wsX1_putBehind (wsV RX1 39 RX1 yX1_isComplete wsX1_isComplete) := goodIn_app (goodIn_of _ (by decide +kernel)) ggX1_putBehind_X1_isComplete
set_option maxRecDepth 20000 in
theorem ggX1_putBehind_X0_clear : GoodIn wsX1_putBehind wsX0_clear := goodIn_r _ [14, 15, 16, 17, 18, 24, 25, 26, 27, 28, 29] (by decide +kernel) (by decide +kernel)
set_option maxRecDepth 20000 in
theorem gX1_putBehind_X0_clear : GoodIn wsX1_putBehind (wsV RX1 46 RX0 yX0_clear wsX0_clear) := goodIn_app (goodIn_of _ (by decide +kernel)) ggX1_putBehind_X0_clear
theorem dX1_putBehind_0 : decode cX1_putBehind 0 = .ok (.aload_n 0, 1) := by decide +kernel
theorem dX1_putBehind_1 : decode cX1_putBehind 1 = .ok (.invokevirtual 39, 3) := by decide +kernel
theorem dX1_putBehind_4 : decode cX1_putBehind 4 = .ok (.ifCond .eq 5, 3) := by decide +kernel
theorem dX1_putBehind_7 : decode cX1_putBehind 7 = .ok (.iconst (-1), 1) := by decide +kernel
theorem dX1_putBehind_8 : decode cX1_putBehind 8 = .ok (.ireturn, 1) := by decide +kernel
theorem dX1_putBehind_9 : decode cX1_putBehind 9 = .ok (.aload_n 0, 1) := by decide +kernel
theorem dX1_putBehind_10 : decode cX1_putBehind 10 = .ok (.getfield 11, 3) := by decide +kernel
theorem dX1_putBehind_13 : decode cX1_putBehind 13 = .ok (.aload_n 0, 1) := by decide +kernel
theorem dX1_putBehind_14 : decode cX1_putBehind 14 = .ok (.getfield 18, 3) := by decide +kernel
theorem dX1_putBehind_17 : decode cX1_putBehind 17 = .ok (.aaload, 1) := by decide +kernel
theorem dX1_putBehind_18 : decode cX1_putBehind 18 = .ok (.astore_n 3, 1) := by decide +kernel
theorem dX1_putBehind_19 : decode cX1_putBehind 19 = .ok (.aload_n 3, 1) := by decide +kernel
theorem dX1_putBehind_20 : decode cX1_putBehind 20 = .ok (.iload_n 1, 1) := by decide +kernel
theorem dX1_putBehind_21 : decode cX1_putBehind 21 = .ok (.putfield 43, 3) := by decide +kernel
theorem dX1_putBehind_24 : decode cX1_putBehind 24 = .ok (.aload_n 3, 1) := by decide +kernel
theorem dX1_putBehind_25 : decode cX1_putBehind 25 = .ok (.iload_n 2, 1) := by decide +kernel
theorem dX1_putBehind_26 : decode cX1_putBehind 26 = .ok (.putfield 36, 3) := by decide +kernel
theorem dX1_putBehind_29 : decode cX1_putBehind 29 = .ok (.aload_n 3, 1) := by decide +kernel
theorem dX1_putBehind_30 : decode cX1_putBehind 30 = .ok (.invokevirtual 46, 3) := by decide +kernel
theorem dX1_putBehind_33 : decode cX1_putBehind 33 = .ok (.aload_n 0, 1) := by decide +kernel
theorem dX1_putBehind_34 : decode cX1_putBehind 34 = .ok (.dup, 1) := by decide +kernel
theorem dX1_putBehind_35 : decode cX1_putBehind 35 = .ok (.getfield 18, 3) := by decide +kernel
theorem dX1_putBehind_38 : decode cX1_putBehind 38 = .ok (.iconst 1, 1) := by decide +kernel
theorem dX1_putBehind_39 : decode cX1_putBehind 39 = .ok (.iadd, 1) := by decide +kernel
theorem dX1_putBehind_40 : decode cX1_putBehind 40 = .ok (.putfield 18, 3) := by decide +kernel
theorem dX1_putBehind_43 : decode cX1_putBehind 43 = .ok (.aload_n 0, 1) := by decide +kernel
theorem dX1_putBehind_44 : decode cX1_putBehind 44 = .ok (.getfield 18, 3) := by decide +kernel
theorem dX1_putBehind_47 : decode cX1_putBehind 47 = .ok (.iconst 1, 1) := by decide +kernel
theorem dX1_putBehind_48 : decode cX1_putBehind 48 = .ok (.isub, 1) := by decide +kernel
theorem dX1_putBehind_49 : decode cX1_putBehind 49 = .ok (.ireturn, 1) := by decide +kernel
set_option maxRecDepth 20000 in
theorem ggX1_pourMust_X0_mixIn : GoodIn wsX1_pourMust wsX0_mixIn := goodIn_r _ [10, 11, 12, 13, 14, 15, 16, 9, 17, 23, 24, 25, 26, 27, 28] (by decide +kernel) (by decide +kernel)
set_option maxRecDepth 20000 in
theorem gX1_pourMust_X0_mixIn : GoodIn wsX1_pourMust (wsV RX1 54 RX0 yX0_mixIn wsX0_mixIn) := goodIn_app (goodIn_of _ (by decide +kernel)) ggX1_pourMust_X0_mixIn
theorem dX1_pourMust_0 : decode cX1_pourMust 0 = .ok (.aload_n 0, 1) := by decide +kernel
theorem dX1_pourMust_1 : decode cX1_pourMust 1 = .ok (.getfield 18, 3) := by decide +kernel
theorem dX1_pourMust_4 : decode cX1_pourMust 4 = .ok (.ifCond .ne 5, 3) := by decide +kernel
theorem dX1_pourMust_7 : decode cX1_pourMust 7 = .ok (.dconst 0, 1) := by decide +kernel
theorem dX1_pourMust_8 : decode cX1_pourMust 8 = .ok (.dreturn, 1) := by decide +kernel
theorem dX1_pourMust_9 : decode cX1_pourMust 9 = .ok (.aload_n 0, 1) := by decide +kernel
theorem dX1_pourMust_10 : decode cX1_pourMust 10 = .ok (.getfield 11, 3) := by decide +kernel
theorem dX1_pourMust_13 : decode cX1_pourMust 13 = .ok (.iconst 0, 1) := by decide +kernel
theorem dX1_pourMust_14 : decode cX1_pourMust 14 = .ok (.aaload, 1) := by decide +kernel
theorem dX1_pourMust_15 : decode cX1_pourMust 15 = .ok (.astore_n 2, 1) := by decide +kernel
theorem dX1_pourMust_16 : decode cX1_pourMust 16 = .ok (.aload_n 2, 1) := by decide +kernel
theorem dX1_pourMust_17 : decode cX1_pourMust 17 = .ok (.getfield 36, 3) := by decide +kernel
theorem dX1_pourMust_20 : decode cX1_pourMust 20 = .ok (.i2d, 1) := by decide +kernel
theorem dX1_pourMust_21 : decode cX1_pourMust 21 = .ok (.aload_n 2, 1) := by decide +kernel
theorem dX1_pourMust_22 : decode cX1_pourMust 22 = .ok (.getfield 49, 3) := by decide +kernel
theorem dX1_pourMust_25 : decode cX1_pourMust 25 = .ok (.dsub, 1) := by decide +kernel
theorem dX1_pourMust_26 : decode cX1_pourMust 26 = .ok (.dstore_n 3, 1) := by decide +kernel
theorem dX1_pourMust_27 : decode cX1_pourMust 27 = .ok (.iload_n 1, 1) := by decide +kernel
theorem dX1_pourMust_28 : decode cX1_pourMust 28 = .ok (.i2d, 1) := by decide +kernel
theorem dX1_pourMust_29 : decode cX1_pourMust 29 = .ok (.dload_n 3, 1) := by decide +kernel
theorem dX1_pourMust_30 : decode cX1_pourMust 30 = .ok (.dcmp .g, 1) := by decide +kernel
theorem dX1_pourMust_31 : decode cX1_pourMust 31 = .ok (.ifCond .ge 8, 3) := by decide +kernel
theorem dX1_pourMust_34 : decode cX1_pourMust 34 = .ok (.iload_n 1, 1) := by decide +kernel
theorem dX1_pourMust_35 : decode cX1_pourMust 35 = .ok (.i2d, 1) := by decide +kernel
theorem dX1_pourMust_36 : decode cX1_pourMust 36 = .ok (.goto 4, 3) := by decide +kernel
theorem dX1_pourMust_39 : decode cX1_pourMust 39 = .ok (.dload_n 3, 1) := by decide +kernel
theorem dX1_pourMust_40 : decode cX1_pourMust 40 = .ok (.dstore 5, 2) := by decide +kernel
theorem dX1_pourMust_42 : decode cX1_pourMust 42 = .ok (.dload 5, 2) := by decide +kernel
theorem dX1_pourMust_44 : decode cX1_pourMust 44 = .ok (.dconst 0, 1) := by decide +kernel
theorem dX1_pourMust_45 : decode cX1_pourMust 45 = .ok (.dcmp .g, 1) := by decide +kernel
theorem dX1_pourMust_46 : decode cX1_pourMust 46 = .ok (.ifCond .gt 5, 3) := by decide +kernel
theorem dX1_pourMust_49 : decode cX1_pourMust 49 = .ok (.dconst 0, 1) := by decide +kernel
theorem dX1_pourMust_50 : decode cX1_pourMust 50 = .ok (.dreturn, 1) := by decide +kernel
theorem dX1_pourMust_51 : decode cX1_pourMust 51 = .ok (.aload_n 2, 1) := by decide +kernel
theorem dX1_pourMust_52 : decode cX1_pourMust 52 = .ok (.dload 5, 2) := by decide +kernel
theorem dX1_pourMust_54 : decode cX1_pourMust 54 = .ok (.dconst 0, 1) := by decide +kernel
theorem dX1_pourMust_55 : decode cX1_pourMust 55 = .ok (.dconst 1, 1) := by decide +kernel
theorem dX1_pourMust_56 : decode cX1_pourMust 56 = .ok (.ldc2_w 52, 3) := by decide +kernel
theorem dX1_pourMust_59 : decode cX1_pourMust 59 = .ok (.invokevirtual 54, 3) := by decide +kernel
theorem dX1_pourMust_62 : decode cX1_pourMust 62 = .ok (.dload 5, 2) := by decide +kernel
theorem dX1_pourMust_64 : decode cX1_pourMust 64 = .ok (.dreturn, 1) := by decide +kernel
set_option maxRecDepth 20000 in
theorem ggX1_passDown_X1_passBetween : GoodIn wsX1_passDown wsX1_passBetween := goodIn_r _ [6, 7, 8, 9, 10, 11, 12, 13, 14, 15, 16, 17, 18, 19, 20, 21, 22, 23, 24, 25, 26, 27, 28, 29, 30, 31, 32, 33, 39, 40, 41, 42, 43, 44] (by decide +kernel) (by decide +kernel)
set_option maxRecDepth 20000 in
theorem gX1_passDown_X1_passBetween : GoodIn wsX1_passDown (va_wsS RX1 58 yX1_passBetween wsX1_passBetween) := goodIn_app (goodIn_of _ (by decide +kernel)) ggX1_passDown_X1_passBetween
theorem dX1_passDown_0 : decode cX1_passDown 0 = .ok (.dconst 0, 1) := by decide +kernel
theorem dX1_passDown_1 : decode cX1_passDown 1 = .ok (.dstore_n 1, 1) := by decide +kernel
theorem dX1_passDown_2 : decode cX1_passDown 2 = .ok (.aload_n 0, 1) := by decide +kernel
theorem dX1_passDown_3 : decode cX1_passDown 3 = .ok (.getfield 18, 3) := by decide +kernel
theorem dX1_passDown_6 : decode cX1_passDown 6 = .ok (.iconst 1, 1) := by decide +kernel
theorem dX1_passDown_7 : decode cX1_passDown 7 = .ok (.isub, 1) := by decide +kernel
theorem dX1_passDown_8 : decode cX1_passDown 8 = .ok (.istore_n 3, 1) := by decide +kernel
theorem dX1_passDown_9 : decode cX1_passDown 9 = .ok (.iload_n 3, 1) := by decide +kernel
theorem dX1_passDown_10 : decode cX1_passDown 10 = .ok (.ifCond .le 29, 3) := by decide +kernel
theorem dX1_passDown_13 : decode cX1_passDown 13 = .ok (.dload_n 1, 1) := by decide +kernel
theorem dX1_passDown_14 : decode cX1_passDown 14 = .ok (.aload_n 0, 1) := by decide +kernel
theorem dX1_passDown_15 : decode cX1_passDown 15 = .ok (.getfield 11, 3) := by decide +kernel
theorem dX1_passDown_18 : decode cX1_passDown 18 = .ok (.iload_n 3, 1) := by decide +kernel
theorem dX1_passDown_19 : decode cX1_passDown 19 = .ok (.iconst 1, 1) := by decide +kernel
theorem dX1_passDown_20 : decode cX1_passDown 20 = .ok (.isub, 1) := by decide +kernel
theorem dX1_passDown_21 : decode cX1_passDown 21 = .ok (.aaload, 1) := by decide +kernel
theorem dX1_passDown_22 : decode cX1_passDown 22 = .ok (.aload_n 0, 1) := by decide +kernel
theorem dX1_passDown_23 : decode cX1_passDown 23 = .ok (.getfield 11, 3) := by decide +kernel
theorem dX1_passDown_26 : decode cX1_passDown 26 = .ok (.iload_n 3, 1) := by decide +kernel
theorem dX1_passDown_27 : decode cX1_passDown 27 = .ok (.aaload, 1) := by decide +kernel
theorem dX1_passDown_28 : decode cX1_passDown 28 = .ok (.invokestatic 58, 3) := by decide +kernel
theorem dX1_passDown_31 : decode cX1_passDown 31 = .ok (.dadd, 1) := by decide +kernel
theorem dX1_passDown_32 : decode cX1_passDown 32 = .ok (.dstore_n 1, 1) := by decide +kernel
theorem dX1_passDown_33 : decode cX1_passDown 33 = .ok (.iinc 3 (-1), 3) := by decide +kernel
theorem dX1_passDown_36 : decode cX1_passDown 36 = .ok (.goto (-27), 3) := by decide +kernel
theorem dX1_passDown_39 : decode cX1_passDown 39 = .ok (.dload_n 1, 1) := by decide +kernel
theorem dX1_passDown_40 : decode cX1_passDown 40 = .ok (.dreturn, 1) := by decide +kernel
set_option maxRecDepth 20000 in
theorem ggX1_passBetween_X0_mixIn : GoodIn wsX1_passBetween wsX0_mixIn := goodIn_r _ [12, 13, 14, 15, 16, 17, 18, 11, 19, 28, 29, 30, 31, 32, 33] (by decide +kernel) (by decide +kernel)
set_option maxRecDepth 20000 in
theorem gX1_passBetween_X0_mixIn : GoodIn wsX1_passBetween (wsV RX1 54 RX0 yX0_mixIn wsX0_mixIn) := goodIn_app (goodIn_of _ (by decide +kernel)) ggX1_passBetween_X0_mixIn
set_option maxRecDepth 20000 in
theorem ggX1_passBetween_X0_takeOut : GoodIn wsX1_passBetween wsX0_takeOut := goodIn_r _ [23, 13, 24, 25, 26, 11, 27, 14, 15, 16, 28, 29, 30, 31, 32, 33] (by decide +kernel) (by decide +kernel)
set_option maxRecDepth 20000 in
theorem gX1_passBetween_X0_takeOut : GoodIn wsX1_passBetween (wsV RX1 75 RX0 yX0_takeOut wsX0_takeOut) := goodIn_app (goodIn_of _ (by decide +kernel)) ggX1_passBetween_X0_takeOut
theorem dX1_passBetween_0 : decode cX1_passBetween 0 = .ok (.ldc2_w 62, 3) := by decide +kernel
theorem dX1_passBetween_3 : decode cX1_passBetween 3 = .ok (.aload_n 1, 1) := by decide +kernel
theorem dX1_passBetween_4 : decode cX1_passBetween 4 = .ok (.getfield 36, 3) := by decide +kernel
theorem dX1_passBetween_7 : decode cX1_passBetween 7 = .ok (.i2d, 1) := by decide +kernel
theorem dX1_passBetween_8 : decode cX1_passBetween 8 = .ok (.dmul, 1) := by decide +kernel
theorem dX1_passBetween_9 : decode cX1_passBetween 9 = .ok (.aload_n 1, 1) := by decide +kernel
theorem dX1_passBetween_10 : decode cX1_passBetween 10 = .ok (.getfield 49, 3) := by decide +kernel
theorem dX1_passBetween_13 : decode cX1_passBetween 13 = .ok (.dsub, 1) := by decide +kernel
theorem dX1_passBetween_14 : decode cX1_passBetween 14 = .ok (.dstore_n 2, 1) := by decide +kernel
theorem dX1_passBetween_15 : decode cX1_passBetween 15 = .ok (.ldc2_w 64, 3) := by decide +kernel
theorem dX1_passBetween_18 : decode cX1_passBetween 18 = .ok (.aload_n 0, 1) := by decide +kernel
theorem dX1_passBetween_19 : decode cX1_passBetween 19 = .ok (.getfield 49, 3) := by decide +kernel
theorem dX1_passBetween_22 : decode cX1_passBetween 22 = .ok (.dmul, 1) := by decide +kernel
theorem dX1_passBetween_23 : decode cX1_passBetween 23 = .ok (.dstore 4, 2) := by decide +kernel
theorem dX1_passBetween_25 : decode cX1_passBetween 25 = .ok (.dload_n 2, 1) := by decide +kernel
theorem dX1_passBetween_26 : decode cX1_passBetween 26 = .ok (.dload 4, 2) := by decide +kernel
theorem dX1_passBetween_28 : decode cX1_passBetween 28 = .ok (.dcmp .g, 1) := by decide +kernel
theorem dX1_passBetween_29 : decode cX1_passBetween 29 = .ok (.ifCond .ge 7, 3) := by decide +kernel
theorem dX1_passBetween_32 : decode cX1_passBetween 32 = .ok (.dload_n 2, 1) := by decide +kernel
theorem dX1_passBetween_33 : decode cX1_passBetween 33 = .ok (.goto 5, 3) := by decide +kernel
theorem dX1_passBetween_36 : decode cX1_passBetween 36 = .ok (.dload 4, 2) := by decide +kernel
theorem dX1_passBetween_38 : decode cX1_passBetween 38 = .ok (.dstore 6, 2) := by decide +kernel
theorem dX1_passBetween_40 : decode cX1_passBetween 40 = .ok (.dload 6, 2) := by decide +kernel
theorem dX1_passBetween_42 : decode cX1_passBetween 42 = .ok (.dconst 0, 1) := by decide +kernel
theorem dX1_passBetween_43 : decode cX1_passBetween 43 = .ok (.dcmp .g, 1) := by decide +kernel
theorem dX1_passBetween_44 : decode cX1_passBetween 44 = .ok (.ifCond .gt 5, 3) := by decide +kernel
theorem dX1_passBetween_47 : decode cX1_passBetween 47 = .ok (.dconst 0, 1) := by decide +kernel
theorem dX1_passBetween_48 : decode cX1_passBetween 48 = .ok (.dreturn, 1) := by decide +kernel
theorem dX1_passBetween_49 : decode cX1_passBetween 49 = .ok (.aload_n 1, 1) := by decide +kernel
theorem dX1_passBetween_50 : decode cX1_passBetween 50 = .ok (.dload 6, 2) := by decide +kernel
theorem dX1_passBetween_52 : decode cX1_passBetween 52 = .ok (.aload_n 0, 1) := by decide +kernel
theorem dX1_passBetween_53 : decode cX1_passBetween 53 = .ok (.getfield 66, 3) := by decide +kernel
theorem dX1_passBetween_56 : decode cX1_passBetween 56 = .ok (.aload_n 0, 1) := by decide +kernel
theorem dX1_passBetween_57 : decode cX1_passBetween 57 = .ok (.getfield 69, 3) := by decide +kernel
theorem dX1_passBetween_60 : decode cX1_passBetween 60 = .ok (.aload_n 0, 1) := by decide +kernel
theorem dX1_passBetween_61 : decode cX1_passBetween 61 = .ok (.getfield 72, 3) := by decide +kernel
theorem dX1_passBetween_64 : decode cX1_passBetween 64 = .ok (.invokevirtual 54, 3) := by decide +kernel
theorem dX1_passBetween_67 : decode cX1_passBetween 67 = .ok (.aload_n 0, 1) := by decide +kernel
theorem dX1_passBetween_68 : decode cX1_passBetween 68 = .ok (.dload 6, 2) := by decide +kernel
theorem dX1_passBetween_70 : decode cX1_passBetween 70 = .ok (.invokevirtual 75, 3) := by decide +kernel
theorem dX1_passBetween_73 : decode cX1_passBetween 73 = .ok (.dload 6, 2) := by decide +kernel
theorem dX1_passBetween_75 : decode cX1_passBetween 75 = .ok (.dreturn, 1) := by decide +kernel
set_option maxRecDepth 20000 in
theorem ggX1_ageAll_X1_draughtNow : GoodIn wsX1_ageAll wsX1_draughtNow := goodIn_r _ [11, 12, 13, 14, 61, 62, 63, 64, 65] (by decide +kernel) (by decide +kernel)
set_option maxRecDepth 20000 in
theorem gX1_ageAll_X1_draughtNow : GoodIn wsX1_ageAll (wsV RX1 79 RX1 yX1_draughtNow wsX1_draughtNow) := goodIn_app (goodIn_of _ (by decide +kernel)) ggX1_ageAll_X1_draughtNow
set_option maxRecDepth 20000 in
theorem ggX1_ageAll_X0_isEmpty : GoodIn wsX1_ageAll wsX0_isEmpty := goodIn_r _ [19, 20, 66, 67, 68, 69, 70, 71] (by decide +kernel) (by decide +kernel)
set_option maxRecDepth 20000 in
theorem gX1_ageAll_X0_isEmpty : GoodIn wsX1_ageAll (wsV RX1 83 RX0 yX0_isEmpty wsX0_isEmpty) := goodIn_app (goodIn_of _ (by decide +kernel)) ggX1_ageAll_X0_isEmpty
set_option maxRecDepth 20000 in
theorem ggX1_ageAll_X0_spendYear : GoodIn wsX1_ageAll wsX0_spendYear := goodIn_r _ [24, 20, 25, 26, 27, 28, 29, 30, 18, 31, 32, 33, 34, 35, 36, 37, 38, 39, 40, 41, 42, 43, 44, 45, 16, 17, 19, 46, 47, 48, 49, 50, 51, 52, 53, 54, 55, 66, 67, 68, 69, 70, 71] (by decide +kernel) (by decide +kernel)
set_option maxRecDepth 20000 in
theorem gX1_ageAll_X0_spendYear : GoodIn wsX1_ageAll (wsV RX1 86 RX0 yX0_spendYear wsX0_spendYear) := goodIn_app (goodIn_of _ (by decide +kernel)) ggX1_ageAll_X0_spendYear
set_option maxRecDepth 20000 in
theorem ggX1_ageAll_X1_eldest : GoodIn wsX1_ageAll wsX1_eldest := goodIn_r _ [59, 1, 2, 60, 15, 16, 17, 18, 19, 20, 61, 62, 63, 64, 65, 66, 67, 68, 69, 70, 71] (by decide +kernel) (by decide +kernel)
set_option maxRecDepth 20000 in
theorem gX1_ageAll_X1_eldest : GoodIn wsX1_ageAll (wsV RX1 90 RX1 yX1_eldest wsX1_eldest) := goodIn_app (goodIn_of _ (by decide +kernel)) ggX1_ageAll_X1_eldest
theorem dX1_ageAll_0 : decode cX1_ageAll 0 = .ok (.aload_n 0, 1) := by decide +kernel
theorem dX1_ageAll_1 : decode cX1_ageAll 1 = .ok (.invokevirtual 79, 3) := by decide +kernel
theorem dX1_ageAll_4 : decode cX1_ageAll 4 = .ok (.dstore_n 1, 1) := by decide +kernel
theorem dX1_ageAll_5 : decode cX1_ageAll 5 = .ok (.dconst 0, 1) := by decide +kernel
theorem dX1_ageAll_6 : decode cX1_ageAll 6 = .ok (.dstore_n 3, 1) := by decide +kernel
theorem dX1_ageAll_7 : decode cX1_ageAll 7 = .ok (.iconst 0, 1) := by decide +kernel
theorem dX1_ageAll_8 : decode cX1_ageAll 8 = .ok (.istore 5, 2) := by decide +kernel
theorem dX1_ageAll_10 : decode cX1_ageAll 10 = .ok (.iload 5, 2) := by decide +kernel
theorem dX1_ageAll_12 : decode cX1_ageAll 12 = .ok (.aload_n 0, 1) := by decide +kernel
theorem dX1_ageAll_13 : decode cX1_ageAll 13 = .ok (.getfield 18, 3) := by decide +kernel
theorem dX1_ageAll_16 : decode cX1_ageAll 16 = .ok (.if_icmp .ge 36, 3) := by decide +kernel
theorem dX1_ageAll_19 : decode cX1_ageAll 19 = .ok (.aload_n 0, 1) := by decide +kernel
theorem dX1_ageAll_20 : decode cX1_ageAll 20 = .ok (.getfield 11, 3) := by decide +kernel
theorem dX1_ageAll_23 : decode cX1_ageAll 23 = .ok (.iload 5, 2) := by decide +kernel
theorem dX1_ageAll_25 : decode cX1_ageAll 25 = .ok (.aaload, 1) := by decide +kernel
theorem dX1_ageAll_26 : decode cX1_ageAll 26 = .ok (.invokevirtual 83, 3) := by decide +kernel
theorem dX1_ageAll_29 : decode cX1_ageAll 29 = .ok (.ifCond .ne 17, 3) := by decide +kernel
theorem dX1_ageAll_32 : decode cX1_ageAll 32 = .ok (.dload_n 3, 1) := by decide +kernel
theorem dX1_ageAll_33 : decode cX1_ageAll 33 = .ok (.aload_n 0, 1) := by decide +kernel
theorem dX1_ageAll_34 : decode cX1_ageAll 34 = .ok (.getfield 11, 3) := by decide +kernel
theorem dX1_ageAll_37 : decode cX1_ageAll 37 = .ok (.iload 5, 2) := by decide +kernel
theorem dX1_ageAll_39 : decode cX1_ageAll 39 = .ok (.aaload, 1) := by decide +kernel
theorem dX1_ageAll_40 : decode cX1_ageAll 40 = .ok (.dload_n 1, 1) := by decide +kernel
theorem dX1_ageAll_41 : decode cX1_ageAll 41 = .ok (.invokevirtual 86, 3) := by decide +kernel
theorem dX1_ageAll_44 : decode cX1_ageAll 44 = .ok (.dadd, 1) := by decide +kernel
theorem dX1_ageAll_45 : decode cX1_ageAll 45 = .ok (.dstore_n 3, 1) := by decide +kernel
theorem dX1_ageAll_46 : decode cX1_ageAll 46 = .ok (.iinc 5 1, 3) := by decide +kernel
theorem dX1_ageAll_49 : decode cX1_ageAll 49 = .ok (.goto (-39), 3) := by decide +kernel
theorem dX1_ageAll_52 : decode cX1_ageAll 52 = .ok (.aload_n 0, 1) := by decide +kernel
theorem dX1_ageAll_53 : decode cX1_ageAll 53 = .ok (.aload_n 0, 1) := by decide +kernel
theorem dX1_ageAll_54 : decode cX1_ageAll 54 = .ok (.invokevirtual 90, 3) := by decide +kernel
theorem dX1_ageAll_57 : decode cX1_ageAll 57 = .ok (.putfield 25, 3) := by decide +kernel
theorem dX1_ageAll_60 : decode cX1_ageAll 60 = .ok (.aload_n 0, 1) := by decide +kernel
theorem dX1_ageAll_61 : decode cX1_ageAll 61 = .ok (.aload_n 0, 1) := by decide +kernel
theorem dX1_ageAll_62 : decode cX1_ageAll 62 = .ok (.getfield 25, 3) := by decide +kernel
theorem dX1_ageAll_65 : decode cX1_ageAll 65 = .ok (.iconst (-1), 1) := by decide +kernel
theorem dX1_ageAll_66 : decode cX1_ageAll 66 = .ok (.if_icmp .ne 7, 3) := by decide +kernel
theorem dX1_ageAll_69 : decode cX1_ageAll 69 = .ok (.dconst 0, 1) := by decide +kernel
theorem dX1_ageAll_70 : decode cX1_ageAll 70 = .ok (.goto 19, 3) := by decide +kernel
theorem dX1_ageAll_73 : decode cX1_ageAll 73 = .ok (.ldc2_w 94, 3) := by decide +kernel
theorem dX1_ageAll_76 : decode cX1_ageAll 76 = .ok (.aload_n 0, 1) := by decide +kernel
theorem dX1_ageAll_77 : decode cX1_ageAll 77 = .ok (.getfield 11, 3) := by decide +kernel
theorem dX1_ageAll_80 : decode cX1_ageAll 80 = .ok (.aload_n 0, 1) := by decide +kernel
theorem dX1_ageAll_81 : decode cX1_ageAll 81 = .ok (.getfield 25, 3) := by decide +kernel
