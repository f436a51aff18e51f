set_option maxRecDepth 20000 in
theorem ggX0_init_X4_init : GoodIn wsX0_init wsX4_init := goodIn_r _ [10, 11, 2, 3, 12, 13, 14, 15, 16, 17, 18, 19, 20, 21] (by decide +kernel) (by decide +kernel)
set_option maxRecDepth 20000 in
theorem gX0_init_X4_init_n11 : GoodIn wsX0_init (wsX4_init) := ggX0_init_X4_init
theorem dX0_init_0 : decode cX0_init 0 = .ok (.aload_n 0, 1) := by decide +kernel
theorem dX0_init_1 : decode cX0_init 1 = .ok (.invokespecial 3, 3) := by decide +kernel
theorem dX0_init_4 : decode cX0_init 4 = .ok (.aload_n 0, 1) := by decide +kernel
theorem dX0_init_5 : decode cX0_init 5 = .ok (.new 9, 3) := by decide +kernel
theorem dX0_init_8 : decode cX0_init 8 = .ok (.dup, 1) := by decide +kernel
theorem dX0_init_9 : decode cX0_init 9 = .ok (.invokespecial 11, 3) := by decide +kernel
theorem dX0_init_12 : decode cX0_init 12 = .ok (.putfield 12, 3) := by decide +kernel
theorem dX0_init_15 : decode cX0_init 15 = .ok (.aload_n 0, 1) := by decide +kernel
theorem dX0_init_16 : decode cX0_init 16 = .ok (.new 9, 3) := by decide +kernel
theorem dX0_init_19 : decode cX0_init 19 = .ok (.dup, 1) := by decide +kernel
theorem dX0_init_20 : decode cX0_init 20 = .ok (.invokespecial 11, 3) := by decide +kernel
theorem dX0_init_23 : decode cX0_init 23 = .ok (.putfield 18, 3) := by decide +kernel
theorem dX0_init_26 : decode cX0_init 26 = .ok (.return_, 1) := by decide +kernel
set_option maxRecDepth 20000 in
theorem ggX0_copyFrom_X4_copyFrom : GoodIn wsX0_copyFrom wsX4_copyFrom := goodIn_r _ [7, 8, 9, 10, 11, 12, 13, 14, 15, 16, 19, 20, 21, 22, 23] (by decide +kernel) (by decide +kernel)
set_option maxRecDepth 20000 in
theorem gX0_copyFrom_X4_copyFrom : GoodIn wsX0_copyFrom (wsV RX0 21 RX4 yX4_copyFrom wsX4_copyFrom) := goodIn_app (goodIn_of _ (by decide +kernel)) ggX0_copyFrom_X4_copyFrom
theorem dX0_copyFrom_0 : decode cX0_copyFrom 0 = .ok (.aload_n 0, 1) := by decide +kernel
theorem dX0_copyFrom_1 : decode cX0_copyFrom 1 = .ok (.getfield 12, 3) := by decide +kernel
theorem dX0_copyFrom_4 : decode cX0_copyFrom 4 = .ok (.aload_n 1, 1) := by decide +kernel
theorem dX0_copyFrom_5 : decode cX0_copyFrom 5 = .ok (.getfield 12, 3) := by decide +kernel
theorem dX0_copyFrom_8 : decode cX0_copyFrom 8 = .ok (.invokevirtual 21, 3) := by decide +kernel
theorem dX0_copyFrom_11 : decode cX0_copyFrom 11 = .ok (.aload_n 0, 1) := by decide +kernel
theorem dX0_copyFrom_12 : decode cX0_copyFrom 12 = .ok (.getfield 18, 3) := by decide +kernel
theorem dX0_copyFrom_15 : decode cX0_copyFrom 15 = .ok (.aload_n 1, 1) := by decide +kernel
theorem dX0_copyFrom_16 : decode cX0_copyFrom 16 = .ok (.getfield 18, 3) := by decide +kernel
theorem dX0_copyFrom_19 : decode cX0_copyFrom 19 = .ok (.invokevirtual 21, 3) := by decide +kernel
theorem dX0_copyFrom_22 : decode cX0_copyFrom 22 = .ok (.return_, 1) := by decide +kernel
set_option maxRecDepth 20000 in
theorem ggX0_perform_X0_cutAhead : GoodIn wsX0_perform wsX0_cutAhead := goodIn_r _ [5, 6, 7, 8, 9, 10, 11, 12, 13, 14, 15, 16, 17, 18, 19, 20, 21, 22, 23, 24, 25, 26, 27, 28, 29, 30, 31, 32, 33, 34, 35, 36, 37, 38, 39, 40, 41, 42, 43, 44, 45, 46, 47, 90, 91, 92, 93, 94, 95, 96] (by decide +kernel) (by decide +kernel)
set_option maxRecDepth 20000 in
theorem gX0_perform_X0_cutAhead : GoodIn wsX0_perform (wsV RX0 25 RX0 yX0_cutAhead wsX0_cutAhead) := goodIn_app (goodIn_of _ (by decide +kernel)) ggX0_perform_X0_cutAhead
set_option maxRecDepth 20000 in
theorem ggX0_perform_X0_joinBehind : GoodIn wsX0_perform wsX0_joinBehind := goodIn_r _ [51, 6, 9, 22, 23, 24, 13, 25, 15, 52, 53, 54, 55, 38, 20, 21, 56, 57, 58, 59, 60, 44, 45, 46, 47, 39, 61, 17, 18, 19, 90, 91, 92, 93, 94, 95, 96] (by decide +kernel) (by decide +kernel)
set_option maxRecDepth 20000 in
theorem gX0_perform_X0_joinBehind : GoodIn wsX0_perform (wsV RX0 29 RX0 yX0_joinBehind wsX0_joinBehind) := goodIn_app (goodIn_of _ (by decide +kernel)) ggX0_perform_X0_joinBehind
set_option maxRecDepth 20000 in
theorem ggX0_perform_X0_toCan : GoodIn wsX0_perform wsX0_toCan := goodIn_r _ [65, 6, 66, 67, 8, 7, 9, 22, 23, 24, 13, 25, 15, 30, 31, 32, 33, 34, 35, 36, 37, 38, 21, 20, 39, 40, 41, 42, 43, 44, 45, 46, 47, 68, 69, 70, 71, 72, 58, 59, 60, 56, 73, 74, 75, 76, 90, 91, 92, 93, 94, 95, 96] (by decide +kernel) (by decide +kernel)
set_option maxRecDepth 20000 in
theorem gX0_perform_X0_toCan : GoodIn wsX0_perform (wsV RX0 32 RX0 yX0_toCan wsX0_toCan) := goodIn_app (goodIn_of _ (by decide +kernel)) ggX0_perform_X0_toCan
set_option maxRecDepth 20000 in
theorem ggX0_perform_X0_fromCan : GoodIn wsX0_perform wsX0_fromCan := goodIn_r _ [80, 66, 6, 67, 8, 7, 9, 22, 23, 24, 13, 25, 15, 41, 42, 43, 30, 31, 32, 33, 81, 82, 83, 84, 85, 35, 36, 37, 38, 21, 20, 39, 40, 44, 45, 46, 47, 73, 74, 75, 76, 56, 57, 58, 59, 60, 90, 91, 92, 93, 94, 95, 96] (by decide +kernel) (by decide +kernel)
set_option maxRecDepth 20000 in
theorem gX0_perform_X0_fromCan : GoodIn wsX0_perform (wsV RX0 35 RX0 yX0_fromCan wsX0_fromCan) := goodIn_app (goodIn_of _ (by decide +kernel)) ggX0_perform_X0_fromCan
set_option maxRecDepth 20000 in
theorem ggX0_perform_X0_renumber : GoodIn wsX0_perform wsX0_renumber := goodIn_r _ [89, 6, 8, 7, 9, 22, 23, 24, 13, 25, 15, 68, 69, 70, 71, 72, 58, 59, 60, 56, 44, 45, 46, 47, 38, 21, 20, 39, 73, 74, 75, 76, 81, 82, 83, 84, 85, 35, 36, 37, 40, 31, 32, 33, 41, 42, 43, 26, 27, 28, 29, 16, 17, 18, 19, 90, 91, 92, 93, 94, 95, 96] (by decide +kernel) (by decide +kernel)
set_option maxRecDepth 20000 in
theorem gX0_perform_X0_renumber : GoodIn wsX0_perform (wsV RX0 39 RX0 yX0_renumber wsX0_renumber) := goodIn_app (goodIn_of _ (by decide +kernel)) ggX0_perform_X0_renumber
theorem dX0_perform_0 : decode cX0_perform 0 = .ok (.iload_n 1, 1) := by decide +kernel
theorem dX0_perform_1 : decode cX0_perform 1 = .ok (.lookupswitch 68 #[(99, 43), (105, 61), (106, 49), (111, 55)], 43) := by decide +kernel
theorem dX0_perform_44 : decode cX0_perform 44 = .ok (.aload_n 0, 1) := by decide +kernel
theorem dX0_perform_45 : decode cX0_perform 45 = .ok (.iload_n 2, 1) := by decide +kernel
theorem dX0_perform_46 : decode cX0_perform 46 = .ok (.invokevirtual 25, 3) := by decide +kernel
theorem dX0_perform_49 : decode cX0_perform 49 = .ok (.ireturn, 1) := by decide +kernel
theorem dX0_perform_50 : decode cX0_perform 50 = .ok (.aload_n 0, 1) := by decide +kernel
theorem dX0_perform_51 : decode cX0_perform 51 = .ok (.iload_n 2, 1) := by decide +kernel
theorem dX0_perform_52 : decode cX0_perform 52 = .ok (.invokevirtual 29, 3) := by decide +kernel
theorem dX0_perform_55 : decode cX0_perform 55 = .ok (.ireturn, 1) := by decide +kernel
theorem dX0_perform_56 : decode cX0_perform 56 = .ok (.aload_n 0, 1) := by decide +kernel
theorem dX0_perform_57 : decode cX0_perform 57 = .ok (.iload_n 2, 1) := by decide +kernel
theorem dX0_perform_58 : decode cX0_perform 58 = .ok (.invokevirtual 32, 3) := by decide +kernel
theorem dX0_perform_61 : decode cX0_perform 61 = .ok (.ireturn, 1) := by decide +kernel
theorem dX0_perform_62 : decode cX0_perform 62 = .ok (.aload_n 0, 1) := by decide +kernel
theorem dX0_perform_63 : decode cX0_perform 63 = .ok (.iload_n 2, 1) := by decide +kernel
theorem dX0_perform_64 : decode cX0_perform 64 = .ok (.iload_n 3, 1) := by decide +kernel
theorem dX0_perform_65 : decode cX0_perform 65 = .ok (.invokevirtual 35, 3) := by decide +kernel
theorem dX0_perform_68 : decode cX0_perform 68 = .ok (.ireturn, 1) := by decide +kernel
theorem dX0_perform_69 : decode cX0_perform 69 = .ok (.aload_n 0, 1) := by decide +kernel
theorem dX0_perform_70 : decode cX0_perform 70 = .ok (.iload_n 2, 1) := by decide +kernel
theorem dX0_perform_71 : decode cX0_perform 71 = .ok (.iload_n 3, 1) := by decide +kernel
theorem dX0_perform_72 : decode cX0_perform 72 = .ok (.invokevirtual 39, 3) := by decide +kernel
theorem dX0_perform_75 : decode cX0_perform 75 = .ok (.ireturn, 1) := by decide +kernel
set_option maxRecDepth 20000 in
theorem ggX0_cutAhead_X4_pieceAt : GoodIn wsX0_cutAhead wsX4_pieceAt := goodIn_r _ [9, 10, 11, 12, 13, 8, 14, 15, 16, 45, 46, 47, 48, 49] (by decide +kernel) (by decide +kernel)
set_option maxRecDepth 20000 in
theorem gX0_cutAhead_X4_pieceAt : GoodIn wsX0_cutAhead (wsV RX0 42 RX4 yX4_pieceAt wsX4_pieceAt) := goodIn_app (goodIn_of _ (by decide +kernel)) ggX0_cutAhead_X4_pieceAt
set_option maxRecDepth 20000 in
theorem ggX0_cutAhead_X4_has : GoodIn wsX0_cutAhead wsX4_has := goodIn_r _ [20, 10, 45, 46, 47, 48, 49] (by decide +kernel) (by decide +kernel)
set_option maxRecDepth 20000 in
theorem gX0_cutAhead_X4_has : GoodIn wsX0_cutAhead (wsV RX0 45 RX4 yX4_has wsX4_has) := goodIn_app (goodIn_of _ (by decide +kernel)) ggX0_cutAhead_X4_has
set_option maxRecDepth 20000 in
theorem ggX0_cutAhead_X4_startOf : GoodIn wsX0_cutAhead wsX4_startOf := goodIn_r _ [24, 10, 11, 12, 13, 8, 14, 15, 16, 45, 46, 47, 48, 49] (by decide +kernel) (by decide +kernel)
set_option maxRecDepth 20000 in
theorem gX0_cutAhead_X4_startOf : GoodIn wsX0_cutAhead (wsV RX0 49 RX4 yX4_startOf wsX4_startOf) := goodIn_app (goodIn_of _ (by decide +kernel)) ggX0_cutAhead_X4_startOf
set_option maxRecDepth 20000 in
theorem ggX0_cutAhead_X4_isFull : GoodIn wsX0_cutAhead wsX4_isFull := goodIn_r _ [28, 10, 45, 46, 47, 48, 49] (by decide +kernel) (by decide +kernel)
set_option maxRecDepth 20000 in
theorem gX0_cutAhead_X4_isFull : GoodIn wsX0_cutAhead (wsV RX0 52 RX4 yX4_isFull wsX4_isFull) := goodIn_app (goodIn_of _ (by decide +kernel)) ggX0_cutAhead_X4_isFull
set_option maxRecDepth 20000 in
theorem ggX0_cutAhead_X4_insert : GoodIn wsX0_cutAhead wsX4_insert := goodIn_r _ [32, 10, 33, 16, 15, 34, 35, 26, 27, 8, 28, 36, 37, 38, 39, 40, 41, 42, 45, 46, 47, 48, 49] (by decide +kernel) (by decide +kernel)
set_option maxRecDepth 20000 in
theorem gX0_cutAhead_X4_insert : GoodIn wsX0_cutAhead (wsV RX0 66 RX4 yX4_insert wsX4_insert) := goodIn_app (goodIn_of _ (by decide +kernel)) ggX0_cutAhead_X4_insert
theorem dX0_cutAhead_0 : decode cX0_cutAhead 0 = .ok (.iload_n 1, 1) := by decide +kernel
theorem dX0_cutAhead_1 : decode cX0_cutAhead 1 = .ok (.ifCond .ge 6, 3) := by decide +kernel
theorem dX0_cutAhead_4 : decode cX0_cutAhead 4 = .ok (.bipush (-2), 2) := by decide +kernel
theorem dX0_cutAhead_6 : decode cX0_cutAhead 6 = .ok (.ireturn, 1) := by decide +kernel
theorem dX0_cutAhead_7 : decode cX0_cutAhead 7 = .ok (.aload_n 0, 1) := by decide +kernel
theorem dX0_cutAhead_8 : decode cX0_cutAhead 8 = .ok (.getfield 12, 3) := by decide +kernel
theorem dX0_cutAhead_11 : decode cX0_cutAhead 11 = .ok (.iload_n 1, 1) := by decide +kernel
theorem dX0_cutAhead_12 : decode cX0_cutAhead 12 = .ok (.invokevirtual 42, 3) := by decide +kernel
theorem dX0_cutAhead_15 : decode cX0_cutAhead 15 = .ok (.istore_n 2, 1) := by decide +kernel
theorem dX0_cutAhead_16 : decode cX0_cutAhead 16 = .ok (.aload_n 0, 1) := by decide +kernel
theorem dX0_cutAhead_17 : decode cX0_cutAhead 17 = .ok (.getfield 12, 3) := by decide +kernel
theorem dX0_cutAhead_20 : decode cX0_cutAhead 20 = .ok (.iload_n 2, 1) := by decide +kernel
theorem dX0_cutAhead_21 : decode cX0_cutAhead 21 = .ok (.invokevirtual 45, 3) := by decide +kernel
theorem dX0_cutAhead_24 : decode cX0_cutAhead 24 = .ok (.ifCond .ne 6, 3) := by decide +kernel
theorem dX0_cutAhead_27 : decode cX0_cutAhead 27 = .ok (.bipush (-2), 2) := by decide +kernel
theorem dX0_cutAhead_29 : decode cX0_cutAhead 29 = .ok (.ireturn, 1) := by decide +kernel
theorem dX0_cutAhead_30 : decode cX0_cutAhead 30 = .ok (.iload_n 1, 1) := by decide +kernel
theorem dX0_cutAhead_31 : decode cX0_cutAhead 31 = .ok (.aload_n 0, 1) := by decide +kernel
theorem dX0_cutAhead_32 : decode cX0_cutAhead 32 = .ok (.getfield 12, 3) := by decide +kernel
theorem dX0_cutAhead_35 : decode cX0_cutAhead 35 = .ok (.iload_n 2, 1) := by decide +kernel
theorem dX0_cutAhead_36 : decode cX0_cutAhead 36 = .ok (.invokevirtual 49, 3) := by decide +kernel
theorem dX0_cutAhead_39 : decode cX0_cutAhead 39 = .ok (.isub, 1) := by decide +kernel
theorem dX0_cutAhead_40 : decode cX0_cutAhead 40 = .ok (.istore_n 3, 1) := by decide +kernel
theorem dX0_cutAhead_41 : decode cX0_cutAhead 41 = .ok (.iload_n 3, 1) := by decide +kernel
theorem dX0_cutAhead_42 : decode cX0_cutAhead 42 = .ok (.ifCond .ne 6, 3) := by decide +kernel
theorem dX0_cutAhead_45 : decode cX0_cutAhead 45 = .ok (.bipush (-5), 2) := by decide +kernel
theorem dX0_cutAhead_47 : decode cX0_cutAhead 47 = .ok (.ireturn, 1) := by decide +kernel
theorem dX0_cutAhead_48 : decode cX0_cutAhead 48 = .ok (.aload_n 0, 1) := by decide +kernel
theorem dX0_cutAhead_49 : decode cX0_cutAhead 49 = .ok (.getfield 12, 3) := by decide +kernel
theorem dX0_cutAhead_52 : decode cX0_cutAhead 52 = .ok (.invokevirtual 52, 3) := by decide +kernel
theorem dX0_cutAhead_55 : decode cX0_cutAhead 55 = .ok (.ifCond .eq 6, 3) := by decide +kernel
theorem dX0_cutAhead_58 : decode cX0_cutAhead 58 = .ok (.bipush (-3), 2) := by decide +kernel
theorem dX0_cutAhead_60 : decode cX0_cutAhead 60 = .ok (.ireturn, 1) := by decide +kernel
theorem dX0_cutAhead_61 : decode cX0_cutAhead 61 = .ok (.aload_n 0, 1) := by decide +kernel
theorem dX0_cutAhead_62 : decode cX0_cutAhead 62 = .ok (.getfield 12, 3) := by decide +kernel
theorem dX0_cutAhead_65 : decode cX0_cutAhead 65 = .ok (.getfield 56, 3) := by decide +kernel
theorem dX0_cutAhead_68 : decode cX0_cutAhead 68 = .ok (.iload_n 2, 1) := by decide +kernel
theorem dX0_cutAhead_69 : decode cX0_cutAhead 69 = .ok (.iaload, 1) := by decide +kernel
theorem dX0_cutAhead_70 : decode cX0_cutAhead 70 = .ok (.iload_n 3, 1) := by decide +kernel
theorem dX0_cutAhead_71 : decode cX0_cutAhead 71 = .ok (.iadd, 1) := by decide +kernel
theorem dX0_cutAhead_72 : decode cX0_cutAhead 72 = .ok (.istore 4, 2) := by decide +kernel
theorem dX0_cutAhead_74 : decode cX0_cutAhead 74 = .ok (.aload_n 0, 1) := by decide +kernel
theorem dX0_cutAhead_75 : decode cX0_cutAhead 75 = .ok (.getfield 12, 3) := by decide +kernel
theorem dX0_cutAhead_78 : decode cX0_cutAhead 78 = .ok (.iload_n 2, 1) := by decide +kernel
theorem dX0_cutAhead_79 : decode cX0_cutAhead 79 = .ok (.iconst 1, 1) := by decide +kernel
theorem dX0_cutAhead_80 : decode cX0_cutAhead 80 = .ok (.iadd, 1) := by decide +kernel
theorem dX0_cutAhead_81 : decode cX0_cutAhead 81 = .ok (.aload_n 0, 1) := by decide +kernel
theorem dX0_cutAhead_82 : decode cX0_cutAhead 82 = .ok (.getfield 12, 3) := by decide +kernel
theorem dX0_cutAhead_85 : decode cX0_cutAhead 85 = .ok (.getfield 60, 3) := by decide +kernel
theorem dX0_cutAhead_88 : decode cX0_cutAhead 88 = .ok (.iload_n 2, 1) := by decide +kernel
theorem dX0_cutAhead_89 : decode cX0_cutAhead 89 = .ok (.iaload, 1) := by decide +kernel
theorem dX0_cutAhead_90 : decode cX0_cutAhead 90 = .ok (.iload 4, 2) := by decide +kernel
theorem dX0_cutAhead_92 : decode cX0_cutAhead 92 = .ok (.aload_n 0, 1) := by decide +kernel
theorem dX0_cutAhead_93 : decode cX0_cutAhead 93 = .ok (.getfield 12, 3) := by decide +kernel
theorem dX0_cutAhead_96 : decode cX0_cutAhead 96 = .ok (.getfield 63, 3) := by decide +kernel
theorem dX0_cutAhead_99 : decode cX0_cutAhead 99 = .ok (.iload_n 2, 1) := by decide +kernel
theorem dX0_cutAhead_100 : decode cX0_cutAhead 100 = .ok (.iaload, 1) := by decide +kernel
theorem dX0_cutAhead_101 : decode cX0_cutAhead 101 = .ok (.invokevirtual 66, 3) := by decide +kernel
theorem dX0_cutAhead_104 : decode cX0_cutAhead 104 = .ok (.aload_n 0, 1) := by decide +kernel
theorem dX0_cutAhead_105 : decode cX0_cutAhead 105 = .ok (.getfield 12, 3) := by decide +kernel
theorem dX0_cutAhead_108 : decode cX0_cutAhead 108 = .ok (.getfield 63, 3) := by decide +kernel
theorem dX0_cutAhead_111 : decode cX0_cutAhead 111 = .ok (.iload_n 2, 1) := by decide +kernel
theorem dX0_cutAhead_112 : decode cX0_cutAhead 112 = .ok (.iload 4, 2) := by decide +kernel
theorem dX0_cutAhead_114 : decode cX0_cutAhead 114 = .ok (.iconst 1, 1) := by decide +kernel
theorem dX0_cutAhead_115 : decode cX0_cutAhead 115 = .ok (.isub, 1) := by decide +kernel
theorem dX0_cutAhead_116 : decode cX0_cutAhead 116 = .ok (.iastore, 1) := by decide +kernel
theorem dX0_cutAhead_117 : decode cX0_cutAhead 117 = .ok (.iload_n 2, 1) := by decide +kernel
theorem dX0_cutAhead_118 : decode cX0_cutAhead 118 = .ok (.iconst 1, 1) := by decide +kernel
theorem dX0_cutAhead_119 : decode cX0_cutAhead 119 = .ok (.iadd, 1) := by decide +kernel
theorem dX0_cutAhead_120 : decode cX0_cutAhead 120 = .ok (.ireturn, 1) := by decide +kernel
set_option maxRecDepth 20000 in
theorem ggX0_joinBehind_X4_has : GoodIn wsX0_joinBehind wsX4_has := goodIn_r _ [7, 8, 32, 33, 34, 35, 36] (by decide +kernel) (by decide +kernel)
set_option maxRecDepth 20000 in
theorem gX0_joinBehind_X4_has : GoodIn wsX0_joinBehind (wsV RX0 45 RX4 yX4_has wsX4_has) := goodIn_app (goodIn_of _ (by decide +kernel)) ggX0_joinBehind_X4_has
set_option maxRecDepth 20000 in
theorem ggX0_joinBehind_X4_goesOn : GoodIn wsX0_joinBehind wsX4_goesOn := goodIn_r _ [12, 13, 14, 15, 16, 4, 5, 6, 7, 8, 32, 33, 34, 35, 36] (by decide +kernel) (by decide +kernel)
set_option maxRecDepth 20000 in
theorem gX0_joinBehind_X4_goesOn : GoodIn wsX0_joinBehind (wsV RX0 70 RX4 yX4_goesOn wsX4_goesOn) := goodIn_app (goodIn_of _ (by decide +kernel)) ggX0_joinBehind_X4_goesOn
set_option maxRecDepth 20000 in
theorem ggX0_joinBehind_X4_drop : GoodIn wsX0_joinBehind wsX4_drop := goodIn_r _ [20, 8, 16, 4, 5, 6, 7, 21, 22, 23, 24, 13, 15, 14, 25, 32, 33, 34, 35, 36] (by decide +kernel) (by decide +kernel)
set_option maxRecDepth 20000 in
theorem gX0_joinBehind_X4_drop : GoodIn wsX0_joinBehind (wsV RX0 73 RX4 yX4_drop wsX4_drop) := goodIn_app (goodIn_of _ (by decide +kernel)) ggX0_joinBehind_X4_drop
set_option maxRecDepth 20000 in
theorem ggX0_joinBehind_X4_lengthOf : GoodIn wsX0_joinBehind wsX4_lengthOf := goodIn_r _ [29, 14, 15, 32, 33, 34, 35, 36] (by decide +kernel) (by decide +kernel)
set_option maxRecDepth 20000 in
theorem gX0_joinBehind_X4_lengthOf : GoodIn wsX0_joinBehind (wsV RX0 77 RX4 yX4_lengthOf wsX4_lengthOf) := goodIn_app (goodIn_of _ (by decide +kernel)) ggX0_joinBehind_X4_lengthOf
theorem dX0_joinBehind_0 : decode cX0_joinBehind 0 = .ok (.aload_n 0, 1) := by decide +kernel
theorem dX0_joinBehind_1 : decode cX0_joinBehind 1 = .ok (.getfield 12, 3) := by decide +kernel
theorem dX0_joinBehind_4 : decode cX0_joinBehind 4 = .ok (.iload_n 1, 1) := by decide +kernel
theorem dX0_joinBehind_5 : decode cX0_joinBehind 5 = .ok (.invokevirtual 45, 3) := by decide +kernel
theorem dX0_joinBehind_8 : decode cX0_joinBehind 8 = .ok (.ifCond .ne 5, 3) := by decide +kernel
theorem dX0_joinBehind_11 : decode cX0_joinBehind 11 = .ok (.iconst (-1), 1) := by decide +kernel
theorem dX0_joinBehind_12 : decode cX0_joinBehind 12 = .ok (.ireturn, 1) := by decide +kernel
theorem dX0_joinBehind_13 : decode cX0_joinBehind 13 = .ok (.aload_n 0, 1) := by decide +kernel
theorem dX0_joinBehind_14 : decode cX0_joinBehind 14 = .ok (.getfield 12, 3) := by decide +kernel
theorem dX0_joinBehind_17 : decode cX0_joinBehind 17 = .ok (.iload_n 1, 1) := by decide +kernel
theorem dX0_joinBehind_18 : decode cX0_joinBehind 18 = .ok (.invokevirtual 70, 3) := by decide +kernel
theorem dX0_joinBehind_21 : decode cX0_joinBehind 21 = .ok (.ifCond .ne 6, 3) := by decide +kernel
theorem dX0_joinBehind_24 : decode cX0_joinBehind 24 = .ok (.bipush (-4), 2) := by decide +kernel
theorem dX0_joinBehind_26 : decode cX0_joinBehind 26 = .ok (.ireturn, 1) := by decide +kernel
theorem dX0_joinBehind_27 : decode cX0_joinBehind 27 = .ok (.aload_n 0, 1) := by decide +kernel
theorem dX0_joinBehind_28 : decode cX0_joinBehind 28 = .ok (.getfield 12, 3) := by decide +kernel
theorem dX0_joinBehind_31 : decode cX0_joinBehind 31 = .ok (.getfield 63, 3) := by decide +kernel
theorem dX0_joinBehind_34 : decode cX0_joinBehind 34 = .ok (.iload_n 1, 1) := by decide +kernel
theorem dX0_joinBehind_35 : decode cX0_joinBehind 35 = .ok (.aload_n 0, 1) := by decide +kernel
theorem dX0_joinBehind_36 : decode cX0_joinBehind 36 = .ok (.getfield 12, 3) := by decide +kernel
theorem dX0_joinBehind_39 : decode cX0_joinBehind 39 = .ok (.getfield 63, 3) := by decide +kernel
theorem dX0_joinBehind_42 : decode cX0_joinBehind 42 = .ok (.iload_n 1, 1) := by decide +kernel
theorem dX0_joinBehind_43 : decode cX0_joinBehind 43 = .ok (.iconst 1, 1) := by decide +kernel
theorem dX0_joinBehind_44 : decode cX0_joinBehind 44 = .ok (.iadd, 1) := by decide +kernel
theorem dX0_joinBehind_45 : decode cX0_joinBehind 45 = .ok (.iaload, 1) := by decide +kernel
theorem dX0_joinBehind_46 : decode cX0_joinBehind 46 = .ok (.iastore, 1) := by decide +kernel
theorem dX0_joinBehind_47 : decode cX0_joinBehind 47 = .ok (.aload_n 0, 1) := by decide +kernel
theorem dX0_joinBehind_48 : decode cX0_joinBehind 48 = .ok (.getfield 12, 3) := by decide +kernel
theorem dX0_joinBehind_51 : decode cX0_joinBehind 51 = .ok (.iload_n 1, 1) := by decide +kernel
theorem dX0_joinBehind_52 : decode cX0_joinBehind 52 = .ok (.iconst 1, 1) := by decide +kernel
theorem dX0_joinBehind_53 : decode cX0_joinBehind 53 = .ok (.iadd, 1) := by decide +kernel
theorem dX0_joinBehind_54 : decode cX0_joinBehind 54 = .ok (.invokevirtual 73, 3) := by decide +kernel
theorem dX0_joinBehind_57 : decode cX0_joinBehind 57 = .ok (.aload_n 0, 1) := by decide +kernel
theorem dX0_joinBehind_58 : decode cX0_joinBehind 58 = .ok (.getfield 12, 3) := by decide +kernel
theorem dX0_joinBehind_61 : decode cX0_joinBehind 61 = .ok (.iload_n 1, 1) := by decide +kernel
theorem dX0_joinBehind_62 : decode cX0_joinBehind 62 = .ok (.invokevirtual 77, 3) := by decide +kernel
theorem dX0_joinBehind_65 : decode cX0_joinBehind 65 = .ok (.ireturn, 1) := by decide +kernel
set_option maxRecDepth 20000 in
theorem ggX0_toCan_X4_has : GoodIn wsX0_toCan wsX4_has := goodIn_r _ [11, 12, 48, 49, 50, 51, 52] (by decide +kernel) (by decide +kernel)
set_option maxRecDepth 20000 in
theorem gX0_toCan_X4_has : GoodIn wsX0_toCan (wsV RX0 45 RX4 yX4_has wsX4_has) := goodIn_app (goodIn_of _ (by decide +kernel)) ggX0_toCan_X4_has
set_option maxRecDepth 20000 in
theorem ggX0_toCan_X4_isFull : GoodIn wsX0_toCan wsX4_isFull := goodIn_r _ [16, 12, 48, 49, 50, 51, 52] (by decide +kernel) (by decide +kernel)
set_option maxRecDepth 20000 in
theorem gX0_toCan_X4_isFull : GoodIn wsX0_toCan (wsV RX0 52 RX4 yX4_isFull wsX4_isFull) := goodIn_app (goodIn_of _ (by decide +kernel)) ggX0_toCan_X4_isFull
set_option maxRecDepth 20000 in
theorem ggX0_toCan_X4_insert : GoodIn wsX0_toCan wsX4_insert := goodIn_r _ [20, 12, 21, 22, 23, 24, 25, 14, 15, 10, 16, 26, 27, 28, 29, 30, 31, 32, 48, 49, 50, 51, 52] (by decide +kernel) (by decide +kernel)
set_option maxRecDepth 20000 in
theorem gX0_toCan_X4_insert : GoodIn wsX0_toCan (wsV RX0 66 RX4 yX4_insert wsX4_insert) := goodIn_app (goodIn_of _ (by decide +kernel)) ggX0_toCan_X4_insert
set_option maxRecDepth 20000 in
theorem ggX0_toCan_X4_pullFrom : GoodIn wsX0_toCan wsX4_pullFrom := goodIn_r _ [36, 37, 38, 39, 10, 40, 12, 41, 8, 9, 11, 29, 30, 31, 32, 21, 22, 23, 24, 42, 43, 44, 45, 48, 49, 50, 51, 52] (by decide +kernel) (by decide +kernel)
set_option maxRecDepth 20000 in
theorem gX0_toCan_X4_pullFrom : GoodIn wsX0_toCan (wsV RX0 84 RX4 yX4_pullFrom wsX4_pullFrom) := goodIn_app (goodIn_of _ (by decide +kernel)) ggX0_toCan_X4_pullFrom
theorem dX0_toCan_0 : decode cX0_toCan 0 = .ok (.aload_n 0, 1) := by decide +kernel
theorem dX0_toCan_1 : decode cX0_toCan 1 = .ok (.getfield 12, 3) := by decide +kernel
theorem dX0_toCan_4 : decode cX0_toCan 4 = .ok (.iload_n 1, 1) := by decide +kernel
theorem dX0_toCan_5 : decode cX0_toCan 5 = .ok (.invokevirtual 45, 3) := by decide +kernel
theorem dX0_toCan_8 : decode cX0_toCan 8 = .ok (.ifCond .ne 5, 3) := by decide +kernel
theorem dX0_toCan_11 : decode cX0_toCan 11 = .ok (.iconst (-1), 1) := by decide +kernel
theorem dX0_toCan_12 : decode cX0_toCan 12 = .ok (.ireturn, 1) := by decide +kernel
theorem dX0_toCan_13 : decode cX0_toCan 13 = .ok (.aload_n 0, 1) := by decide +kernel
theorem dX0_toCan_14 : decode cX0_toCan 14 = .ok (.getfield 18, 3) := by decide +kernel
theorem dX0_toCan_17 : decode cX0_toCan 17 = .ok (.invokevirtual 52, 3) := by decide +kernel
theorem dX0_toCan_20 : decode cX0_toCan 20 = .ok (.ifCond .eq 6, 3) := by decide +kernel
theorem dX0_toCan_23 : decode cX0_toCan 23 = .ok (.bipush (-3), 2) := by decide +kernel
theorem dX0_toCan_25 : decode cX0_toCan 25 = .ok (.ireturn, 1) := by decide +kernel
theorem dX0_toCan_26 : decode cX0_toCan 26 = .ok (.aload_n 0, 1) := by decide +kernel
theorem dX0_toCan_27 : decode cX0_toCan 27 = .ok (.getfield 18, 3) := by decide +kernel
theorem dX0_toCan_30 : decode cX0_toCan 30 = .ok (.aload_n 0, 1) := by decide +kernel
theorem dX0_toCan_31 : decode cX0_toCan 31 = .ok (.getfield 18, 3) := by decide +kernel
theorem dX0_toCan_34 : decode cX0_toCan 34 = .ok (.getfield 80, 3) := by decide +kernel
theorem dX0_toCan_37 : decode cX0_toCan 37 = .ok (.aload_n 0, 1) := by decide +kernel
theorem dX0_toCan_38 : decode cX0_toCan 38 = .ok (.getfield 12, 3) := by decide +kernel
theorem dX0_toCan_41 : decode cX0_toCan 41 = .ok (.getfield 60, 3) := by decide +kernel
theorem dX0_toCan_44 : decode cX0_toCan 44 = .ok (.iload_n 1, 1) := by decide +kernel
theorem dX0_toCan_45 : decode cX0_toCan 45 = .ok (.iaload, 1) := by decide +kernel
theorem dX0_toCan_46 : decode cX0_toCan 46 = .ok (.aload_n 0, 1) := by decide +kernel
theorem dX0_toCan_47 : decode cX0_toCan 47 = .ok (.getfield 12, 3) := by decide +kernel
theorem dX0_toCan_50 : decode cX0_toCan 50 = .ok (.getfield 56, 3) := by decide +kernel
theorem dX0_toCan_53 : decode cX0_toCan 53 = .ok (.iload_n 1, 1) := by decide +kernel
theorem dX0_toCan_54 : decode cX0_toCan 54 = .ok (.iaload, 1) := by decide +kernel
theorem dX0_toCan_55 : decode cX0_toCan 55 = .ok (.aload_n 0, 1) := by decide +kernel
theorem dX0_toCan_56 : decode cX0_toCan 56 = .ok (.getfield 12, 3) := by decide +kernel
theorem dX0_toCan_59 : decode cX0_toCan 59 = .ok (.getfield 63, 3) := by decide +kernel
theorem dX0_toCan_62 : decode cX0_toCan 62 = .ok (.iload_n 1, 1) := by decide +kernel
theorem dX0_toCan_63 : decode cX0_toCan 63 = .ok (.iaload, 1) := by decide +kernel
theorem dX0_toCan_64 : decode cX0_toCan 64 = .ok (.invokevirtual 66, 3) := by decide +kernel
theorem dX0_toCan_67 : decode cX0_toCan 67 = .ok (.aload_n 0, 1) := by decide +kernel
theorem dX0_toCan_68 : decode cX0_toCan 68 = .ok (.getfield 12, 3) := by decide +kernel
theorem dX0_toCan_71 : decode cX0_toCan 71 = .ok (.iload_n 1, 1) := by decide +kernel
theorem dX0_toCan_72 : decode cX0_toCan 72 = .ok (.invokevirtual 84, 3) := by decide +kernel
theorem dX0_toCan_75 : decode cX0_toCan 75 = .ok (.aload_n 0, 1) := by decide +kernel
theorem dX0_toCan_76 : decode cX0_toCan 76 = .ok (.getfield 12, 3) := by decide +kernel
theorem dX0_toCan_79 : decode cX0_toCan 79 = .ok (.getfield 80, 3) := by decide +kernel
theorem dX0_toCan_82 : decode cX0_toCan 82 = .ok (.ireturn, 1) := by decide +kernel
set_option maxRecDepth 20000 in
theorem ggX0_fromCan_X4_has : GoodIn wsX0_fromCan wsX4_has := goodIn_r _ [11, 12, 48, 49, 50, 51, 52] (by decide +kernel) (by decide +kernel)
set_option maxRecDepth 20000 in
theorem gX0_fromCan_X4_has : GoodIn wsX0_fromCan (wsV RX0 45 RX4 yX4_has wsX4_has) := goodIn_app (goodIn_of _ (by decide +kernel)) ggX0_fromCan_X4_has
set_option maxRecDepth 20000 in
theorem ggX0_fromCan_X8_isWithin : GoodIn wsX0_fromCan wsX8_isWithin := goodIn_r _ [15] (by decide +kernel) (by decide +kernel)
set_option maxRecDepth 20000 in
theorem gX0_fromCan_X8_isWithin_n87 : GoodIn wsX0_fromCan (wsX8_isWithin) := ggX0_fromCan_X8_isWithin
set_option maxRecDepth 20000 in
theorem ggX0_fromCan_X4_isFull : GoodIn wsX0_fromCan wsX4_isFull := goodIn_r _ [19, 12, 48, 49, 50, 51, 52] (by decide +kernel) (by decide +kernel)
set_option maxRecDepth 20000 in
theorem gX0_fromCan_X4_isFull : GoodIn wsX0_fromCan (wsV RX0 52 RX4 yX4_isFull wsX4_isFull) := goodIn_app (goodIn_of _ (by decide +kernel)) ggX0_fromCan_X4_isFull
set_option maxRecDepth 20000 in
theorem ggX0_fromCan_X4_putAt : GoodIn wsX0_fromCan wsX4_putAt := goodIn_r _ [23, 24, 25, 26, 10, 27, 12, 28, 29, 30, 31, 32, 17, 18, 19, 13, 14, 15, 33, 34, 35, 36, 37, 38, 39, 40, 41, 8, 9, 11, 48, 49, 50, 51, 52] (by decide +kernel) (by decide +kernel)
set_option maxRecDepth 20000 in
theorem gX0_fromCan_X4_putAt : GoodIn wsX0_fromCan (wsV RX0 91 RX4 yX4_putAt wsX4_putAt) := goodIn_app (goodIn_of _ (by decide +kernel)) ggX0_fromCan_X4_putAt
set_option maxRecDepth 20000 in
theorem ggX0_fromCan_X4_drop : GoodIn wsX0_fromCan wsX4_drop := goodIn_r _ [45, 12, 41, 8, 9, 10, 11, 33, 34, 35, 36, 28, 29, 30, 31, 48, 49, 50, 51, 52] (by decide +kernel) (by decide +kernel)
set_option maxRecDepth 20000 in
theorem gX0_fromCan_X4_drop : GoodIn wsX0_fromCan (wsV RX0 73 RX4 yX4_drop wsX4_drop) := goodIn_app (goodIn_of _ (by decide +kernel)) ggX0_fromCan_X4_drop
theorem dX0_fromCan_0 : decode cX0_fromCan 0 = .ok (.aload_n 0, 1) := by decide +kernel
theorem dX0_fromCan_1 : decode cX0_fromCan 1 = .ok (.getfield 18, 3) := by decide +kernel
theorem dX0_fromCan_4 : decode cX0_fromCan 4 = .ok (.iload_n 1, 1) := by decide +kernel
theorem dX0_fromCan_5 : decode cX0_fromCan 5 = .ok (.invokevirtual 45, 3) := by decide +kernel
theorem dX0_fromCan_8 : decode cX0_fromCan 8 = .ok (.ifCond .ne 5, 3) := by decide +kernel
theorem dX0_fromCan_11 : decode cX0_fromCan 11 = .ok (.iconst (-1), 1) := by decide +kernel
theorem dX0_fromCan_12 : decode cX0_fromCan 12 = .ok (.ireturn, 1) := by decide +kernel
theorem dX0_fromCan_13 : decode cX0_fromCan 13 = .ok (.iload_n 2, 1) := by decide +kernel
theorem dX0_fromCan_14 : decode cX0_fromCan 14 = .ok (.iconst 0, 1) := by decide +kernel
theorem dX0_fromCan_15 : decode cX0_fromCan 15 = .ok (.aload_n 0, 1) := by decide +kernel
theorem dX0_fromCan_16 : decode cX0_fromCan 16 = .ok (.getfield 12, 3) := by decide +kernel
theorem dX0_fromCan_19 : decode cX0_fromCan 19 = .ok (.getfield 80, 3) := by decide +kernel
theorem dX0_fromCan_22 : decode cX0_fromCan 22 = .ok (.invokestatic 87, 3) := by decide +kernel
theorem dX0_fromCan_25 : decode cX0_fromCan 25 = .ok (.ifCond .ne 6, 3) := by decide +kernel
theorem dX0_fromCan_28 : decode cX0_fromCan 28 = .ok (.bipush (-2), 2) := by decide +kernel
theorem dX0_fromCan_30 : decode cX0_fromCan 30 = .ok (.ireturn, 1) := by decide +kernel
theorem dX0_fromCan_31 : decode cX0_fromCan 31 = .ok (.aload_n 0, 1) := by decide +kernel
theorem dX0_fromCan_32 : decode cX0_fromCan 32 = .ok (.getfield 12, 3) := by decide +kernel
theorem dX0_fromCan_35 : decode cX0_fromCan 35 = .ok (.invokevirtual 52, 3) := by decide +kernel
theorem dX0_fromCan_38 : decode cX0_fromCan 38 = .ok (.ifCond .eq 6, 3) := by decide +kernel
theorem dX0_fromCan_41 : decode cX0_fromCan 41 = .ok (.bipush (-3), 2) := by decide +kernel
theorem dX0_fromCan_43 : decode cX0_fromCan 43 = .ok (.ireturn, 1) := by decide +kernel
theorem dX0_fromCan_44 : decode cX0_fromCan 44 = .ok (.aload_n 0, 1) := by decide +kernel
theorem dX0_fromCan_45 : decode cX0_fromCan 45 = .ok (.getfield 12, 3) := by decide +kernel
theorem dX0_fromCan_48 : decode cX0_fromCan 48 = .ok (.iload_n 2, 1) := by decide +kernel
theorem dX0_fromCan_49 : decode cX0_fromCan 49 = .ok (.aload_n 0, 1) := by decide +kernel
theorem dX0_fromCan_50 : decode cX0_fromCan 50 = .ok (.getfield 18, 3) := by decide +kernel
theorem dX0_fromCan_53 : decode cX0_fromCan 53 = .ok (.getfield 60, 3) := by decide +kernel
theorem dX0_fromCan_56 : decode cX0_fromCan 56 = .ok (.iload_n 1, 1) := by decide +kernel
theorem dX0_fromCan_57 : decode cX0_fromCan 57 = .ok (.iaload, 1) := by decide +kernel
theorem dX0_fromCan_58 : decode cX0_fromCan 58 = .ok (.aload_n 0, 1) := by decide +kernel
theorem dX0_fromCan_59 : decode cX0_fromCan 59 = .ok (.getfield 18, 3) := by decide +kernel
theorem dX0_fromCan_62 : decode cX0_fromCan 62 = .ok (.getfield 56, 3) := by decide +kernel
theorem dX0_fromCan_65 : decode cX0_fromCan 65 = .ok (.iload_n 1, 1) := by decide +kernel
theorem dX0_fromCan_66 : decode cX0_fromCan 66 = .ok (.iaload, 1) := by decide +kernel
theorem dX0_fromCan_67 : decode cX0_fromCan 67 = .ok (.aload_n 0, 1) := by decide +kernel
theorem dX0_fromCan_68 : decode cX0_fromCan 68 = .ok (.getfield 18, 3) := by decide +kernel
theorem dX0_fromCan_71 : decode cX0_fromCan 71 = .ok (.getfield 63, 3) := by decide +kernel
theorem dX0_fromCan_74 : decode cX0_fromCan 74 = .ok (.iload_n 1, 1) := by decide +kernel
theorem dX0_fromCan_75 : decode cX0_fromCan 75 = .ok (.iaload, 1) := by decide +kernel
theorem dX0_fromCan_76 : decode cX0_fromCan 76 = .ok (.invokevirtual 91, 3) := by decide +kernel
theorem dX0_fromCan_79 : decode cX0_fromCan 79 = .ok (.aload_n 0, 1) := by decide +kernel
theorem dX0_fromCan_80 : decode cX0_fromCan 80 = .ok (.getfield 18, 3) := by decide +kernel
theorem dX0_fromCan_83 : decode cX0_fromCan 83 = .ok (.iload_n 1, 1) := by decide +kernel
theorem dX0_fromCan_84 : decode cX0_fromCan 84 = .ok (.invokevirtual 73, 3) := by decide +kernel
theorem dX0_fromCan_87 : decode cX0_fromCan 87 = .ok (.aload_n 0, 1) := by decide +kernel
theorem dX0_fromCan_88 : decode cX0_fromCan 88 = .ok (.getfield 18, 3) := by decide +kernel
theorem dX0_fromCan_91 : decode cX0_fromCan 91 = .ok (.getfield 80, 3) := by decide +kernel
theorem dX0_fromCan_94 : decode cX0_fromCan 94 = .ok (.ireturn, 1) := by decide +kernel
set_option maxRecDepth 20000 in
theorem ggX0_renumber_X4_has : GoodIn wsX0_renumber wsX4_has := goodIn_r _ [9, 10, 57, 58, 59, 60, 61] (by decide +kernel) (by decide +kernel)
set_option maxRecDepth 20000 in
theorem gX0_renumber_X4_has : GoodIn wsX0_renumber (wsV RX0 45 RX4 yX4_has wsX4_has) := goodIn_app (goodIn_of _ (by decide +kernel)) ggX0_renumber_X4_has
set_option maxRecDepth 20000 in
theorem ggX0_renumber_X4_pullFrom : GoodIn wsX0_renumber wsX4_pullFrom := goodIn_r _ [14, 15, 16, 17, 8, 18, 10, 19, 6, 7, 9, 20, 21, 22, 23, 24, 25, 26, 27, 28, 29, 30, 31, 57, 58, 59, 60, 61] (by decide +kernel) (by decide +kernel)
set_option maxRecDepth 20000 in
theorem gX0_renumber_X4_pullFrom : GoodIn wsX0_renumber (wsV RX0 84 RX4 yX4_pullFrom wsX4_pullFrom) := goodIn_app (goodIn_of _ (by decide +kernel)) ggX0_renumber_X4_pullFrom
set_option maxRecDepth 20000 in
theorem ggX0_renumber_X4_putAt : GoodIn wsX0_renumber wsX4_putAt := goodIn_r _ [35, 36, 37, 38, 8, 39, 10, 24, 25, 26, 27, 40, 41, 42, 43, 44, 45, 46, 20, 21, 22, 23, 28, 29, 30, 31, 19, 6, 7, 9, 57, 58, 59, 60, 61] (by decide +kernel) (by decide +kernel)
set_option maxRecDepth 20000 in
theorem gX0_renumber_X4_putAt : GoodIn wsX0_renumber (wsV RX0 91 RX4 yX4_putAt wsX4_putAt) := goodIn_app (goodIn_of _ (by decide +kernel)) ggX0_renumber_X4_putAt
set_option maxRecDepth 20000 in
theorem ggX0_renumber_X4_startOf : GoodIn wsX0_renumber wsX4_startOf := goodIn_r _ [50, 10, 51, 52, 53, 8, 54, 26, 25, 57, 58, 59, 60, 61] (by decide +kernel) (by decide +kernel)
set_option maxRecDepth 20000 in
theorem gX0_renumber_X4_startOf : GoodIn wsX0_renumber (wsV RX0 49 RX4 yX4_startOf wsX4_startOf) := goodIn_app (goodIn_of _ (by decide +kernel)) ggX0_renumber_X4_startOf
theorem dX0_renumber_0 : decode cX0_renumber 0 = .ok (.aload_n 0, 1) := by decide +kernel
theorem dX0_renumber_1 : decode cX0_renumber 1 = .ok (.getfield 12, 3) := by decide +kernel
theorem dX0_renumber_4 : decode cX0_renumber 4 = .ok (.iload_n 1, 1) := by decide +kernel
theorem dX0_renumber_5 : decode cX0_renumber 5 = .ok (.invokevirtual 45, 3) := by decide +kernel
theorem dX0_renumber_8 : decode cX0_renumber 8 = .ok (.ifCond .eq 14, 3) := by decide +kernel
theorem dX0_renumber_11 : decode cX0_renumber 11 = .ok (.aload_n 0, 1) := by decide +kernel
theorem dX0_renumber_12 : decode cX0_renumber 12 = .ok (.getfield 12, 3) := by decide +kernel
theorem dX0_renumber_15 : decode cX0_renumber 15 = .ok (.iload_n 2, 1) := by decide +kernel
theorem dX0_renumber_16 : decode cX0_renumber 16 = .ok (.invokevirtual 45, 3) := by decide +kernel
theorem dX0_renumber_19 : decode cX0_renumber 19 = .ok (.ifCond .ne 5, 3) := by decide +kernel
theorem dX0_renumber_22 : decode cX0_renumber 22 = .ok (.iconst (-1), 1) := by decide +kernel
theorem dX0_renumber_23 : decode cX0_renumber 23 = .ok (.ireturn, 1) := by decide +kernel
theorem dX0_renumber_24 : decode cX0_renumber 24 = .ok (.iload_n 1, 1) := by decide +kernel
theorem dX0_renumber_25 : decode cX0_renumber 25 = .ok (.iload_n 2, 1) := by decide +kernel
theorem dX0_renumber_26 : decode cX0_renumber 26 = .ok (.if_icmp .ne 6, 3) := by decide +kernel
theorem dX0_renumber_29 : decode cX0_renumber 29 = .ok (.bipush (-5), 2) := by decide +kernel
theorem dX0_renumber_31 : decode cX0_renumber 31 = .ok (.ireturn, 1) := by decide +kernel
theorem dX0_renumber_32 : decode cX0_renumber 32 = .ok (.aload_n 0, 1) := by decide +kernel
theorem dX0_renumber_33 : decode cX0_renumber 33 = .ok (.getfield 12, 3) := by decide +kernel
theorem dX0_renumber_36 : decode cX0_renumber 36 = .ok (.getfield 60, 3) := by decide +kernel
theorem dX0_renumber_39 : decode cX0_renumber 39 = .ok (.iload_n 1, 1) := by decide +kernel
theorem dX0_renumber_40 : decode cX0_renumber 40 = .ok (.iaload, 1) := by decide +kernel
theorem dX0_renumber_41 : decode cX0_renumber 41 = .ok (.istore_n 3, 1) := by decide +kernel
theorem dX0_renumber_42 : decode cX0_renumber 42 = .ok (.aload_n 0, 1) := by decide +kernel
theorem dX0_renumber_43 : decode cX0_renumber 43 = .ok (.getfield 12, 3) := by decide +kernel
theorem dX0_renumber_46 : decode cX0_renumber 46 = .ok (.getfield 56, 3) := by decide +kernel
theorem dX0_renumber_49 : decode cX0_renumber 49 = .ok (.iload_n 1, 1) := by decide +kernel
theorem dX0_renumber_50 : decode cX0_renumber 50 = .ok (.iaload, 1) := by decide +kernel
theorem dX0_renumber_51 : decode cX0_renumber 51 = .ok (.istore 4, 2) := by decide +kernel
theorem dX0_renumber_53 : decode cX0_renumber 53 = .ok (.aload_n 0, 1) := by decide +kernel
theorem dX0_renumber_54 : decode cX0_renumber 54 = .ok (.getfield 12, 3) := by decide +kernel
theorem dX0_renumber_57 : decode cX0_renumber 57 = .ok (.getfield 63, 3) := by decide +kernel
theorem dX0_renumber_60 : decode cX0_renumber 60 = .ok (.iload_n 1, 1) := by decide +kernel
theorem dX0_renumber_61 : decode cX0_renumber 61 = .ok (.iaload, 1) := by decide +kernel
theorem dX0_renumber_62 : decode cX0_renumber 62 = .ok (.istore 5, 2) := by decide +kernel
theorem dX0_renumber_64 : decode cX0_renumber 64 = .ok (.aload_n 0, 1) := by decide +kernel
theorem dX0_renumber_65 : decode cX0_renumber 65 = .ok (.getfield 12, 3) := by decide +kernel
theorem dX0_renumber_68 : decode cX0_renumber 68 = .ok (.iload_n 1, 1) := by decide +kernel
theorem dX0_renumber_69 : decode cX0_renumber 69 = .ok (.invokevirtual 84, 3) := by decide +kernel
theorem dX0_renumber_72 : decode cX0_renumber 72 = .ok (.aload_n 0, 1) := by decide +kernel
theorem dX0_renumber_73 : decode cX0_renumber 73 = .ok (.getfield 12, 3) := by decide +kernel
theorem dX0_renumber_76 : decode cX0_renumber 76 = .ok (.iload_n 2, 1) := by decide +kernel
theorem dX0_renumber_77 : decode cX0_renumber 77 = .ok (.iload_n 3, 1) := by decide +kernel
theorem dX0_renumber_78 : decode cX0_renumber 78 = .ok (.iload 4, 2) := by decide +kernel
theorem dX0_renumber_80 : decode cX0_renumber 80 = .ok (.iload 5, 2) := by decide +kernel
theorem dX0_renumber_82 : decode cX0_renumber 82 = .ok (.invokevirtual 91, 3) := by decide +kernel
theorem dX0_renumber_85 : decode cX0_renumber 85 = .ok (.aload_n 0, 1) := by decide +kernel
theorem dX0_renumber_86 : decode cX0_renumber 86 = .ok (.getfield 12, 3) := by decide +kernel
theorem dX0_renumber_89 : decode cX0_renumber 89 = .ok (.iload_n 2, 1) := by decide +kernel
theorem dX0_renumber_90 : decode cX0_renumber 90 = .ok (.invokevirtual 49, 3) := by decide +kernel
theorem dX0_renumber_93 : decode cX0_renumber 93 = .ok (.ireturn, 1) := by decide +kernel
theorem dX1_init_0 : decode cX1_init 0 = .ok (.aload_n 0, 1) := by decide +kernel
theorem dX1_init_1 : decode cX1_init 1 = .ok (.invokespecial 3, 3) := by decide +kernel
theorem dX1_init_4 : decode cX1_init 4 = .ok (.aload_n 0, 1) := by decide +kernel
theorem dX1_init_5 : decode cX1_init 5 = .ok (.bipush 20, 2) := by decide +kernel
theorem dX1_init_7 : decode cX1_init 7 = .ok (.newarray .int, 2) := by decide +kernel
theorem dX1_init_9 : decode cX1_init 9 = .ok (.putfield 9, 3) := by decide +kernel
theorem dX1_init_12 : decode cX1_init 12 = .ok (.aload_n 0, 1) := by decide +kernel
theorem dX1_init_13 : decode cX1_init 13 = .ok (.bipush 20, 2) := by decide +kernel
theorem dX1_init_15 : decode cX1_init 15 = .ok (.newarray .int, 2) := by decide +kernel
theorem dX1_init_17 : decode cX1_init 17 = .ok (.putfield 15, 3) := by decide +kernel
theorem dX1_init_20 : decode cX1_init 20 = .ok (.aload_n 0, 1) := by decide +kernel
theorem dX1_init_21 : decode cX1_init 21 = .ok (.bipush 20, 2) := by decide +kernel
theorem dX1_init_23 : decode cX1_init 23 = .ok (.newarray .int, 2) := by decide +kernel
theorem dX1_init_25 : decode cX1_init 25 = .ok (.putfield 18, 3) := by decide +kernel
theorem dX1_init_28 : decode cX1_init 28 = .ok (.aload_n 0, 1) := by decide +kernel
theorem dX1_init_29 : decode cX1_init 29 = .ok (.bipush 60, 2) := by decide +kernel
theorem dX1_init_31 : decode cX1_init 31 = .ok (.newarray .char, 2) := by decide +kernel
theorem dX1_init_33 : decode cX1_init 33 = .ok (.putfield 21, 3) := by decide +kernel
theorem dX1_init_36 : decode cX1_init 36 = .ok (.return_, 1) := by decide +kernel
theorem dX1_append_0 : decode cX1_append 0 = .ok (.aload_n 0, 1) := by decide +kernel
theorem dX1_append_1 : decode cX1_append 1 = .ok (.getfield 25, 3) := by decide +kernel
theorem dX1_append_4 : decode cX1_append 4 = .ok (.bipush 60, 2) := by decide +kernel
theorem dX1_append_6 : decode cX1_append 6 = .ok (.if_icmp .ge 23, 3) := by decide +kernel
theorem dX1_append_9 : decode cX1_append 9 = .ok (.aload_n 0, 1) := by decide +kernel
theorem dX1_append_10 : decode cX1_append 10 = .ok (.getfield 21, 3) := by decide +kernel
theorem dX1_append_13 : decode cX1_append 13 = .ok (.aload_n 0, 1) := by decide +kernel
theorem dX1_append_14 : decode cX1_append 14 = .ok (.getfield 25, 3) := by decide +kernel
theorem dX1_append_17 : decode cX1_append 17 = .ok (.iload_n 1, 1) := by decide +kernel
theorem dX1_append_18 : decode cX1_append 18 = .ok (.castore, 1) := by decide +kernel
theorem dX1_append_19 : decode cX1_append 19 = .ok (.aload_n 0, 1) := by decide +kernel
theorem dX1_append_20 : decode cX1_append 20 = .ok (.dup, 1) := by decide +kernel
theorem dX1_append_21 : decode cX1_append 21 = .ok (.getfield 25, 3) := by decide +kernel
theorem dX1_append_24 : decode cX1_append 24 = .ok (.iconst 1, 1) := by decide +kernel
theorem dX1_append_25 : decode cX1_append 25 = .ok (.iadd, 1) := by decide +kernel
theorem dX1_append_26 : decode cX1_append 26 = .ok (.putfield 25, 3) := by decide +kernel
theorem dX1_append_29 : decode cX1_append 29 = .ok (.return_, 1) := by decide +kernel
set_option maxRecDepth 20000 in
theorem ggX1_readEdits_X1_readEdit : GoodIn wsX1_readEdits wsX1_readEdit := goodIn_r _ [8, 2, 9, 10, 11, 12, 7, 13, 3, 14, 15, 16, 17, 18, 19, 20, 21, 22, 23, 24, 25, 26, 27, 28, 29, 30, 31, 32, 33, 1, 34, 35, 36, 37, 38, 39, 40, 41, 42, 43, 44] (by decide +kernel) (by decide +kernel)
set_option maxRecDepth 20000 in
theorem gX1_readEdits_X1_readEdit : GoodIn wsX1_readEdits (wsV RX1 35 RX1 yX1_readEdit wsX1_readEdit) := goodIn_app (goodIn_of _ (by decide +kernel)) ggX1_readEdits_X1_readEdit
set_option maxRecDepth 20000 in
theorem ggX1_readEdits_X1_readSign : GoodIn wsX1_readEdits wsX1_readSign := goodIn_r _ [29, 2, 10, 11, 12, 7, 13, 3, 14, 37, 38, 39, 40, 41, 42, 43, 44] (by decide +kernel) (by decide +kernel)
set_option maxRecDepth 20000 in
theorem gX1_readEdits_X1_readSign : GoodIn wsX1_readEdits (wsV RX1 39 RX1 yX1_readSign wsX1_readSign) := goodIn_app (goodIn_of _ (by decide +kernel)) ggX1_readEdits_X1_readSign
theorem dX1_readEdits_0 : decode cX1_readEdits 0 = .ok (.aload_n 0, 1) := by decide +kernel
theorem dX1_readEdits_1 : decode cX1_readEdits 1 = .ok (.iconst 0, 1) := by decide +kernel
theorem dX1_readEdits_2 : decode cX1_readEdits 2 = .ok (.putfield 29, 3) := by decide +kernel
theorem dX1_readEdits_5 : decode cX1_readEdits 5 = .ok (.aload_n 0, 1) := by decide +kernel
theorem dX1_readEdits_6 : decode cX1_readEdits 6 = .ok (.iconst 0, 1) := by decide +kernel
theorem dX1_readEdits_7 : decode cX1_readEdits 7 = .ok (.putfield 32, 3) := by decide +kernel
theorem dX1_readEdits_10 : decode cX1_readEdits 10 = .ok (.aload_n 0, 1) := by decide +kernel
theorem dX1_readEdits_11 : decode cX1_readEdits 11 = .ok (.invokevirtual 35, 3) := by decide +kernel
theorem dX1_readEdits_14 : decode cX1_readEdits 14 = .ok (.istore_n 1, 1) := by decide +kernel
theorem dX1_readEdits_15 : decode cX1_readEdits 15 = .ok (.iconst 0, 1) := by decide +kernel
theorem dX1_readEdits_16 : decode cX1_readEdits 16 = .ok (.istore_n 2, 1) := by decide +kernel
theorem dX1_readEdits_17 : decode cX1_readEdits 17 = .ok (.iload_n 2, 1) := by decide +kernel
theorem dX1_readEdits_18 : decode cX1_readEdits 18 = .ok (.bipush 60, 2) := by decide +kernel
theorem dX1_readEdits_20 : decode cX1_readEdits 20 = .ok (.if_icmp .ge 46, 3) := by decide +kernel
theorem dX1_readEdits_23 : decode cX1_readEdits 23 = .ok (.iload_n 1, 1) := by decide +kernel
theorem dX1_readEdits_24 : decode cX1_readEdits 24 = .ok (.ifCond .eq 42, 3) := by decide +kernel
theorem dX1_readEdits_27 : decode cX1_readEdits 27 = .ok (.aload_n 0, 1) := by decide +kernel
theorem dX1_readEdits_28 : decode cX1_readEdits 28 = .ok (.getfield 32, 3) := by decide +kernel
theorem dX1_readEdits_31 : decode cX1_readEdits 31 = .ok (.aload_n 0, 1) := by decide +kernel
theorem dX1_readEdits_32 : decode cX1_readEdits 32 = .ok (.getfield 25, 3) := by decide +kernel
theorem dX1_readEdits_35 : decode cX1_readEdits 35 = .ok (.if_icmp .ge 31, 3) := by decide +kernel
theorem dX1_readEdits_38 : decode cX1_readEdits 38 = .ok (.aload_n 0, 1) := by decide +kernel
theorem dX1_readEdits_39 : decode cX1_readEdits 39 = .ok (.bipush 59, 2) := by decide +kernel
theorem dX1_readEdits_41 : decode cX1_readEdits 41 = .ok (.invokevirtual 39, 3) := by decide +kernel
theorem dX1_readEdits_44 : decode cX1_readEdits 44 = .ok (.ifCond .eq 14, 3) := by decide +kernel
theorem dX1_readEdits_47 : decode cX1_readEdits 47 = .ok (.aload_n 0, 1) := by decide +kernel
theorem dX1_readEdits_48 : decode cX1_readEdits 48 = .ok (.invokevirtual 35, 3) := by decide +kernel
theorem dX1_readEdits_51 : decode cX1_readEdits 51 = .ok (.ifCond .eq 7, 3) := by decide +kernel
theorem dX1_readEdits_54 : decode cX1_readEdits 54 = .ok (.iconst 1, 1) := by decide +kernel
theorem dX1_readEdits_55 : decode cX1_readEdits 55 = .ok (.goto 4, 3) := by decide +kernel
theorem dX1_readEdits_58 : decode cX1_readEdits 58 = .ok (.iconst 0, 1) := by decide +kernel
theorem dX1_readEdits_59 : decode cX1_readEdits 59 = .ok (.istore_n 1, 1) := by decide +kernel
theorem dX1_readEdits_60 : decode cX1_readEdits 60 = .ok (.iinc 2 1, 3) := by decide +kernel
theorem dX1_readEdits_63 : decode cX1_readEdits 63 = .ok (.goto (-46), 3) := by decide +kernel
theorem dX1_readEdits_66 : decode cX1_readEdits 66 = .ok (.iload_n 1, 1) := by decide +kernel
theorem dX1_readEdits_67 : decode cX1_readEdits 67 = .ok (.ifCond .eq 7, 3) := by decide +kernel
theorem dX1_readEdits_70 : decode cX1_readEdits 70 = .ok (.iconst (-1), 1) := by decide +kernel
theorem dX1_readEdits_71 : decode cX1_readEdits 71 = .ok (.goto 7, 3) := by decide +kernel
theorem dX1_readEdits_74 : decode cX1_readEdits 74 = .ok (.aload_n 0, 1) := by decide +kernel
theorem dX1_readEdits_75 : decode cX1_readEdits 75 = .ok (.getfield 32, 3) := by decide +kernel
theorem dX1_readEdits_78 : decode cX1_readEdits 78 = .ok (.ireturn, 1) := by decide +kernel
set_option maxRecDepth 20000 in
theorem ggX1_readEdit_X1_signHere : GoodIn wsX1_readEdit wsX1_signHere := goodIn_r _ [7, 1, 8, 9, 33, 34, 35, 36, 37, 38, 39, 40] (by decide +kernel) (by decide +kernel)
set_option maxRecDepth 20000 in
theorem gX1_readEdit_X1_signHere : GoodIn wsX1_readEdit (wsV RX1 43 RX1 yX1_signHere wsX1_signHere) := goodIn_app (goodIn_of _ (by decide +kernel)) ggX1_readEdit_X1_signHere
set_option maxRecDepth 20000 in
theorem ggX1_readEdit_X1_readNumber : GoodIn wsX1_readEdit wsX1_readNumber := goodIn_r _ [13, 2, 1, 14, 15, 16, 6, 17, 3, 4, 5, 7, 8, 9, 18, 19, 20, 33, 34, 35, 36, 37, 38, 39, 40] (by decide +kernel) (by decide +kernel)
set_option maxRecDepth 20000 in
theorem gX1_readEdit_X1_readNumber : GoodIn wsX1_readEdit (wsV RX1 47 RX1 yX1_readNumber wsX1_readNumber) := goodIn_app (goodIn_of _ (by decide +kernel)) ggX1_readEdit_X1_readNumber
set_option maxRecDepth 20000 in
theorem ggX1_readEdit_X1_readSign : GoodIn wsX1_readEdit wsX1_readSign := goodIn_r _ [24, 1, 3, 4, 5, 6, 7, 8, 9, 33, 34, 35, 36, 37, 38, 39, 40] (by decide +kernel) (by decide +kernel)
set_option maxRecDepth 20000 in
theorem gX1_readEdit_X1_readSign : GoodIn wsX1_readEdit (wsV RX1 39 RX1 yX1_readSign wsX1_readSign) := goodIn_app (goodIn_of _ (by decide +kernel)) ggX1_readEdit_X1_readSign
set_option maxRecDepth 20000 in
theorem ggX1_readEdit_X1_addEdit : GoodIn wsX1_readEdit wsX1_addEdit := goodIn_r _ [28, 29, 30, 31, 32, 33, 34, 35, 36, 37, 38, 39, 40] (by decide +kernel) (by decide +kernel)
set_option maxRecDepth 20000 in
theorem gX1_readEdit_X1_addEdit : GoodIn wsX1_readEdit (wsV RX1 53 RX1 yX1_addEdit wsX1_addEdit) := goodIn_app (goodIn_of _ (by decide +kernel)) ggX1_readEdit_X1_addEdit
theorem dX1_readEdit_0 : decode cX1_readEdit 0 = .ok (.aload_n 0, 1) := by decide +kernel
theorem dX1_readEdit_1 : decode cX1_readEdit 1 = .ok (.invokevirtual 43, 3) := by decide +kernel
theorem dX1_readEdit_4 : decode cX1_readEdit 4 = .ok (.istore_n 1, 1) := by decide +kernel
theorem dX1_readEdit_5 : decode cX1_readEdit 5 = .ok (.iload_n 1, 1) := by decide +kernel
theorem dX1_readEdit_6 : decode cX1_readEdit 6 = .ok (.bipush 105, 2) := by decide +kernel
theorem dX1_readEdit_8 : decode cX1_readEdit 8 = .ok (.if_icmp .eq 9, 3) := by decide +kernel
theorem dX1_readEdit_11 : decode cX1_readEdit 11 = .ok (.iload_n 1, 1) := by decide +kernel
theorem dX1_readEdit_12 : decode cX1_readEdit 12 = .ok (.bipush 109, 2) := by decide +kernel
theorem dX1_readEdit_14 : decode cX1_readEdit 14 = .ok (.if_icmp .ne 7, 3) := by decide +kernel
theorem dX1_readEdit_17 : decode cX1_readEdit 17 = .ok (.iconst 1, 1) := by decide +kernel
theorem dX1_readEdit_18 : decode cX1_readEdit 18 = .ok (.goto 4, 3) := by decide +kernel
theorem dX1_readEdit_21 : decode cX1_readEdit 21 = .ok (.iconst 0, 1) := by decide +kernel
theorem dX1_readEdit_22 : decode cX1_readEdit 22 = .ok (.istore_n 2, 1) := by decide +kernel
theorem dX1_readEdit_23 : decode cX1_readEdit 23 = .ok (.iload_n 2, 1) := by decide +kernel
theorem dX1_readEdit_24 : decode cX1_readEdit 24 = .ok (.ifCond .ne 23, 3) := by decide +kernel
theorem dX1_readEdit_27 : decode cX1_readEdit 27 = .ok (.iload_n 1, 1) := by decide +kernel
theorem dX1_readEdit_28 : decode cX1_readEdit 28 = .ok (.bipush 99, 2) := by decide +kernel
theorem dX1_readEdit_30 : decode cX1_readEdit 30 = .ok (.if_icmp .eq 17, 3) := by decide +kernel
theorem dX1_readEdit_33 : decode cX1_readEdit 33 = .ok (.iload_n 1, 1) := by decide +kernel
theorem dX1_readEdit_34 : decode cX1_readEdit 34 = .ok (.bipush 106, 2) := by decide +kernel
theorem dX1_readEdit_36 : decode cX1_readEdit 36 = .ok (.if_icmp .eq 11, 3) := by decide +kernel
theorem dX1_readEdit_39 : decode cX1_readEdit 39 = .ok (.iload_n 1, 1) := by decide +kernel
theorem dX1_readEdit_40 : decode cX1_readEdit 40 = .ok (.bipush 111, 2) := by decide +kernel
theorem dX1_readEdit_42 : decode cX1_readEdit 42 = .ok (.if_icmp .eq 5, 3) := by decide +kernel
theorem dX1_readEdit_45 : decode cX1_readEdit 45 = .ok (.iconst 0, 1) := by decide +kernel
theorem dX1_readEdit_46 : decode cX1_readEdit 46 = .ok (.ireturn, 1) := by decide +kernel
theorem dX1_readEdit_47 : decode cX1_readEdit 47 = .ok (.aload_n 0, 1) := by decide +kernel
theorem dX1_readEdit_48 : decode cX1_readEdit 48 = .ok (.dup, 1) := by decide +kernel
theorem dX1_readEdit_49 : decode cX1_readEdit 49 = .ok (.getfield 32, 3) := by decide +kernel
theorem dX1_readEdit_52 : decode cX1_readEdit 52 = .ok (.iconst 1, 1) := by decide +kernel
theorem dX1_readEdit_53 : decode cX1_readEdit 53 = .ok (.iadd, 1) := by decide +kernel
theorem dX1_readEdit_54 : decode cX1_readEdit 54 = .ok (.putfield 32, 3) := by decide +kernel
theorem dX1_readEdit_57 : decode cX1_readEdit 57 = .ok (.aload_n 0, 1) := by decide +kernel
theorem dX1_readEdit_58 : decode cX1_readEdit 58 = .ok (.invokevirtual 47, 3) := by decide +kernel
theorem dX1_readEdit_61 : decode cX1_readEdit 61 = .ok (.ifCond .ne 5, 3) := by decide +kernel
theorem dX1_readEdit_64 : decode cX1_readEdit 64 = .ok (.iconst 0, 1) := by decide +kernel
theorem dX1_readEdit_65 : decode cX1_readEdit 65 = .ok (.ireturn, 1) := by decide +kernel
theorem dX1_readEdit_66 : decode cX1_readEdit 66 = .ok (.aload_n 0, 1) := by decide +kernel
theorem dX1_readEdit_67 : decode cX1_readEdit 67 = .ok (.getfield 50, 3) := by decide +kernel
theorem dX1_readEdit_70 : decode cX1_readEdit 70 = .ok (.istore_n 3, 1) := by decide +kernel
theorem dX1_readEdit_71 : decode cX1_readEdit 71 = .ok (.iload_n 2, 1) := by decide +kernel
theorem dX1_readEdit_72 : decode cX1_readEdit 72 = .ok (.ifCond .eq 21, 3) := by decide +kernel
theorem dX1_readEdit_75 : decode cX1_readEdit 75 = .ok (.aload_n 0, 1) := by decide +kernel
theorem dX1_readEdit_76 : decode cX1_readEdit 76 = .ok (.bipush 44, 2) := by decide +kernel
theorem dX1_readEdit_78 : decode cX1_readEdit 78 = .ok (.invokevirtual 39, 3) := by decide +kernel
theorem dX1_readEdit_81 : decode cX1_readEdit 81 = .ok (.ifCond .eq 10, 3) := by decide +kernel
theorem dX1_readEdit_84 : decode cX1_readEdit 84 = .ok (.aload_n 0, 1) := by decide +kernel
theorem dX1_readEdit_85 : decode cX1_readEdit 85 = .ok (.invokevirtual 47, 3) := by decide +kernel
theorem dX1_readEdit_88 : decode cX1_readEdit 88 = .ok (.ifCond .ne 5, 3) := by decide +kernel
theorem dX1_readEdit_91 : decode cX1_readEdit 91 = .ok (.iconst 0, 1) := by decide +kernel
theorem dX1_readEdit_92 : decode cX1_readEdit 92 = .ok (.ireturn, 1) := by decide +kernel
theorem dX1_readEdit_93 : decode cX1_readEdit 93 = .ok (.aload_n 0, 1) := by decide +kernel
theorem dX1_readEdit_94 : decode cX1_readEdit 94 = .ok (.iload_n 1, 1) := by decide +kernel
theorem dX1_readEdit_95 : decode cX1_readEdit 95 = .ok (.iload_n 3, 1) := by decide +kernel
theorem dX1_readEdit_96 : decode cX1_readEdit 96 = .ok (.iload_n 2, 1) := by decide +kernel
theorem dX1_readEdit_97 : decode cX1_readEdit 97 = .ok (.ifCond .eq 10, 3) := by decide +kernel
theorem dX1_readEdit_100 : decode cX1_readEdit 100 = .ok (.aload_n 0, 1) := by decide +kernel
theorem dX1_readEdit_101 : decode cX1_readEdit 101 = .ok (.getfield 50, 3) := by decide +kernel
theorem dX1_readEdit_104 : decode cX1_readEdit 104 = .ok (.goto 4, 3) := by decide +kernel
theorem dX1_readEdit_107 : decode cX1_readEdit 107 = .ok (.iconst 0, 1) := by decide +kernel
theorem dX1_readEdit_108 : decode cX1_readEdit 108 = .ok (.invokevirtual 53, 3) := by decide +kernel
theorem dX1_readEdit_111 : decode cX1_readEdit 111 = .ok (.iconst 1, 1) := by decide +kernel
theorem dX1_readEdit_112 : decode cX1_readEdit 112 = .ok (.ireturn, 1) := by decide +kernel
theorem dX1_addEdit_0 : decode cX1_addEdit 0 = .ok (.aload_n 0, 1) := by decide +kernel
theorem dX1_addEdit_1 : decode cX1_addEdit 1 = .ok (.getfield 29, 3) := by decide +kernel
theorem dX1_addEdit_4 : decode cX1_addEdit 4 = .ok (.bipush 20, 2) := by decide +kernel
theorem dX1_addEdit_6 : decode cX1_addEdit 6 = .ok (.if_icmp .ge 43, 3) := by decide +kernel
theorem dX1_addEdit_9 : decode cX1_addEdit 9 = .ok (.aload_n 0, 1) := by decide +kernel
theorem dX1_addEdit_10 : decode cX1_addEdit 10 = .ok (.getfield 9, 3) := by decide +kernel
theorem dX1_addEdit_13 : decode cX1_addEdit 13 = .ok (.aload_n 0, 1) := by decide +kernel
theorem dX1_addEdit_14 : decode cX1_addEdit 14 = .ok (.getfield 29, 3) := by decide +kernel
theorem dX1_addEdit_17 : decode cX1_addEdit 17 = .ok (.iload_n 1, 1) := by decide +kernel
theorem dX1_addEdit_18 : decode cX1_addEdit 18 = .ok (.iastore, 1) := by decide +kernel
theorem dX1_addEdit_19 : decode cX1_addEdit 19 = .ok (.aload_n 0, 1) := by decide +kernel
theorem dX1_addEdit_20 : decode cX1_addEdit 20 = .ok (.getfield 15, 3) := by decide +kernel
theorem dX1_addEdit_23 : decode cX1_addEdit 23 = .ok (.aload_n 0, 1) := by decide +kernel
theorem dX1_addEdit_24 : decode cX1_addEdit 24 = .ok (.getfield 29, 3) := by decide +kernel
theorem dX1_addEdit_27 : decode cX1_addEdit 27 = .ok (.iload_n 2, 1) := by decide +kernel
theorem dX1_addEdit_28 : decode cX1_addEdit 28 = .ok (.iastore, 1) := by decide +kernel
theorem dX1_addEdit_29 : decode cX1_addEdit 29 = .ok (.aload_n 0, 1) := by decide +kernel
theorem dX1_addEdit_30 : decode cX1_addEdit 30 = .ok (.getfield 18, 3) := by decide +kernel
theorem dX1_addEdit_33 : decode cX1_addEdit 33 = .ok (.aload_n 0, 1) := by decide +kernel
theorem dX1_addEdit_34 : decode cX1_addEdit 34 = .ok (.getfield 29, 3) := by decide +kernel
theorem dX1_addEdit_37 : decode cX1_addEdit 37 = .ok (.iload_n 3, 1) := by decide +kernel
theorem dX1_addEdit_38 : decode cX1_addEdit 38 = .ok (.iastore, 1) := by decide +kernel
theorem dX1_addEdit_39 : decode cX1_addEdit 39 = .ok (.aload_n 0, 1) := by decide +kernel
theorem dX1_addEdit_40 : decode cX1_addEdit 40 = .ok (.dup, 1) := by decide +kernel
theorem dX1_addEdit_41 : decode cX1_addEdit 41 = .ok (.getfield 29, 3) := by decide +kernel
theorem dX1_addEdit_44 : decode cX1_addEdit 44 = .ok (.iconst 1, 1) := by decide +kernel
theorem dX1_addEdit_45 : decode cX1_addEdit 45 = .ok (.iadd, 1) := by decide +kernel
theorem dX1_addEdit_46 : decode cX1_addEdit 46 = .ok (.putfield 29, 3) := by decide +kernel
theorem dX1_addEdit_49 : decode cX1_addEdit 49 = .ok (.return_, 1) := by decide +kernel
set_option maxRecDepth 20000 in
theorem ggX1_readSign_X1_signHere : GoodIn wsX1_readSign wsX1_signHere := goodIn_r _ [6, 1, 7, 8, 9, 10, 11, 12, 13, 14, 15, 16] (by decide +kernel) (by decide +kernel)
set_option maxRecDepth 20000 in
theorem gX1_readSign_X1_signHere : GoodIn wsX1_readSign (wsV RX1 43 RX1 yX1_signHere wsX1_signHere) := goodIn_app (goodIn_of _ (by decide +kernel)) ggX1_readSign_X1_signHere
theorem dX1_readSign_0 : decode cX1_readSign 0 = .ok (.aload_n 0, 1) := by decide +kernel
theorem dX1_readSign_1 : decode cX1_readSign 1 = .ok (.invokevirtual 43, 3) := by decide +kernel
theorem dX1_readSign_4 : decode cX1_readSign 4 = .ok (.iload_n 1, 1) := by decide +kernel
theorem dX1_readSign_5 : decode cX1_readSign 5 = .ok (.if_icmp .eq 5, 3) := by decide +kernel
theorem dX1_readSign_8 : decode cX1_readSign 8 = .ok (.iconst 0, 1) := by decide +kernel
theorem dX1_readSign_9 : decode cX1_readSign 9 = .ok (.ireturn, 1) := by decide +kernel
theorem dX1_readSign_10 : decode cX1_readSign 10 = .ok (.aload_n 0, 1) := by decide +kernel
theorem dX1_readSign_11 : decode cX1_readSign 11 = .ok (.dup, 1) := by decide +kernel
theorem dX1_readSign_12 : decode cX1_readSign 12 = .ok (.getfield 32, 3) := by decide +kernel
theorem dX1_readSign_15 : decode cX1_readSign 15 = .ok (.iconst 1, 1) := by decide +kernel
theorem dX1_readSign_16 : decode cX1_readSign 16 = .ok (.iadd, 1) := by decide +kernel
theorem dX1_readSign_17 : decode cX1_readSign 17 = .ok (.putfield 32, 3) := by decide +kernel
theorem dX1_readSign_20 : decode cX1_readSign 20 = .ok (.iconst 1, 1) := by decide +kernel
theorem dX1_readSign_21 : decode cX1_readSign 21 = .ok (.ireturn, 1) := by decide +kernel
set_option maxRecDepth 20000 in
theorem ggX1_readNumber_X1_isDigitHere : GoodIn wsX1_readNumber wsX1_isDigitHere := goodIn_r _ [7, 8, 9, 10, 6, 11, 2, 12, 13, 14, 15, 16, 17, 18, 19, 20, 21, 22, 23, 24] (by decide +kernel) (by decide +kernel)
set_option maxRecDepth 20000 in
theorem gX1_readNumber_X1_isDigitHere : GoodIn wsX1_readNumber (wsV RX1 57 RX1 yX1_isDigitHere wsX1_isDigitHere) := goodIn_app (goodIn_of _ (by decide +kernel)) ggX1_readNumber_X1_isDigitHere
set_option maxRecDepth 20000 in
theorem ggX1_readNumber_X1_signHere : GoodIn wsX1_readNumber wsX1_signHere := goodIn_r _ [11, 2, 12, 13, 17, 18, 19, 20, 21, 22, 23, 24] (by decide +kernel) (by decide +kernel)
set_option maxRecDepth 20000 in
theorem gX1_readNumber_X1_signHere : GoodIn wsX1_readNumber (wsV RX1 43 RX1 yX1_signHere wsX1_signHere) := goodIn_app (goodIn_of _ (by decide +kernel)) ggX1_readNumber_X1_signHere
theorem dX1_readNumber_0 : decode cX1_readNumber 0 = .ok (.aload_n 0, 1) := by decide +kernel
theorem dX1_readNumber_1 : decode cX1_readNumber 1 = .ok (.invokevirtual 57, 3) := by decide +kernel
theorem dX1_readNumber_4 : decode cX1_readNumber 4 = .ok (.ifCond .ne 5, 3) := by decide +kernel
theorem dX1_readNumber_7 : decode cX1_readNumber 7 = .ok (.iconst 0, 1) := by decide +kernel
theorem dX1_readNumber_8 : decode cX1_readNumber 8 = .ok (.ireturn, 1) := by decide +kernel
theorem dX1_readNumber_9 : decode cX1_readNumber 9 = .ok (.aload_n 0, 1) := by decide +kernel
theorem dX1_readNumber_10 : decode cX1_readNumber 10 = .ok (.iconst 0, 1) := by decide +kernel
theorem dX1_readNumber_11 : decode cX1_readNumber 11 = .ok (.putfield 50, 3) := by decide +kernel
theorem dX1_readNumber_14 : decode cX1_readNumber 14 = .ok (.aload_n 0, 1) := by decide +kernel
theorem dX1_readNumber_15 : decode cX1_readNumber 15 = .ok (.invokevirtual 43, 3) := by decide +kernel
theorem dX1_readNumber_18 : decode cX1_readNumber 18 = .ok (.bipush 48, 2) := by decide +kernel
theorem dX1_readNumber_20 : decode cX1_readNumber 20 = .ok (.if_icmp .ne 7, 3) := by decide +kernel
theorem dX1_readNumber_23 : decode cX1_readNumber 23 = .ok (.iconst 1, 1) := by decide +kernel
theorem dX1_readNumber_24 : decode cX1_readNumber 24 = .ok (.goto 4, 3) := by decide +kernel
theorem dX1_readNumber_27 : decode cX1_readNumber 27 = .ok (.iconst 3, 1) := by decide +kernel
theorem dX1_readNumber_28 : decode cX1_readNumber 28 = .ok (.istore_n 1, 1) := by decide +kernel
theorem dX1_readNumber_29 : decode cX1_readNumber 29 = .ok (.iconst 0, 1) := by decide +kernel
theorem dX1_readNumber_30 : decode cX1_readNumber 30 = .ok (.istore_n 2, 1) := by decide +kernel
theorem dX1_readNumber_31 : decode cX1_readNumber 31 = .ok (.iload_n 2, 1) := by decide +kernel
theorem dX1_readNumber_32 : decode cX1_readNumber 32 = .ok (.iload_n 1, 1) := by decide +kernel
theorem dX1_readNumber_33 : decode cX1_readNumber 33 = .ok (.if_icmp .ge 45, 3) := by decide +kernel
theorem dX1_readNumber_36 : decode cX1_readNumber 36 = .ok (.aload_n 0, 1) := by decide +kernel
theorem dX1_readNumber_37 : decode cX1_readNumber 37 = .ok (.invokevirtual 57, 3) := by decide +kernel
theorem dX1_readNumber_40 : decode cX1_readNumber 40 = .ok (.ifCond .eq 38, 3) := by decide +kernel
theorem dX1_readNumber_43 : decode cX1_readNumber 43 = .ok (.aload_n 0, 1) := by decide +kernel
theorem dX1_readNumber_44 : decode cX1_readNumber 44 = .ok (.aload_n 0, 1) := by decide +kernel
theorem dX1_readNumber_45 : decode cX1_readNumber 45 = .ok (.getfield 50, 3) := by decide +kernel
theorem dX1_readNumber_48 : decode cX1_readNumber 48 = .ok (.bipush 10, 2) := by decide +kernel
theorem dX1_readNumber_50 : decode cX1_readNumber 50 = .ok (.imul, 1) := by decide +kernel
theorem dX1_readNumber_51 : decode cX1_readNumber 51 = .ok (.aload_n 0, 1) := by decide +kernel
theorem dX1_readNumber_52 : decode cX1_readNumber 52 = .ok (.invokevirtual 43, 3) := by decide +kernel
theorem dX1_readNumber_55 : decode cX1_readNumber 55 = .ok (.iadd, 1) := by decide +kernel
theorem dX1_readNumber_56 : decode cX1_readNumber 56 = .ok (.bipush 48, 2) := by decide +kernel
theorem dX1_readNumber_58 : decode cX1_readNumber 58 = .ok (.isub, 1) := by decide +kernel
theorem dX1_readNumber_59 : decode cX1_readNumber 59 = .ok (.putfield 50, 3) := by decide +kernel
theorem dX1_readNumber_62 : decode cX1_readNumber 62 = .ok (.aload_n 0, 1) := by decide +kernel
theorem dX1_readNumber_63 : decode cX1_readNumber 63 = .ok (.dup, 1) := by decide +kernel
theorem dX1_readNumber_64 : decode cX1_readNumber 64 = .ok (.getfield 32, 3) := by decide +kernel
theorem dX1_readNumber_67 : decode cX1_readNumber 67 = .ok (.iconst 1, 1) := by decide +kernel
theorem dX1_readNumber_68 : decode cX1_readNumber 68 = .ok (.iadd, 1) := by decide +kernel
theorem dX1_readNumber_69 : decode cX1_readNumber 69 = .ok (.putfield 32, 3) := by decide +kernel
theorem dX1_readNumber_72 : decode cX1_readNumber 72 = .ok (.iinc 2 1, 3) := by decide +kernel
theorem dX1_readNumber_75 : decode cX1_readNumber 75 = .ok (.goto (-44), 3) := by decide +kernel
theorem dX1_readNumber_78 : decode cX1_readNumber 78 = .ok (.iconst 1, 1) := by decide +kernel
theorem dX1_readNumber_79 : decode cX1_readNumber 79 = .ok (.ireturn, 1) := by decide +kernel
set_option maxRecDepth 20000 in
theorem ggX1_isDigitHere_X1_signHere : GoodIn wsX1_isDigitHere wsX1_signHere := goodIn_r _ [5, 6, 7, 8, 12, 13, 14, 15, 16, 17, 18, 19] (by decide +kernel) (by decide +kernel)
set_option maxRecDepth 20000 in
theorem gX1_isDigitHere_X1_signHere : GoodIn wsX1_isDigitHere (wsV RX1 43 RX1 yX1_signHere wsX1_signHere) := goodIn_app (goodIn_of _ (by decide +kernel)) ggX1_isDigitHere_X1_signHere
set_option maxRecDepth 20000 in
theorem ggX1_isDigitHere_X8_isWithin : GoodIn wsX1_isDigitHere wsX8_isWithin := goodIn_r _ [11] (by decide +kernel) (by decide +kernel)
set_option maxRecDepth 20000 in
theorem gX1_isDigitHere_X8_isWithin_n60 : GoodIn wsX1_isDigitHere (wsX8_isWithin) := ggX1_isDigitHere_X8_isWithin
theorem dX1_isDigitHere_0 : decode cX1_isDigitHere 0 = .ok (.aload_n 0, 1) := by decide +kernel
theorem dX1_isDigitHere_1 : decode cX1_isDigitHere 1 = .ok (.invokevirtual 43, 3) := by decide +kernel
theorem dX1_isDigitHere_4 : decode cX1_isDigitHere 4 = .ok (.bipush 48, 2) := by decide +kernel
theorem dX1_isDigitHere_6 : decode cX1_isDigitHere 6 = .ok (.bipush 57, 2) := by decide +kernel
theorem dX1_isDigitHere_8 : decode cX1_isDigitHere 8 = .ok (.invokestatic 60, 3) := by decide +kernel
theorem dX1_isDigitHere_11 : decode cX1_isDigitHere 11 = .ok (.ireturn, 1) := by decide +kernel
theorem dX1_signHere_0 : decode cX1_signHere 0 = .ok (.aload_n 0, 1) := by decide +kernel
theorem dX1_signHere_1 : decode cX1_signHere 1 = .ok (.getfield 32, 3) := by decide +kernel
theorem dX1_signHere_4 : decode cX1_signHere 4 = .ok (.aload_n 0, 1) := by decide +kernel
theorem dX1_signHere_5 : decode cX1_signHere 5 = .ok (.getfield 25, 3) := by decide +kernel
theorem dX1_signHere_8 : decode cX1_signHere 8 = .ok (.if_icmp .ge 24, 3) := by decide +kernel
theorem dX1_signHere_11 : decode cX1_signHere 11 = .ok (.aload_n 0, 1) := by decide +kernel
theorem dX1_signHere_12 : decode cX1_signHere 12 = .ok (.getfield 32, 3) := by decide +kernel
theorem dX1_signHere_15 : decode cX1_signHere 15 = .ok (.bipush 60, 2) := by decide +kernel
theorem dX1_signHere_17 : decode cX1_signHere 17 = .ok (.if_icmp .ge 15, 3) := by decide +kernel
theorem dX1_signHere_20 : decode cX1_signHere 20 = .ok (.aload_n 0, 1) := by decide +kernel
theorem dX1_signHere_21 : decode cX1_signHere 21 = .ok (.getfield 21, 3) := by decide +kernel
theorem dX1_signHere_24 : decode cX1_signHere 24 = .ok (.aload_n 0, 1) := by decide +kernel
theorem dX1_signHere_25 : decode cX1_signHere 25 = .ok (.getfield 32, 3) := by decide +kernel
theorem dX1_signHere_28 : decode cX1_signHere 28 = .ok (.caload, 1) := by decide +kernel
theorem dX1_signHere_29 : decode cX1_signHere 29 = .ok (.goto 5, 3) := by decide +kernel
theorem dX1_signHere_32 : decode cX1_signHere 32 = .ok (.bipush (-5), 2) := by decide +kernel
theorem dX1_signHere_34 : decode cX1_signHere 34 = .ok (.ireturn, 1) := by decide +kernel
set_option maxRecDepth 20000 in
theorem ggX2_init_X6_init : GoodIn wsX2_init wsX6_init := goodIn_r _ [23, 24, 2, 3, 25, 26, 27, 28, 29, 56, 57, 58, 59, 60] (by decide +kernel) (by decide +kernel)
set_option maxRecDepth 20000 in
theorem gX2_init_X6_init_n11 : GoodIn wsX2_init (wsX6_init) := ggX2_init_X6_init
set_option maxRecDepth 20000 in
theorem ggX2_init_X0_init : GoodIn wsX2_init wsX0_init := goodIn_r _ [31, 32, 2, 3, 33, 34, 35, 36, 37, 38, 39, 40, 25, 41, 42, 43, 44, 77, 78, 79, 80, 81, 69, 70] (by decide +kernel) (by decide +kernel)
set_option maxRecDepth 20000 in
theorem gX2_init_X0_init_n20 : GoodIn wsX2_init (wsX0_init) := ggX2_init_X0_init
set_option maxRecDepth 20000 in
theorem ggX2_init_X7_init : GoodIn wsX2_init wsX7_init := goodIn_r _ [46, 47, 2, 3, 25, 48, 49, 50, 71, 72, 73, 74] (by decide +kernel) (by decide +kernel)
set_option maxRecDepth 20000 in
theorem gX2_init_X7_init_n33 : GoodIn wsX2_init (wsX7_init) := ggX2_init_X7_init
set_option maxRecDepth 20000 in
theorem ggX2_init_X5_init : GoodIn wsX2_init wsX5_init := goodIn_r _ [52, 53, 2, 3, 25, 54, 55, 75, 76] (by decide +kernel) (by decide +kernel)
set_option maxRecDepth 20000 in
theorem gX2_init_X5_init_n45 : GoodIn wsX2_init (wsX5_init) := ggX2_init_X5_init
theorem dX2_init_0 : decode cX2_init 0 = .ok (.aload_n 0, 1) := by decide +kernel
theorem dX2_init_1 : decode cX2_init 1 = .ok (.invokespecial 3, 3) := by decide +kernel
theorem dX2_init_4 : decode cX2_init 4 = .ok (.aload_n 0, 1) := by decide +kernel
theorem dX2_init_5 : decode cX2_init 5 = .ok (.new 9, 3) := by decide +kernel
theorem dX2_init_8 : decode cX2_init 8 = .ok (.dup, 1) := by decide +kernel
theorem dX2_init_9 : decode cX2_init 9 = .ok (.invokespecial 11, 3) := by decide +kernel
theorem dX2_init_12 : decode cX2_init 12 = .ok (.putfield 12, 3) := by decide +kernel
theorem dX2_init_15 : decode cX2_init 15 = .ok (.aload_n 0, 1) := by decide +kernel
theorem dX2_init_16 : decode cX2_init 16 = .ok (.new 18, 3) := by decide +kernel
theorem dX2_init_19 : decode cX2_init 19 = .ok (.dup, 1) := by decide +kernel
theorem dX2_init_20 : decode cX2_init 20 = .ok (.invokespecial 20, 3) := by decide +kernel
theorem dX2_init_23 : decode cX2_init 23 = .ok (.putfield 21, 3) := by decide +kernel
theorem dX2_init_26 : decode cX2_init 26 = .ok (.aload_n 0, 1) := by decide +kernel
theorem dX2_init_27 : decode cX2_init 27 = .ok (.bipush 10, 2) := by decide +kernel
theorem dX2_init_29 : decode cX2_init 29 = .ok (.anewarray 25, 3) := by decide +kernel
theorem dX2_init_32 : decode cX2_init 32 = .ok (.putfield 27, 3) := by decide +kernel
theorem dX2_init_35 : decode cX2_init 35 = .ok (.aload_n 0, 1) := by decide +kernel
theorem dX2_init_36 : decode cX2_init 36 = .ok (.new 31, 3) := by decide +kernel
theorem dX2_init_39 : decode cX2_init 39 = .ok (.dup, 1) := by decide +kernel
theorem dX2_init_40 : decode cX2_init 40 = .ok (.invokespecial 33, 3) := by decide +kernel
theorem dX2_init_43 : decode cX2_init 43 = .ok (.putfield 34, 3) := by decide +kernel
theorem dX2_init_46 : decode cX2_init 46 = .ok (.aload_n 0, 1) := by decide +kernel
theorem dX2_init_47 : decode cX2_init 47 = .ok (.iconst 3, 1) := by decide +kernel
theorem dX2_init_48 : decode cX2_init 48 = .ok (.putfield 38, 3) := by decide +kernel
theorem dX2_init_51 : decode cX2_init 51 = .ok (.aload_n 0, 1) := by decide +kernel
theorem dX2_init_52 : decode cX2_init 52 = .ok (.iconst 5, 1) := by decide +kernel
theorem dX2_init_53 : decode cX2_init 53 = .ok (.putfield 42, 3) := by decide +kernel
theorem dX2_init_56 : decode cX2_init 56 = .ok (.iconst 0, 1) := by decide +kernel
theorem dX2_init_57 : decode cX2_init 57 = .ok (.istore_n 1, 1) := by decide +kernel
theorem dX2_init_58 : decode cX2_init 58 = .ok (.iload_n 1, 1) := by decide +kernel
theorem dX2_init_59 : decode cX2_init 59 = .ok (.bipush 10, 2) := by decide +kernel
theorem dX2_init_61 : decode cX2_init 61 = .ok (.if_icmp .ge 22, 3) := by decide +kernel
theorem dX2_init_64 : decode cX2_init 64 = .ok (.aload_n 0, 1) := by decide +kernel
theorem dX2_init_65 : decode cX2_init 65 = .ok (.getfield 27, 3) := by decide +kernel
theorem dX2_init_68 : decode cX2_init 68 = .ok (.iload_n 1, 1) := by decide +kernel
theorem dX2_init_69 : decode cX2_init 69 = .ok (.new 25, 3) := by decide +kernel
theorem dX2_init_72 : decode cX2_init 72 = .ok (.dup, 1) := by decide +kernel
theorem dX2_init_73 : decode cX2_init 73 = .ok (.invokespecial 45, 3) := by decide +kernel
theorem dX2_init_76 : decode cX2_init 76 = .ok (.aastore, 1) := by decide +kernel
theorem dX2_init_77 : decode cX2_init 77 = .ok (.iinc 1 1, 3) := by decide +kernel
theorem dX2_init_80 : decode cX2_init 80 = .ok (.goto (-22), 3) := by decide +kernel
theorem dX2_init_83 : decode cX2_init 83 = .ok (.return_, 1) := by decide +kernel
set_option maxRecDepth 20000 in
theorem ggX2_copyFrom_X6_copyFrom : GoodIn wsX2_copyFrom wsX6_copyFrom := goodIn_r _ [15, 16, 17, 18, 19, 20, 21, 22, 23, 24, 64, 65, 66, 67, 68] (by decide +kernel) (by decide +kernel)
set_option maxRecDepth 20000 in
theorem gX2_copyFrom_X6_copyFrom : GoodIn wsX2_copyFrom (wsV RX2 46 RX6 yX6_copyFrom wsX6_copyFrom) := goodIn_app (goodIn_of _ (by decide +kernel)) ggX2_copyFrom_X6_copyFrom
set_option maxRecDepth 20000 in
theorem ggX2_copyFrom_X4_copyFrom : GoodIn wsX2_copyFrom wsX4_copyFrom := goodIn_r _ [29, 30, 31, 32, 19, 20, 21, 33, 34, 35, 69, 70, 71, 72, 73] (by decide +kernel) (by decide +kernel)
set_option maxRecDepth 20000 in
theorem gX2_copyFrom_X4_copyFrom : GoodIn wsX2_copyFrom (wsV RX2 54 RX4 yX4_copyFrom wsX4_copyFrom) := goodIn_app (goodIn_of _ (by decide +kernel)) ggX2_copyFrom_X4_copyFrom
set_option maxRecDepth 20000 in
theorem ggX2_copyFrom_X7_copyFrom : GoodIn wsX2_copyFrom wsX7_copyFrom := goodIn_r _ [40, 41, 42, 43, 19, 20, 21, 44, 45, 74, 75, 76, 77] (by decide +kernel) (by decide +kernel)
set_option maxRecDepth 20000 in
theorem gX2_copyFrom_X7_copyFrom : GoodIn wsX2_copyFrom (wsV RX2 62 RX7 yX7_copyFrom wsX7_copyFrom) := goodIn_app (goodIn_of _ (by decide +kernel)) ggX2_copyFrom_X7_copyFrom
set_option maxRecDepth 20000 in
theorem ggX2_copyFrom_X5_copyFrom : GoodIn wsX2_copyFrom wsX5_copyFrom := goodIn_r _ [50, 51, 52, 19, 20, 21, 53, 78, 79] (by decide +kernel) (by decide +kernel)
set_option maxRecDepth 20000 in
theorem gX2_copyFrom_X5_copyFrom : GoodIn wsX2_copyFrom (wsV RX2 71 RX5 yX5_copyFrom wsX5_copyFrom) := goodIn_app (goodIn_of _ (by decide +kernel)) ggX2_copyFrom_X5_copyFrom
theorem dX2_copyFrom_0 : decode cX2_copyFrom 0 = .ok (.aload_n 0, 1) := by decide +kernel
theorem dX2_copyFrom_1 : decode cX2_copyFrom 1 = .ok (.getfield 12, 3) := by decide +kernel
theorem dX2_copyFrom_4 : decode cX2_copyFrom 4 = .ok (.aload_n 1, 1) := by decide +kernel
theorem dX2_copyFrom_5 : decode cX2_copyFrom 5 = .ok (.getfield 12, 3) := by decide +kernel
theorem dX2_copyFrom_8 : decode cX2_copyFrom 8 = .ok (.invokevirtual 46, 3) := by decide +kernel
theorem dX2_copyFrom_11 : decode cX2_copyFrom 11 = .ok (.aload_n 0, 1) := by decide +kernel
theorem dX2_copyFrom_12 : decode cX2_copyFrom 12 = .ok (.getfield 21, 3) := by decide +kernel
theorem dX2_copyFrom_15 : decode cX2_copyFrom 15 = .ok (.getfield 50, 3) := by decide +kernel
theorem dX2_copyFrom_18 : decode cX2_copyFrom 18 = .ok (.aload_n 1, 1) := by decide +kernel
theorem dX2_copyFrom_19 : decode cX2_copyFrom 19 = .ok (.getfield 21, 3) := by decide +kernel
theorem dX2_copyFrom_22 : decode cX2_copyFrom 22 = .ok (.getfield 50, 3) := by decide +kernel
theorem dX2_copyFrom_25 : decode cX2_copyFrom 25 = .ok (.invokevirtual 54, 3) := by decide +kernel
theorem dX2_copyFrom_28 : decode cX2_copyFrom 28 = .ok (.aload_n 0, 1) := by decide +kernel
theorem dX2_copyFrom_29 : decode cX2_copyFrom 29 = .ok (.getfield 21, 3) := by decide +kernel
theorem dX2_copyFrom_32 : decode cX2_copyFrom 32 = .ok (.getfield 59, 3) := by decide +kernel
theorem dX2_copyFrom_35 : decode cX2_copyFrom 35 = .ok (.aload_n 1, 1) := by decide +kernel
theorem dX2_copyFrom_36 : decode cX2_copyFrom 36 = .ok (.getfield 21, 3) := by decide +kernel
theorem dX2_copyFrom_39 : decode cX2_copyFrom 39 = .ok (.getfield 59, 3) := by decide +kernel
theorem dX2_copyFrom_42 : decode cX2_copyFrom 42 = .ok (.invokevirtual 54, 3) := by decide +kernel
theorem dX2_copyFrom_45 : decode cX2_copyFrom 45 = .ok (.aload_n 0, 1) := by decide +kernel
theorem dX2_copyFrom_46 : decode cX2_copyFrom 46 = .ok (.getfield 34, 3) := by decide +kernel
theorem dX2_copyFrom_49 : decode cX2_copyFrom 49 = .ok (.aload_n 1, 1) := by decide +kernel
theorem dX2_copyFrom_50 : decode cX2_copyFrom 50 = .ok (.getfield 34, 3) := by decide +kernel
theorem dX2_copyFrom_53 : decode cX2_copyFrom 53 = .ok (.invokevirtual 62, 3) := by decide +kernel
theorem dX2_copyFrom_56 : decode cX2_copyFrom 56 = .ok (.aload_n 0, 1) := by decide +kernel
theorem dX2_copyFrom_57 : decode cX2_copyFrom 57 = .ok (.aload_n 1, 1) := by decide +kernel
theorem dX2_copyFrom_58 : decode cX2_copyFrom 58 = .ok (.getfield 65, 3) := by decide +kernel
theorem dX2_copyFrom_61 : decode cX2_copyFrom 61 = .ok (.putfield 65, 3) := by decide +kernel
theorem dX2_copyFrom_64 : decode cX2_copyFrom 64 = .ok (.aload_n 0, 1) := by decide +kernel
theorem dX2_copyFrom_65 : decode cX2_copyFrom 65 = .ok (.aload_n 1, 1) := by decide +kernel
theorem dX2_copyFrom_66 : decode cX2_copyFrom 66 = .ok (.getfield 68, 3) := by decide +kernel
theorem dX2_copyFrom_69 : decode cX2_copyFrom 69 = .ok (.putfield 68, 3) := by decide +kernel
theorem dX2_copyFrom_72 : decode cX2_copyFrom 72 = .ok (.aload_n 0, 1) := by decide +kernel
theorem dX2_copyFrom_73 : decode cX2_copyFrom 73 = .ok (.aload_n 1, 1) := by decide +kernel
theorem dX2_copyFrom_74 : decode cX2_copyFrom 74 = .ok (.getfield 38, 3) := by decide +kernel
theorem dX2_copyFrom_77 : decode cX2_copyFrom 77 = .ok (.putfield 38, 3) := by decide +kernel
theorem dX2_copyFrom_80 : decode cX2_copyFrom 80 = .ok (.aload_n 0, 1) := by decide +kernel
theorem dX2_copyFrom_81 : decode cX2_copyFrom 81 = .ok (.aload_n 1, 1) := by decide +kernel
theorem dX2_copyFrom_82 : decode cX2_copyFrom 82 = .ok (.getfield 42, 3) := by decide +kernel
theorem dX2_copyFrom_85 : decode cX2_copyFrom 85 = .ok (.putfield 42, 3) := by decide +kernel
theorem dX2_copyFrom_88 : decode cX2_copyFrom 88 = .ok (.iconst 0, 1) := by decide +kernel
theorem dX2_copyFrom_89 : decode cX2_copyFrom 89 = .ok (.istore_n 2, 1) := by decide +kernel
theorem dX2_copyFrom_90 : decode cX2_copyFrom 90 = .ok (.iload_n 2, 1) := by decide +kernel
theorem dX2_copyFrom_91 : decode cX2_copyFrom 91 = .ok (.aload_n 0, 1) := by decide +kernel
theorem dX2_copyFrom_92 : decode cX2_copyFrom 92 = .ok (.getfield 65, 3) := by decide +kernel
theorem dX2_copyFrom_95 : decode cX2_copyFrom 95 = .ok (.if_icmp .ge 30, 3) := by decide +kernel
theorem dX2_copyFrom_98 : decode cX2_copyFrom 98 = .ok (.iload_n 2, 1) := by decide +kernel
theorem dX2_copyFrom_99 : decode cX2_copyFrom 99 = .ok (.bipush 10, 2) := by decide +kernel
theorem dX2_copyFrom_101 : decode cX2_copyFrom 101 = .ok (.if_icmp .ge 24, 3) := by decide +kernel
theorem dX2_copyFrom_104 : decode cX2_copyFrom 104 = .ok (.aload_n 0, 1) := by decide +kernel
theorem dX2_copyFrom_105 : decode cX2_copyFrom 105 = .ok (.getfield 27, 3) := by decide +kernel
theorem dX2_copyFrom_108 : decode cX2_copyFrom 108 = .ok (.iload_n 2, 1) := by decide +kernel
theorem dX2_copyFrom_109 : decode cX2_copyFrom 109 = .ok (.aaload, 1) := by decide +kernel
theorem dX2_copyFrom_110 : decode cX2_copyFrom 110 = .ok (.aload_n 1, 1) := by decide +kernel
theorem dX2_copyFrom_111 : decode cX2_copyFrom 111 = .ok (.getfield 27, 3) := by decide +kernel
theorem dX2_copyFrom_114 : decode cX2_copyFrom 114 = .ok (.iload_n 2, 1) := by decide +kernel
theorem dX2_copyFrom_115 : decode cX2_copyFrom 115 = .ok (.aaload, 1) := by decide +kernel
theorem dX2_copyFrom_116 : decode cX2_copyFrom 116 = .ok (.invokevirtual 71, 3) := by decide +kernel
theorem dX2_copyFrom_119 : decode cX2_copyFrom 119 = .ok (.iinc 2 1, 3) := by decide +kernel
theorem dX2_copyFrom_122 : decode cX2_copyFrom 122 = .ok (.goto (-32), 3) := by decide +kernel
theorem dX2_copyFrom_125 : decode cX2_copyFrom 125 = .ok (.return_, 1) := by decide +kernel
theorem dX2_hasShow_0 : decode cX2_hasShow 0 = .ok (.iload_n 1, 1) := by decide +kernel
theorem dX2_hasShow_1 : decode cX2_hasShow 1 = .ok (.ifCond .lt 15, 3) := by decide +kernel
theorem dX2_hasShow_4 : decode cX2_hasShow 4 = .ok (.iload_n 1, 1) := by decide +kernel
theorem dX2_hasShow_5 : decode cX2_hasShow 5 = .ok (.aload_n 0, 1) := by decide +kernel
theorem dX2_hasShow_6 : decode cX2_hasShow 6 = .ok (.getfield 65, 3) := by decide +kernel
theorem dX2_hasShow_9 : decode cX2_hasShow 9 = .ok (.if_icmp .ge 7, 3) := by decide +kernel
theorem dX2_hasShow_12 : decode cX2_hasShow 12 = .ok (.iconst 1, 1) := by decide +kernel
theorem dX2_hasShow_13 : decode cX2_hasShow 13 = .ok (.goto 4, 3) := by decide +kernel
theorem dX2_hasShow_16 : decode cX2_hasShow 16 = .ok (.iconst 0, 1) := by decide +kernel
theorem dX2_hasShow_17 : decode cX2_hasShow 17 = .ok (.ireturn, 1) := by decide +kernel
theorem dX2_dislikes_0 : decode cX2_dislikes 0 = .ok (.aload_n 0, 1) := by decide +kernel
theorem dX2_dislikes_1 : decode cX2_dislikes 1 = .ok (.getfield 68, 3) := by decide +kernel
theorem dX2_dislikes_4 : decode cX2_dislikes 4 = .ok (.iload_n 1, 1) := by decide +kernel
theorem dX2_dislikes_5 : decode cX2_dislikes 5 = .ok (.ishr, 1) := by decide +kernel
theorem dX2_dislikes_6 : decode cX2_dislikes 6 = .ok (.iconst 1, 1) := by decide +kernel
theorem dX2_dislikes_7 : decode cX2_dislikes 7 = .ok (.iand, 1) := by decide +kernel
theorem dX2_dislikes_8 : decode cX2_dislikes 8 = .ok (.iconst 1, 1) := by decide +kernel
theorem dX2_dislikes_9 : decode cX2_dislikes 9 = .ok (.if_icmp .ne 7, 3) := by decide +kernel
theorem dX2_dislikes_12 : decode cX2_dislikes 12 = .ok (.iconst 1, 1) := by decide +kernel
theorem dX2_dislikes_13 : decode cX2_dislikes 13 = .ok (.goto 4, 3) := by decide +kernel
theorem dX2_dislikes_16 : decode cX2_dislikes 16 = .ok (.iconst 0, 1) := by decide +kernel
theorem dX2_dislikes_17 : decode cX2_dislikes 17 = .ok (.ireturn, 1) := by decide +kernel
set_option maxRecDepth 20000 in
theorem ggX2_giveShow_X2_project : GoodIn wsX2_giveShow wsX2_project := goodIn_r _ [8, 9, 10, 11, 12, 13, 14, 3, 15, 16, 17, 18, 19, 20, 21, 22, 23, 24, 25, 26, 7, 27, 28, 29, 30, 31, 32, 33, 34, 35, 36, 37, 38, 39, 40, 41, 42, 43, 44, 45, 46, 47, 48, 49, 50, 51, 52, 53, 54, 55, 56, 57, 58, 59, 60, 61, 62, 63, 64, 65, 66, 67, 68, 69, 70, 71, 72, 85, 86, 87, 88, 89, 90, 91, 92, 95, 96, 97, 98, 99, 100, 101, 93, 94, 102, 103, 104, 105, 106] (by decide +kernel) (by decide +kernel)
set_option maxRecDepth 20000 in
theorem gX2_giveShow_X2_project : GoodIn wsX2_giveShow (wsV RX2 74 RX2 yX2_project wsX2_project) := goodIn_app (goodIn_of _ (by decide +kernel)) ggX2_giveShow_X2_project
set_option maxRecDepth 20000 in
theorem ggX2_giveShow_X2_wearDown : GoodIn wsX2_giveShow wsX2_wearDown := goodIn_r _ [76, 10, 11, 12, 33, 34, 15, 17, 13, 35, 36, 37, 77, 78, 79, 41, 80, 81, 43, 82, 83, 46, 84, 85, 86, 87, 88, 89, 90, 91, 92, 95, 96, 97, 98, 99, 100, 101, 102, 103, 104, 105, 106] (by decide +kernel) (by decide +kernel)
set_option maxRecDepth 20000 in
theorem gX2_giveShow_X2_wearDown : GoodIn wsX2_giveShow (wsV RX2 81 RX2 yX2_wearDown wsX2_wearDown) := goodIn_app (goodIn_of _ (by decide +kernel)) ggX2_giveShow_X2_wearDown
theorem dX2_giveShow_0 : decode cX2_giveShow 0 = .ok (.aload_n 0, 1) := by decide +kernel
theorem dX2_giveShow_1 : decode cX2_giveShow 1 = .ok (.getfield 65, 3) := by decide +kernel
theorem dX2_giveShow_4 : decode cX2_giveShow 4 = .ok (.istore_n 1, 1) := by decide +kernel
theorem dX2_giveShow_5 : decode cX2_giveShow 5 = .ok (.iload_n 1, 1) := by decide +kernel
theorem dX2_giveShow_6 : decode cX2_giveShow 6 = .ok (.bipush 10, 2) := by decide +kernel
theorem dX2_giveShow_8 : decode cX2_giveShow 8 = .ok (.if_icmp .ge 39, 3) := by decide +kernel
theorem dX2_giveShow_11 : decode cX2_giveShow 11 = .ok (.aload_n 0, 1) := by decide +kernel
theorem dX2_giveShow_12 : decode cX2_giveShow 12 = .ok (.aload_n 0, 1) := by decide +kernel
theorem dX2_giveShow_13 : decode cX2_giveShow 13 = .ok (.getfield 27, 3) := by decide +kernel
theorem dX2_giveShow_16 : decode cX2_giveShow 16 = .ok (.iload_n 1, 1) := by decide +kernel
theorem dX2_giveShow_17 : decode cX2_giveShow 17 = .ok (.aaload, 1) := by decide +kernel
theorem dX2_giveShow_18 : decode cX2_giveShow 18 = .ok (.invokevirtual 74, 3) := by decide +kernel
theorem dX2_giveShow_21 : decode cX2_giveShow 21 = .ok (.aload_n 0, 1) := by decide +kernel
theorem dX2_giveShow_22 : decode cX2_giveShow 22 = .ok (.aload_n 0, 1) := by decide +kernel
theorem dX2_giveShow_23 : decode cX2_giveShow 23 = .ok (.getfield 27, 3) := by decide +kernel
theorem dX2_giveShow_26 : decode cX2_giveShow 26 = .ok (.iload_n 1, 1) := by decide +kernel
theorem dX2_giveShow_27 : decode cX2_giveShow 27 = .ok (.aaload, 1) := by decide +kernel
theorem dX2_giveShow_28 : decode cX2_giveShow 28 = .ok (.getfield 77, 3) := by decide +kernel
theorem dX2_giveShow_31 : decode cX2_giveShow 31 = .ok (.bipush 6, 2) := by decide +kernel
theorem dX2_giveShow_33 : decode cX2_giveShow 33 = .ok (.iaload, 1) := by decide +kernel
theorem dX2_giveShow_34 : decode cX2_giveShow 34 = .ok (.invokevirtual 81, 3) := by decide +kernel
theorem dX2_giveShow_37 : decode cX2_giveShow 37 = .ok (.aload_n 0, 1) := by decide +kernel
theorem dX2_giveShow_38 : decode cX2_giveShow 38 = .ok (.dup, 1) := by decide +kernel
theorem dX2_giveShow_39 : decode cX2_giveShow 39 = .ok (.getfield 65, 3) := by decide +kernel
theorem dX2_giveShow_42 : decode cX2_giveShow 42 = .ok (.iconst 1, 1) := by decide +kernel
theorem dX2_giveShow_43 : decode cX2_giveShow 43 = .ok (.iadd, 1) := by decide +kernel
theorem dX2_giveShow_44 : decode cX2_giveShow 44 = .ok (.putfield 65, 3) := by decide +kernel
theorem dX2_giveShow_47 : decode cX2_giveShow 47 = .ok (.iload_n 1, 1) := by decide +kernel
theorem dX2_giveShow_48 : decode cX2_giveShow 48 = .ok (.ireturn, 1) := by decide +kernel
set_option maxRecDepth 20000 in
theorem ggX2_project_X5_begin : GoodIn wsX2_project wsX5_begin := goodIn_r _ [15, 16, 82, 83] (by decide +kernel) (by decide +kernel)
set_option maxRecDepth 20000 in
theorem gX2_project_X5_begin : GoodIn wsX2_project (wsV RX2 85 RX5 yX5_begin wsX5_begin) := goodIn_app (goodIn_of _ (by decide +kernel)) ggX2_project_X5_begin
set_option maxRecDepth 20000 in
theorem ggX2_project_X2_dislikes : GoodIn wsX2_project wsX2_dislikes := goodIn_r _ [21, 22, 67, 68, 69, 70, 71, 72, 73, 74] (by decide +kernel) (by decide +kernel)
set_option maxRecDepth 20000 in
theorem gX2_project_X2_dislikes : GoodIn wsX2_project (wsV RX2 100 RX2 yX2_dislikes wsX2_dislikes) := goodIn_app (goodIn_of _ (by decide +kernel)) ggX2_project_X2_dislikes
set_option maxRecDepth 20000 in
theorem ggX2_project_X2_wind : GoodIn wsX2_project wsX2_wind := goodIn_r _ [26, 2, 3, 27, 28, 8, 10, 7, 29, 30, 31, 32, 33, 34, 35, 36, 37, 38, 39, 40, 41, 42, 43, 44, 45, 46, 47, 14, 48, 16, 49, 50, 51, 52, 53, 54, 55, 56, 57, 58, 59, 60, 67, 68, 69, 70, 71, 72, 73, 74, 75, 76, 77, 78, 79, 80, 81, 82, 83, 84, 85, 86, 87, 88] (by decide +kernel) (by decide +kernel)
set_option maxRecDepth 20000 in
theorem gX2_project_X2_wind : GoodIn wsX2_project (wsV RX2 104 RX2 yX2_wind wsX2_wind) := goodIn_app (goodIn_of _ (by decide +kernel)) ggX2_project_X2_wind
set_option maxRecDepth 20000 in
theorem ggX2_project_X2_play : GoodIn wsX2_project wsX2_play := goodIn_r _ [64, 2, 3, 10, 27, 28, 8, 7, 29, 30, 31, 32, 33, 34, 35, 36, 37, 38, 39, 40, 41, 42, 43, 44, 45, 46, 47, 14, 48, 16, 65, 66, 56, 57, 58, 59, 60, 67, 68, 69, 70, 71, 72, 73, 74, 75, 76, 77, 78, 79, 80, 81, 82, 83, 84, 85, 86, 87, 88] (by decide +kernel) (by decide +kernel)
set_option maxRecDepth 20000 in
theorem gX2_project_X2_play : GoodIn wsX2_project (wsV RX2 108 RX2 yX2_play wsX2_play) := goodIn_app (goodIn_of _ (by decide +kernel)) ggX2_project_X2_play
theorem dX2_project_0 : decode cX2_project 0 = .ok (.aload_n 1, 1) := by decide +kernel
theorem dX2_project_1 : decode cX2_project 1 = .ok (.invokevirtual 85, 3) := by decide +kernel
theorem dX2_project_4 : decode cX2_project 4 = .ok (.aload_n 0, 1) := by decide +kernel
theorem dX2_project_5 : decode cX2_project 5 = .ok (.getfield 38, 3) := by decide +kernel
theorem dX2_project_8 : decode cX2_project 8 = .ok (.istore_n 2, 1) := by decide +kernel
theorem dX2_project_9 : decode cX2_project 9 = .ok (.iconst 0, 1) := by decide +kernel
theorem dX2_project_10 : decode cX2_project 10 = .ok (.istore_n 3, 1) := by decide +kernel
theorem dX2_project_11 : decode cX2_project 11 = .ok (.iload_n 3, 1) := by decide +kernel
theorem dX2_project_12 : decode cX2_project 12 = .ok (.aload_n 0, 1) := by decide +kernel
theorem dX2_project_13 : decode cX2_project 13 = .ok (.getfield 21, 3) := by decide +kernel
theorem dX2_project_16 : decode cX2_project 16 = .ok (.getfield 50, 3) := by decide +kernel
theorem dX2_project_19 : decode cX2_project 19 = .ok (.getfield 88, 3) := by decide +kernel
theorem dX2_project_22 : decode cX2_project 22 = .ok (.if_icmp .ge 90, 3) := by decide +kernel
theorem dX2_project_25 : decode cX2_project 25 = .ok (.iload_n 3, 1) := by decide +kernel
theorem dX2_project_26 : decode cX2_project 26 = .ok (.ifCond .le 31, 3) := by decide +kernel
theorem dX2_project_29 : decode cX2_project 29 = .ok (.aload_n 0, 1) := by decide +kernel
theorem dX2_project_30 : decode cX2_project 30 = .ok (.getfield 21, 3) := by decide +kernel
theorem dX2_project_33 : decode cX2_project 33 = .ok (.getfield 50, 3) := by decide +kernel
theorem dX2_project_36 : decode cX2_project 36 = .ok (.getfield 91, 3) := by decide +kernel
theorem dX2_project_39 : decode cX2_project 39 = .ok (.iload_n 3, 1) := by decide +kernel
theorem dX2_project_40 : decode cX2_project 40 = .ok (.iaload, 1) := by decide +kernel
theorem dX2_project_41 : decode cX2_project 41 = .ok (.aload_n 0, 1) := by decide +kernel
theorem dX2_project_42 : decode cX2_project 42 = .ok (.getfield 42, 3) := by decide +kernel
theorem dX2_project_45 : decode cX2_project 45 = .ok (.if_icmp .lt 12, 3) := by decide +kernel
theorem dX2_project_48 : decode cX2_project 48 = .ok (.aload_n 1, 1) := by decide +kernel
theorem dX2_project_49 : decode cX2_project 49 = .ok (.getfield 77, 3) := by decide +kernel
theorem dX2_project_52 : decode cX2_project 52 = .ok (.bipush 6, 2) := by decide +kernel
theorem dX2_project_54 : decode cX2_project 54 = .ok (.iload_n 3, 1) := by decide +kernel
theorem dX2_project_55 : decode cX2_project 55 = .ok (.iastore, 1) := by decide +kernel
theorem dX2_project_56 : decode cX2_project 56 = .ok (.return_, 1) := by decide +kernel
theorem dX2_project_57 : decode cX2_project 57 = .ok (.iload_n 2, 1) := by decide +kernel
theorem dX2_project_58 : decode cX2_project 58 = .ok (.ifCond .le 42, 3) := by decide +kernel
theorem dX2_project_61 : decode cX2_project 61 = .ok (.aload_n 0, 1) := by decide +kernel
theorem dX2_project_62 : decode cX2_project 62 = .ok (.aload_n 0, 1) := by decide +kernel
theorem dX2_project_63 : decode cX2_project 63 = .ok (.getfield 12, 3) := by decide +kernel
theorem dX2_project_66 : decode cX2_project 66 = .ok (.getfield 94, 3) := by decide +kernel
theorem dX2_project_69 : decode cX2_project 69 = .ok (.aload_n 0, 1) := by decide +kernel
theorem dX2_project_70 : decode cX2_project 70 = .ok (.getfield 21, 3) := by decide +kernel
theorem dX2_project_73 : decode cX2_project 73 = .ok (.getfield 50, 3) := by decide +kernel
theorem dX2_project_76 : decode cX2_project 76 = .ok (.getfield 97, 3) := by decide +kernel
theorem dX2_project_79 : decode cX2_project 79 = .ok (.iload_n 3, 1) := by decide +kernel
theorem dX2_project_80 : decode cX2_project 80 = .ok (.iaload, 1) := by decide +kernel
theorem dX2_project_81 : decode cX2_project 81 = .ok (.iaload, 1) := by decide +kernel
theorem dX2_project_82 : decode cX2_project 82 = .ok (.invokevirtual 100, 3) := by decide +kernel
theorem dX2_project_85 : decode cX2_project 85 = .ok (.ifCond .eq 15, 3) := by decide +kernel
theorem dX2_project_88 : decode cX2_project 88 = .ok (.iinc 2 (-1), 3) := by decide +kernel
theorem dX2_project_91 : decode cX2_project 91 = .ok (.aload_n 0, 1) := by decide +kernel
theorem dX2_project_92 : decode cX2_project 92 = .ok (.aload_n 1, 1) := by decide +kernel
theorem dX2_project_93 : decode cX2_project 93 = .ok (.iload_n 3, 1) := by decide +kernel
theorem dX2_project_94 : decode cX2_project 94 = .ok (.invokevirtual 104, 3) := by decide +kernel
theorem dX2_project_97 : decode cX2_project 97 = .ok (.goto 9, 3) := by decide +kernel
theorem dX2_project_100 : decode cX2_project 100 = .ok (.aload_n 0, 1) := by decide +kernel
theorem dX2_project_101 : decode cX2_project 101 = .ok (.aload_n 1, 1) := by decide +kernel
theorem dX2_project_102 : decode cX2_project 102 = .ok (.iload_n 3, 1) := by decide +kernel
theorem dX2_project_103 : decode cX2_project 103 = .ok (.invokevirtual 108, 3) := by decide +kernel
theorem dX2_project_106 : decode cX2_project 106 = .ok (.iinc 3 1, 3) := by decide +kernel
theorem dX2_project_109 : decode cX2_project 109 = .ok (.goto (-98), 3) := by decide +kernel
theorem dX2_project_112 : decode cX2_project 112 = .ok (.return_, 1) := by decide +kernel
set_option maxRecDepth 20000 in
theorem ggX2_wind_X8_slotOf : GoodIn wsX2_wind wsX8_slotOf := goodIn_r _ [10] (by decide +kernel) (by decide +kernel)
set_option maxRecDepth 20000 in
theorem gX2_wind_X8_slotOf_n117 : GoodIn wsX2_wind (wsX8_slotOf) := ggX2_wind_X8_slotOf
set_option maxRecDepth 20000 in
theorem ggX2_wind_X6_goodHoles : GoodIn wsX2_wind wsX6_goodHoles := goodIn_r _ [15, 16, 17, 18, 19, 20, 21, 22, 23, 59, 60, 61, 62, 63] (by decide +kernel) (by decide +kernel)
set_option maxRecDepth 20000 in
theorem gX2_wind_X6_goodHoles : GoodIn wsX2_wind (wsV RX2 121 RX6 yX6_goodHoles wsX6_goodHoles) := goodIn_app (goodIn_of _ (by decide +kernel)) ggX2_wind_X6_goodHoles
set_option maxRecDepth 20000 in
theorem ggX2_wind_X5_countHoles : GoodIn wsX2_wind wsX5_countHoles := goodIn_r _ [28, 29, 57, 58] (by decide +kernel) (by decide +kernel)
set_option maxRecDepth 20000 in
theorem gX2_wind_X5_countHoles : GoodIn wsX2_wind (wsV RX2 125 RX5 yX5_countHoles wsX5_countHoles) := goodIn_app (goodIn_of _ (by decide +kernel)) ggX2_wind_X5_countHoles
set_option maxRecDepth 20000 in
theorem ggX2_wind_X4_lengthOf : GoodIn wsX2_wind wsX4_lengthOf := goodIn_r _ [34, 35, 36, 52, 53, 54, 55, 56] (by decide +kernel) (by decide +kernel)
set_option maxRecDepth 20000 in
theorem gX2_wind_X4_lengthOf : GoodIn wsX2_wind (wsV RX2 129 RX4 yX4_lengthOf wsX4_lengthOf) := goodIn_app (goodIn_of _ (by decide +kernel)) ggX2_wind_X4_lengthOf
set_option maxRecDepth 20000 in
theorem ggX2_wind_X5_addUnit : GoodIn wsX2_wind wsX5_addUnit := goodIn_r _ [40, 29, 41, 57, 58] (by decide +kernel) (by decide +kernel)
set_option maxRecDepth 20000 in
theorem gX2_wind_X5_addUnit : GoodIn wsX2_wind (wsV RX2 132 RX5 yX5_addUnit wsX5_addUnit) := goodIn_app (goodIn_of _ (by decide +kernel)) ggX2_wind_X5_addUnit
theorem dX2_wind_0 : decode cX2_wind 0 = .ok (.aload_n 0, 1) := by decide +kernel
theorem dX2_wind_1 : decode cX2_wind 1 = .ok (.getfield 21, 3) := by decide +kernel
theorem dX2_wind_4 : decode cX2_wind 4 = .ok (.getfield 50, 3) := by decide +kernel
theorem dX2_wind_7 : decode cX2_wind 7 = .ok (.astore_n 3, 1) := by decide +kernel
theorem dX2_wind_8 : decode cX2_wind 8 = .ok (.aload_n 3, 1) := by decide +kernel
theorem dX2_wind_9 : decode cX2_wind 9 = .ok (.getfield 111, 3) := by decide +kernel
theorem dX2_wind_12 : decode cX2_wind 12 = .ok (.iload_n 2, 1) := by decide +kernel
theorem dX2_wind_13 : decode cX2_wind 13 = .ok (.iaload, 1) := by decide +kernel
theorem dX2_wind_14 : decode cX2_wind 14 = .ok (.istore 4, 2) := by decide +kernel
theorem dX2_wind_16 : decode cX2_wind 16 = .ok (.iload 4, 2) := by decide +kernel
theorem dX2_wind_18 : decode cX2_wind 18 = .ok (.aload_n 3, 1) := by decide +kernel
theorem dX2_wind_19 : decode cX2_wind 19 = .ok (.getfield 114, 3) := by decide +kernel
theorem dX2_wind_22 : decode cX2_wind 22 = .ok (.iload_n 2, 1) := by decide +kernel
theorem dX2_wind_23 : decode cX2_wind 23 = .ok (.iaload, 1) := by decide +kernel
theorem dX2_wind_24 : decode cX2_wind 24 = .ok (.if_icmp .gt 49, 3) := by decide +kernel
theorem dX2_wind_27 : decode cX2_wind 27 = .ok (.aload_n 0, 1) := by decide +kernel
theorem dX2_wind_28 : decode cX2_wind 28 = .ok (.getfield 12, 3) := by decide +kernel
theorem dX2_wind_31 : decode cX2_wind 31 = .ok (.aload_n 3, 1) := by decide +kernel
theorem dX2_wind_32 : decode cX2_wind 32 = .ok (.getfield 97, 3) := by decide +kernel
theorem dX2_wind_35 : decode cX2_wind 35 = .ok (.iload_n 2, 1) := by decide +kernel
theorem dX2_wind_36 : decode cX2_wind 36 = .ok (.iaload, 1) := by decide +kernel
theorem dX2_wind_37 : decode cX2_wind 37 = .ok (.iload 4, 2) := by decide +kernel
theorem dX2_wind_39 : decode cX2_wind 39 = .ok (.invokestatic 117, 3) := by decide +kernel
theorem dX2_wind_42 : decode cX2_wind 42 = .ok (.invokevirtual 121, 3) := by decide +kernel
theorem dX2_wind_45 : decode cX2_wind 45 = .ok (.istore 5, 2) := by decide +kernel
theorem dX2_wind_47 : decode cX2_wind 47 = .ok (.aload_n 1, 1) := by decide +kernel
theorem dX2_wind_48 : decode cX2_wind 48 = .ok (.iload 5, 2) := by decide +kernel
theorem dX2_wind_50 : decode cX2_wind 50 = .ok (.iload 5, 2) := by decide +kernel
theorem dX2_wind_52 : decode cX2_wind 52 = .ok (.iconst 2, 1) := by decide +kernel
theorem dX2_wind_53 : decode cX2_wind 53 = .ok (.idiv, 1) := by decide +kernel
theorem dX2_wind_54 : decode cX2_wind 54 = .ok (.invokevirtual 125, 3) := by decide +kernel
theorem dX2_wind_57 : decode cX2_wind 57 = .ok (.aload_n 1, 1) := by decide +kernel
theorem dX2_wind_58 : decode cX2_wind 58 = .ok (.getfield 77, 3) := by decide +kernel
theorem dX2_wind_61 : decode cX2_wind 61 = .ok (.iconst 3, 1) := by decide +kernel
theorem dX2_wind_62 : decode cX2_wind 62 = .ok (.dup2, 1) := by decide +kernel
theorem dX2_wind_63 : decode cX2_wind 63 = .ok (.iaload, 1) := by decide +kernel
theorem dX2_wind_64 : decode cX2_wind 64 = .ok (.iconst 1, 1) := by decide +kernel
theorem dX2_wind_65 : decode cX2_wind 65 = .ok (.iadd, 1) := by decide +kernel
theorem dX2_wind_66 : decode cX2_wind 66 = .ok (.iastore, 1) := by decide +kernel
theorem dX2_wind_67 : decode cX2_wind 67 = .ok (.iinc 4 1, 3) := by decide +kernel
theorem dX2_wind_70 : decode cX2_wind 70 = .ok (.goto (-54), 3) := by decide +kernel
theorem dX2_wind_73 : decode cX2_wind 73 = .ok (.aload_n 3, 1) := by decide +kernel
theorem dX2_wind_74 : decode cX2_wind 74 = .ok (.iload_n 2, 1) := by decide +kernel
theorem dX2_wind_75 : decode cX2_wind 75 = .ok (.invokevirtual 129, 3) := by decide +kernel
theorem dX2_wind_78 : decode cX2_wind 78 = .ok (.iconst 3, 1) := by decide +kernel
theorem dX2_wind_79 : decode cX2_wind 79 = .ok (.iadd, 1) := by decide +kernel
theorem dX2_wind_80 : decode cX2_wind 80 = .ok (.iconst 4, 1) := by decide +kernel
theorem dX2_wind_81 : decode cX2_wind 81 = .ok (.idiv, 1) := by decide +kernel
theorem dX2_wind_82 : decode cX2_wind 82 = .ok (.istore 4, 2) := by decide +kernel
theorem dX2_wind_84 : decode cX2_wind 84 = .ok (.iconst 0, 1) := by decide +kernel
theorem dX2_wind_85 : decode cX2_wind 85 = .ok (.istore 5, 2) := by decide +kernel
theorem dX2_wind_87 : decode cX2_wind 87 = .ok (.iload 5, 2) := by decide +kernel
theorem dX2_wind_89 : decode cX2_wind 89 = .ok (.iload 4, 2) := by decide +kernel
theorem dX2_wind_91 : decode cX2_wind 91 = .ok (.if_icmp .ge 15, 3) := by decide +kernel
theorem dX2_wind_94 : decode cX2_wind 94 = .ok (.aload_n 1, 1) := by decide +kernel
theorem dX2_wind_95 : decode cX2_wind 95 = .ok (.bipush (-5), 2) := by decide +kernel
theorem dX2_wind_97 : decode cX2_wind 97 = .ok (.invokevirtual 132, 3) := by decide +kernel
theorem dX2_wind_100 : decode cX2_wind 100 = .ok (.iinc 5 1, 3) := by decide +kernel
theorem dX2_wind_103 : decode cX2_wind 103 = .ok (.goto (-16), 3) := by decide +kernel
theorem dX2_wind_106 : decode cX2_wind 106 = .ok (.aload_n 1, 1) := by decide +kernel
theorem dX2_wind_107 : decode cX2_wind 107 = .ok (.getfield 77, 3) := by decide +kernel
theorem dX2_wind_110 : decode cX2_wind 110 = .ok (.bipush 7, 2) := by decide +kernel
theorem dX2_wind_112 : decode cX2_wind 112 = .ok (.dup2, 1) := by decide +kernel
theorem dX2_wind_113 : decode cX2_wind 113 = .ok (.iaload, 1) := by decide +kernel
theorem dX2_wind_114 : decode cX2_wind 114 = .ok (.iconst 1, 1) := by decide +kernel
theorem dX2_wind_115 : decode cX2_wind 115 = .ok (.iadd, 1) := by decide +kernel
theorem dX2_wind_116 : decode cX2_wind 116 = .ok (.iastore, 1) := by decide +kernel
theorem dX2_wind_117 : decode cX2_wind 117 = .ok (.return_, 1) := by decide +kernel
set_option maxRecDepth 20000 in
theorem ggX2_play_X8_slotOf : GoodIn wsX2_play wsX8_slotOf := goodIn_r _ [10] (by decide +kernel) (by decide +kernel)
set_option maxRecDepth 20000 in
theorem gX2_play_X8_slotOf_n117 : GoodIn wsX2_play (wsX8_slotOf) := ggX2_play_X8_slotOf
set_option maxRecDepth 20000 in
theorem ggX2_play_X6_goodHoles : GoodIn wsX2_play wsX6_goodHoles := goodIn_r _ [15, 16, 17, 18, 19, 20, 21, 22, 23, 54, 55, 56, 57, 58] (by decide +kernel) (by decide +kernel)
set_option maxRecDepth 20000 in
theorem gX2_play_X6_goodHoles : GoodIn wsX2_play (wsV RX2 121 RX6 yX6_goodHoles wsX6_goodHoles) := goodIn_app (goodIn_of _ (by decide +kernel)) ggX2_play_X6_goodHoles
set_option maxRecDepth 20000 in
theorem ggX2_play_X5_countHoles : GoodIn wsX2_play wsX5_countHoles := goodIn_r _ [28, 29, 52, 53] (by decide +kernel) (by decide +kernel)
set_option maxRecDepth 20000 in
theorem gX2_play_X5_countHoles : GoodIn wsX2_play (wsV RX2 125 RX5 yX5_countHoles wsX5_countHoles) := goodIn_app (goodIn_of _ (by decide +kernel)) ggX2_play_X5_countHoles
set_option maxRecDepth 20000 in
theorem ggX2_play_X8_codeOf : GoodIn wsX2_play wsX8_codeOf := goodIn_r _ [31] (by decide +kernel) (by decide +kernel)
set_option maxRecDepth 20000 in
theorem gX2_play_X8_codeOf_n135 : GoodIn wsX2_play (wsX8_codeOf) := ggX2_play_X8_codeOf
set_option maxRecDepth 20000 in
theorem ggX2_play_X5_addUnit : GoodIn wsX2_play wsX5_addUnit := goodIn_r _ [35, 29, 36, 52, 53] (by decide +kernel) (by decide +kernel)
set_option maxRecDepth 20000 in
theorem gX2_play_X5_addUnit : GoodIn wsX2_play (wsV RX2 132 RX5 yX5_addUnit wsX5_addUnit) := goodIn_app (goodIn_of _ (by decide +kernel)) ggX2_play_X5_addUnit
theorem dX2_play_0 : decode cX2_play 0 = .ok (.aload_n 0, 1) := by decide +kernel
theorem dX2_play_1 : decode cX2_play 1 = .ok (.getfield 21, 3) := by decide +kernel
theorem dX2_play_4 : decode cX2_play 4 = .ok (.getfield 50, 3) := by decide +kernel
theorem dX2_play_7 : decode cX2_play 7 = .ok (.astore_n 3, 1) := by decide +kernel
theorem dX2_play_8 : decode cX2_play 8 = .ok (.aload_n 3, 1) := by decide +kernel
theorem dX2_play_9 : decode cX2_play 9 = .ok (.getfield 97, 3) := by decide +kernel
theorem dX2_play_12 : decode cX2_play 12 = .ok (.iload_n 2, 1) := by decide +kernel
theorem dX2_play_13 : decode cX2_play 13 = .ok (.iaload, 1) := by decide +kernel
theorem dX2_play_14 : decode cX2_play 14 = .ok (.istore 4, 2) := by decide +kernel
theorem dX2_play_16 : decode cX2_play 16 = .ok (.aload_n 3, 1) := by decide +kernel
theorem dX2_play_17 : decode cX2_play 17 = .ok (.getfield 111, 3) := by decide +kernel
theorem dX2_play_20 : decode cX2_play 20 = .ok (.iload_n 2, 1) := by decide +kernel
theorem dX2_play_21 : decode cX2_play 21 = .ok (.iaload, 1) := by decide +kernel
theorem dX2_play_22 : decode cX2_play 22 = .ok (.istore 5, 2) := by decide +kernel
theorem dX2_play_24 : decode cX2_play 24 = .ok (.iload 5, 2) := by decide +kernel
theorem dX2_play_26 : decode cX2_play 26 = .ok (.aload_n 3, 1) := by decide +kernel
theorem dX2_play_27 : decode cX2_play 27 = .ok (.getfield 114, 3) := by decide +kernel
theorem dX2_play_30 : decode cX2_play 30 = .ok (.iload_n 2, 1) := by decide +kernel
theorem dX2_play_31 : decode cX2_play 31 = .ok (.iaload, 1) := by decide +kernel
theorem dX2_play_32 : decode cX2_play 32 = .ok (.if_icmp .gt 86, 3) := by decide +kernel
theorem dX2_play_35 : decode cX2_play 35 = .ok (.aload_n 0, 1) := by decide +kernel
theorem dX2_play_36 : decode cX2_play 36 = .ok (.getfield 12, 3) := by decide +kernel
theorem dX2_play_39 : decode cX2_play 39 = .ok (.iload 4, 2) := by decide +kernel
theorem dX2_play_41 : decode cX2_play 41 = .ok (.iload 5, 2) := by decide +kernel
theorem dX2_play_43 : decode cX2_play 43 = .ok (.invokestatic 117, 3) := by decide +kernel
theorem dX2_play_46 : decode cX2_play 46 = .ok (.invokevirtual 121, 3) := by decide +kernel
theorem dX2_play_49 : decode cX2_play 49 = .ok (.istore 6, 2) := by decide +kernel
theorem dX2_play_51 : decode cX2_play 51 = .ok (.iload 6, 2) := by decide +kernel
theorem dX2_play_53 : decode cX2_play 53 = .ok (.iconst 2, 1) := by decide +kernel
theorem dX2_play_54 : decode cX2_play 54 = .ok (.if_icmp .lt 7, 3) := by decide +kernel
theorem dX2_play_57 : decode cX2_play 57 = .ok (.iconst 1, 1) := by decide +kernel
theorem dX2_play_58 : decode cX2_play 58 = .ok (.goto 4, 3) := by decide +kernel
theorem dX2_play_61 : decode cX2_play 61 = .ok (.iconst 0, 1) := by decide +kernel
theorem dX2_play_62 : decode cX2_play 62 = .ok (.istore 7, 2) := by decide +kernel
theorem dX2_play_64 : decode cX2_play 64 = .ok (.aload_n 1, 1) := by decide +kernel
theorem dX2_play_65 : decode cX2_play 65 = .ok (.iload 6, 2) := by decide +kernel
theorem dX2_play_67 : decode cX2_play 67 = .ok (.iload 6, 2) := by decide +kernel
theorem dX2_play_69 : decode cX2_play 69 = .ok (.invokevirtual 125, 3) := by decide +kernel
theorem dX2_play_72 : decode cX2_play 72 = .ok (.aload_n 1, 1) := by decide +kernel
theorem dX2_play_73 : decode cX2_play 73 = .ok (.getfield 77, 3) := by decide +kernel
theorem dX2_play_76 : decode cX2_play 76 = .ok (.iload 7, 2) := by decide +kernel
theorem dX2_play_78 : decode cX2_play 78 = .ok (.ifCond .eq 7, 3) := by decide +kernel
theorem dX2_play_81 : decode cX2_play 81 = .ok (.iconst 1, 1) := by decide +kernel
theorem dX2_play_82 : decode cX2_play 82 = .ok (.goto 4, 3) := by decide +kernel
theorem dX2_play_85 : decode cX2_play 85 = .ok (.iconst 2, 1) := by decide +kernel
theorem dX2_play_86 : decode cX2_play 86 = .ok (.dup2, 1) := by decide +kernel
theorem dX2_play_87 : decode cX2_play 87 = .ok (.iaload, 1) := by decide +kernel
theorem dX2_play_88 : decode cX2_play 88 = .ok (.iconst 1, 1) := by decide +kernel
theorem dX2_play_89 : decode cX2_play 89 = .ok (.iadd, 1) := by decide +kernel
theorem dX2_play_90 : decode cX2_play 90 = .ok (.iastore, 1) := by decide +kernel
theorem dX2_play_91 : decode cX2_play 91 = .ok (.aload_n 1, 1) := by decide +kernel
theorem dX2_play_92 : decode cX2_play 92 = .ok (.iload 7, 2) := by decide +kernel
theorem dX2_play_94 : decode cX2_play 94 = .ok (.ifCond .eq 13, 3) := by decide +kernel
theorem dX2_play_97 : decode cX2_play 97 = .ok (.iload 4, 2) := by decide +kernel
theorem dX2_play_99 : decode cX2_play 99 = .ok (.iload 5, 2) := by decide +kernel
theorem dX2_play_101 : decode cX2_play 101 = .ok (.invokestatic 135, 3) := by decide +kernel
theorem dX2_play_104 : decode cX2_play 104 = .ok (.goto 5, 3) := by decide +kernel
theorem dX2_play_107 : decode cX2_play 107 = .ok (.bipush (-5), 2) := by decide +kernel
theorem dX2_play_109 : decode cX2_play 109 = .ok (.invokevirtual 132, 3) := by decide +kernel
theorem dX2_play_112 : decode cX2_play 112 = .ok (.iinc 5 1, 3) := by decide +kernel
theorem dX2_play_115 : decode cX2_play 115 = .ok (.goto (-91), 3) := by decide +kernel
theorem dX2_play_118 : decode cX2_play 118 = .ok (.return_, 1) := by decide +kernel
set_option maxRecDepth 20000 in
theorem ggX2_wearDown_X8_slotOf : GoodIn wsX2_wearDown wsX8_slotOf := goodIn_r _ [11] (by decide +kernel) (by decide +kernel)
set_option maxRecDepth 20000 in
theorem gX2_wearDown_X8_slotOf_n117 : GoodIn wsX2_wearDown (wsX8_slotOf) := ggX2_wearDown_X8_slotOf
set_option maxRecDepth 20000 in
theorem ggX2_wearDown_X6_wear : GoodIn wsX2_wearDown wsX6_wear := goodIn_r _ [16, 17, 18, 19, 20, 21, 22, 38, 39, 40, 41, 42] (by decide +kernel) (by decide +kernel)
set_option maxRecDepth 20000 in
theorem gX2_wearDown_X6_wear : GoodIn wsX2_wearDown (wsV RX2 138 RX6 yX6_wear wsX6_wear) := goodIn_app (goodIn_of _ (by decide +kernel)) ggX2_wearDown_X6_wear
theorem dX2_wearDown_0 : decode cX2_wearDown 0 = .ok (.aload_n 0, 1) := by decide +kernel
theorem dX2_wearDown_1 : decode cX2_wearDown 1 = .ok (.getfield 21, 3) := by decide +kernel
theorem dX2_wearDown_4 : decode cX2_wearDown 4 = .ok (.getfield 50, 3) := by decide +kernel
theorem dX2_wearDown_7 : decode cX2_wearDown 7 = .ok (.astore_n 2, 1) := by decide +kernel
theorem dX2_wearDown_8 : decode cX2_wearDown 8 = .ok (.iload_n 1, 1) := by decide +kernel
theorem dX2_wearDown_9 : decode cX2_wearDown 9 = .ok (.bipush (-5), 2) := by decide +kernel
theorem dX2_wearDown_11 : decode cX2_wearDown 11 = .ok (.if_icmp .ne 10, 3) := by decide +kernel
theorem dX2_wearDown_14 : decode cX2_wearDown 14 = .ok (.aload_n 2, 1) := by decide +kernel
theorem dX2_wearDown_15 : decode cX2_wearDown 15 = .ok (.getfield 88, 3) := by decide +kernel
theorem dX2_wearDown_18 : decode cX2_wearDown 18 = .ok (.goto 4, 3) := by decide +kernel
theorem dX2_wearDown_21 : decode cX2_wearDown 21 = .ok (.iload_n 1, 1) := by decide +kernel
theorem dX2_wearDown_22 : decode cX2_wearDown 22 = .ok (.istore_n 3, 1) := by decide +kernel
theorem dX2_wearDown_23 : decode cX2_wearDown 23 = .ok (.iconst 0, 1) := by decide +kernel
theorem dX2_wearDown_24 : decode cX2_wearDown 24 = .ok (.istore 4, 2) := by decide +kernel
theorem dX2_wearDown_26 : decode cX2_wearDown 26 = .ok (.iload 4, 2) := by decide +kernel
theorem dX2_wearDown_28 : decode cX2_wearDown 28 = .ok (.iload_n 3, 1) := by decide +kernel
theorem dX2_wearDown_29 : decode cX2_wearDown 29 = .ok (.if_icmp .ge 55, 3) := by decide +kernel
theorem dX2_wearDown_32 : decode cX2_wearDown 32 = .ok (.aload_n 2, 1) := by decide +kernel
theorem dX2_wearDown_33 : decode cX2_wearDown 33 = .ok (.getfield 111, 3) := by decide +kernel
theorem dX2_wearDown_36 : decode cX2_wearDown 36 = .ok (.iload 4, 2) := by decide +kernel
theorem dX2_wearDown_38 : decode cX2_wearDown 38 = .ok (.iaload, 1) := by decide +kernel
theorem dX2_wearDown_39 : decode cX2_wearDown 39 = .ok (.istore 5, 2) := by decide +kernel
theorem dX2_wearDown_41 : decode cX2_wearDown 41 = .ok (.iload 5, 2) := by decide +kernel
theorem dX2_wearDown_43 : decode cX2_wearDown 43 = .ok (.aload_n 2, 1) := by decide +kernel
theorem dX2_wearDown_44 : decode cX2_wearDown 44 = .ok (.getfield 114, 3) := by decide +kernel
theorem dX2_wearDown_47 : decode cX2_wearDown 47 = .ok (.iload 4, 2) := by decide +kernel
theorem dX2_wearDown_49 : decode cX2_wearDown 49 = .ok (.iaload, 1) := by decide +kernel
theorem dX2_wearDown_50 : decode cX2_wearDown 50 = .ok (.if_icmp .gt 28, 3) := by decide +kernel
theorem dX2_wearDown_53 : decode cX2_wearDown 53 = .ok (.aload_n 0, 1) := by decide +kernel
theorem dX2_wearDown_54 : decode cX2_wearDown 54 = .ok (.getfield 12, 3) := by decide +kernel
theorem dX2_wearDown_57 : decode cX2_wearDown 57 = .ok (.aload_n 2, 1) := by decide +kernel
theorem dX2_wearDown_58 : decode cX2_wearDown 58 = .ok (.getfield 97, 3) := by decide +kernel
theorem dX2_wearDown_61 : decode cX2_wearDown 61 = .ok (.iload 4, 2) := by decide +kernel
theorem dX2_wearDown_63 : decode cX2_wearDown 63 = .ok (.iaload, 1) := by decide +kernel
theorem dX2_wearDown_64 : decode cX2_wearDown 64 = .ok (.iload 5, 2) := by decide +kernel
theorem dX2_wearDown_66 : decode cX2_wearDown 66 = .ok (.invokestatic 117, 3) := by decide +kernel
theorem dX2_wearDown_69 : decode cX2_wearDown 69 = .ok (.invokevirtual 138, 3) := by decide +kernel
theorem dX2_wearDown_72 : decode cX2_wearDown 72 = .ok (.iinc 5 1, 3) := by decide +kernel
theorem dX2_wearDown_75 : decode cX2_wearDown 75 = .ok (.goto (-34), 3) := by decide +kernel
theorem dX2_wearDown_78 : decode cX2_wearDown 78 = .ok (.iinc 4 1, 3) := by decide +kernel
theorem dX2_wearDown_81 : decode cX2_wearDown 81 = .ok (.goto (-55), 3) := by decide +kernel
theorem dX2_wearDown_84 : decode cX2_wearDown 84 = .ok (.iconst 1, 1) := by decide +kernel
theorem dX2_wearDown_85 : decode cX2_wearDown 85 = .ok (.istore 4, 2) := by decide +kernel
theorem dX2_wearDown_87 : decode cX2_wearDown 87 = .ok (.iload 4, 2) := by decide +kernel
theorem dX2_wearDown_89 : decode cX2_wearDown 89 = .ok (.iload_n 3, 1) := by decide +kernel
theorem dX2_wearDown_90 : decode cX2_wearDown 90 = .ok (.if_icmp .gt 29, 3) := by decide +kernel
theorem dX2_wearDown_93 : decode cX2_wearDown 93 = .ok (.iload 4, 2) := by decide +kernel
theorem dX2_wearDown_95 : decode cX2_wearDown 95 = .ok (.aload_n 2, 1) := by decide +kernel
theorem dX2_wearDown_96 : decode cX2_wearDown 96 = .ok (.getfield 88, 3) := by decide +kernel
theorem dX2_wearDown_99 : decode cX2_wearDown 99 = .ok (.if_icmp .ge 20, 3) := by decide +kernel
theorem dX2_wearDown_102 : decode cX2_wearDown 102 = .ok (.aload_n 2, 1) := by decide +kernel
theorem dX2_wearDown_103 : decode cX2_wearDown 103 = .ok (.getfield 91, 3) := by decide +kernel
theorem dX2_wearDown_106 : decode cX2_wearDown 106 = .ok (.iload 4, 2) := by decide +kernel
theorem dX2_wearDown_108 : decode cX2_wearDown 108 = .ok (.dup2, 1) := by decide +kernel
theorem dX2_wearDown_109 : decode cX2_wearDown 109 = .ok (.iaload, 1) := by decide +kernel
theorem dX2_wearDown_110 : decode cX2_wearDown 110 = .ok (.iconst 1, 1) := by decide +kernel
theorem dX2_wearDown_111 : decode cX2_wearDown 111 = .ok (.iadd, 1) := by decide +kernel
theorem dX2_wearDown_112 : decode cX2_wearDown 112 = .ok (.iastore, 1) := by decide +kernel
theorem dX2_wearDown_113 : decode cX2_wearDown 113 = .ok (.iinc 4 1, 3) := by decide +kernel
theorem dX2_wearDown_116 : decode cX2_wearDown 116 = .ok (.goto (-29), 3) := by decide +kernel
theorem dX2_wearDown_119 : decode cX2_wearDown 119 = .ok (.return_, 1) := by decide +kernel
set_option maxRecDepth 20000 in
theorem ggX3_init_X2_init : GoodIn wsX3_init wsX2_init := goodIn_r _ [10, 11, 2, 3, 12, 13, 14, 15, 16, 17, 18, 19, 20, 21, 22, 23, 24, 25, 26, 27, 28, 29, 30, 31, 32, 33, 34, 35, 36, 37, 38, 39, 40, 41, 42, 43, 44, 45, 46, 47, 48, 49, 50, 51, 52, 53, 54, 55, 56, 57, 58, 59, 60, 61, 62, 63, 75, 76, 77, 78, 79, 67, 68, 69, 70, 71, 72, 73, 74, 80, 81, 82, 83, 84, 85, 86, 87, 88, 89, 90, 91, 92] (by decide +kernel) (by decide +kernel)
set_option maxRecDepth 20000 in
theorem gX3_init_X2_init : GoodIn wsX3_init (wsX2_init) := ggX3_init_X2_init
theorem dX3_init_0 : decode cX3_init 0 = .ok (.aload_n 0, 1) := by decide +kernel
theorem dX3_init_1 : decode cX3_init 1 = .ok (.invokespecial 3, 3) := by decide +kernel
theorem dX3_init_4 : decode cX3_init 4 = .ok (.aload_n 0, 1) := by decide +kernel
theorem dX3_init_5 : decode cX3_init 5 = .ok (.iconst 4, 1) := by decide +kernel
theorem dX3_init_6 : decode cX3_init 6 = .ok (.anewarray 9, 3) := by decide +kernel
theorem dX3_init_9 : decode cX3_init 9 = .ok (.putfield 11, 3) := by decide +kernel
theorem dX3_init_12 : decode cX3_init 12 = .ok (.iconst 0, 1) := by decide +kernel
theorem dX3_init_13 : decode cX3_init 13 = .ok (.istore_n 1, 1) := by decide +kernel
theorem dX3_init_14 : decode cX3_init 14 = .ok (.iload_n 1, 1) := by decide +kernel
theorem dX3_init_15 : decode cX3_init 15 = .ok (.iconst 4, 1) := by decide +kernel
theorem dX3_init_16 : decode cX3_init 16 = .ok (.if_icmp .ge 22, 3) := by decide +kernel
theorem dX3_init_19 : decode cX3_init 19 = .ok (.aload_n 0, 1) := by decide +kernel
theorem dX3_init_20 : decode cX3_init 20 = .ok (.getfield 11, 3) := by decide +kernel
theorem dX3_init_23 : decode cX3_init 23 = .ok (.iload_n 1, 1) := by decide +kernel
theorem dX3_init_24 : decode cX3_init 24 = .ok (.new 9, 3) := by decide +kernel
theorem dX3_init_27 : decode cX3_init 27 = .ok (.dup, 1) := by decide +kernel
theorem dX3_init_28 : decode cX3_init 28 = .ok (.invokespecial 17, 3) := by decide +kernel
theorem dX3_init_31 : decode cX3_init 31 = .ok (.aastore, 1) := by decide +kernel
theorem dX3_init_32 : decode cX3_init 32 = .ok (.iinc 1 1, 3) := by decide +kernel
theorem dX3_init_35 : decode cX3_init 35 = .ok (.goto (-21), 3) := by decide +kernel
theorem dX3_init_38 : decode cX3_init 38 = .ok (.return_, 1) := by decide +kernel
set_option maxRecDepth 20000 in
theorem ggX3_record_X2_copyFrom : GoodIn wsX3_record wsX2_copyFrom := goodIn_r _ [12, 13, 14, 15, 16, 17, 18, 19, 20, 21, 22, 23, 24, 25, 26, 27, 28, 29, 30, 31, 32, 33, 34, 35, 36, 37, 38, 39, 40, 41, 42, 43, 44, 45, 46, 47, 48, 49, 50, 51, 52, 53, 54, 55, 56, 57, 58, 59, 60, 61, 62, 63, 64, 65, 69, 70, 71, 72, 73, 74, 75, 76, 77, 78, 79, 80, 81, 82, 83, 84, 85, 86, 87, 88, 89, 90, 91, 92, 93, 94] (by decide +kernel) (by decide +kernel)
set_option maxRecDepth 20000 in
theorem gX3_record_X2_copyFrom : GoodIn wsX3_record (wsV RX3 22 RX2 yX2_copyFrom wsX2_copyFrom) := goodIn_app (goodIn_of _ (by decide +kernel)) ggX3_record_X2_copyFrom
theorem dX3_record_0 : decode cX3_record 0 = .ok (.aload_n 0, 1) := by decide +kernel
theorem dX3_record_1 : decode cX3_record 1 = .ok (.getfield 11, 3) := by decide +kernel
theorem dX3_record_4 : decode cX3_record 4 = .ok (.aload_n 0, 1) := by decide +kernel
theorem dX3_record_5 : decode cX3_record 5 = .ok (.getfield 18, 3) := by decide +kernel
theorem dX3_record_8 : decode cX3_record 8 = .ok (.aaload, 1) := by decide +kernel
theorem dX3_record_9 : decode cX3_record 9 = .ok (.aload_n 1, 1) := by decide +kernel
theorem dX3_record_10 : decode cX3_record 10 = .ok (.invokevirtual 22, 3) := by decide +kernel
theorem dX3_record_13 : decode cX3_record 13 = .ok (.aload_n 0, 1) := by decide +kernel
theorem dX3_record_14 : decode cX3_record 14 = .ok (.aload_n 0, 1) := by decide +kernel
theorem dX3_record_15 : decode cX3_record 15 = .ok (.getfield 18, 3) := by decide +kernel
theorem dX3_record_18 : decode cX3_record 18 = .ok (.iconst 1, 1) := by decide +kernel
theorem dX3_record_19 : decode cX3_record 19 = .ok (.iadd, 1) := by decide +kernel
theorem dX3_record_20 : decode cX3_record 20 = .ok (.iconst 4, 1) := by decide +kernel
theorem dX3_record_21 : decode cX3_record 21 = .ok (.irem, 1) := by decide +kernel
theorem dX3_record_22 : decode cX3_record 22 = .ok (.putfield 18, 3) := by decide +kernel
theorem dX3_record_25 : decode cX3_record 25 = .ok (.aload_n 0, 1) := by decide +kernel
theorem dX3_record_26 : decode cX3_record 26 = .ok (.aload_n 0, 1) := by decide +kernel
theorem dX3_record_27 : decode cX3_record 27 = .ok (.getfield 26, 3) := by decide +kernel
theorem dX3_record_30 : decode cX3_record 30 = .ok (.iconst 1, 1) := by decide +kernel
theorem dX3_record_31 : decode cX3_record 31 = .ok (.iadd, 1) := by decide +kernel
theorem dX3_record_32 : decode cX3_record 32 = .ok (.iconst 4, 1) := by decide +kernel
theorem dX3_record_33 : decode cX3_record 33 = .ok (.invokestatic 29, 3) := by decide +kernel
theorem dX3_record_36 : decode cX3_record 36 = .ok (.putfield 26, 3) := by decide +kernel
theorem dX3_record_39 : decode cX3_record 39 = .ok (.return_, 1) := by decide +kernel
set_option maxRecDepth 20000 in
theorem ggX3_giveBack_X2_copyFrom : GoodIn wsX3_giveBack wsX2_copyFrom := goodIn_r _ [8, 9, 10, 11, 12, 13, 14, 15, 16, 17, 18, 19, 20, 21, 22, 23, 24, 25, 26, 27, 28, 29, 30, 31, 32, 33, 34, 35, 36, 37, 38, 39, 40, 41, 42, 43, 44, 45, 46, 47, 48, 49, 50, 51, 52, 53, 54, 55, 56, 57, 58, 59, 60, 61, 65, 66, 67, 68, 69, 70, 71, 72, 73, 74, 75, 76, 77, 78, 79, 80, 81, 82, 83, 84, 85, 86, 87, 88, 89, 90] (by decide +kernel) (by decide +kernel)
set_option maxRecDepth 20000 in
theorem gX3_giveBack_X2_copyFrom : GoodIn wsX3_giveBack (wsV RX3 22 RX2 yX2_copyFrom wsX2_copyFrom) := goodIn_app (goodIn_of _ (by decide +kernel)) ggX3_giveBack_X2_copyFrom
theorem dX3_giveBack_0 : decode cX3_giveBack 0 = .ok (.aload_n 0, 1) := by decide +kernel
theorem dX3_giveBack_1 : decode cX3_giveBack 1 = .ok (.getfield 26, 3) := by decide +kernel
theorem dX3_giveBack_4 : decode cX3_giveBack 4 = .ok (.ifCond .le 40, 3) := by decide +kernel
theorem dX3_giveBack_7 : decode cX3_giveBack 7 = .ok (.aload_n 0, 1) := by decide +kernel
theorem dX3_giveBack_8 : decode cX3_giveBack 8 = .ok (.aload_n 0, 1) := by decide +kernel
theorem dX3_giveBack_9 : decode cX3_giveBack 9 = .ok (.getfield 18, 3) := by decide +kernel
theorem dX3_giveBack_12 : decode cX3_giveBack 12 = .ok (.iconst 4, 1) := by decide +kernel
theorem dX3_giveBack_13 : decode cX3_giveBack 13 = .ok (.iadd, 1) := by decide +kernel
theorem dX3_giveBack_14 : decode cX3_giveBack 14 = .ok (.iconst 1, 1) := by decide +kernel
theorem dX3_giveBack_15 : decode cX3_giveBack 15 = .ok (.isub, 1) := by decide +kernel
theorem dX3_giveBack_16 : decode cX3_giveBack 16 = .ok (.iconst 4, 1) := by decide +kernel
theorem dX3_giveBack_17 : decode cX3_giveBack 17 = .ok (.irem, 1) := by decide +kernel
theorem dX3_giveBack_18 : decode cX3_giveBack 18 = .ok (.putfield 18, 3) := by decide +kernel
theorem dX3_giveBack_21 : decode cX3_giveBack 21 = .ok (.aload_n 1, 1) := by decide +kernel
theorem dX3_giveBack_22 : decode cX3_giveBack 22 = .ok (.aload_n 0, 1) := by decide +kernel
theorem dX3_giveBack_23 : decode cX3_giveBack 23 = .ok (.getfield 11, 3) := by decide +kernel
theorem dX3_giveBack_26 : decode cX3_giveBack 26 = .ok (.aload_n 0, 1) := by decide +kernel
theorem dX3_giveBack_27 : decode cX3_giveBack 27 = .ok (.getfield 18, 3) := by decide +kernel
theorem dX3_giveBack_30 : decode cX3_giveBack 30 = .ok (.aaload, 1) := by decide +kernel
theorem dX3_giveBack_31 : decode cX3_giveBack 31 = .ok (.invokevirtual 22, 3) := by decide +kernel
theorem dX3_giveBack_34 : decode cX3_giveBack 34 = .ok (.aload_n 0, 1) := by decide +kernel
theorem dX3_giveBack_35 : decode cX3_giveBack 35 = .ok (.dup, 1) := by decide +kernel
theorem dX3_giveBack_36 : decode cX3_giveBack 36 = .ok (.getfield 26, 3) := by decide +kernel
theorem dX3_giveBack_39 : decode cX3_giveBack 39 = .ok (.iconst 1, 1) := by decide +kernel
theorem dX3_giveBack_40 : decode cX3_giveBack 40 = .ok (.isub, 1) := by decide +kernel
theorem dX3_giveBack_41 : decode cX3_giveBack 41 = .ok (.putfield 26, 3) := by decide +kernel
theorem dX3_giveBack_44 : decode cX3_giveBack 44 = .ok (.return_, 1) := by decide +kernel
theorem dX4_init_0 : decode cX4_init 0 = .ok (.aload_n 0, 1) := by decide +kernel
theorem dX4_init_1 : decode cX4_init 1 = .ok (.invokespecial 3, 3) := by decide +kernel
theorem dX4_init_4 : decode cX4_init 4 = .ok (.aload_n 0, 1) := by decide +kernel
theorem dX4_init_5 : decode cX4_init 5 = .ok (.bipush 20, 2) := by decide +kernel
theorem dX4_init_7 : decode cX4_init 7 = .ok (.newarray .int, 2) := by decide +kernel
theorem dX4_init_9 : decode cX4_init 9 = .ok (.putfield 9, 3) := by decide +kernel
theorem dX4_init_12 : decode cX4_init 12 = .ok (.aload_n 0, 1) := by decide +kernel
theorem dX4_init_13 : decode cX4_init 13 = .ok (.bipush 20, 2) := by decide +kernel
theorem dX4_init_15 : decode cX4_init 15 = .ok (.newarray .int, 2) := by decide +kernel
theorem dX4_init_17 : decode cX4_init 17 = .ok (.putfield 15, 3) := by decide +kernel
theorem dX4_init_20 : decode cX4_init 20 = .ok (.aload_n 0, 1) := by decide +kernel
theorem dX4_init_21 : decode cX4_init 21 = .ok (.bipush 20, 2) := by decide +kernel
theorem dX4_init_23 : decode cX4_init 23 = .ok (.newarray .int, 2) := by decide +kernel
theorem dX4_init_25 : decode cX4_init 25 = .ok (.putfield 18, 3) := by decide +kernel
theorem dX4_init_28 : decode cX4_init 28 = .ok (.aload_n 0, 1) := by decide +kernel
theorem dX4_init_29 : decode cX4_init 29 = .ok (.bipush 20, 2) := by decide +kernel
theorem dX4_init_31 : decode cX4_init 31 = .ok (.newarray .int, 2) := by decide +kernel
theorem dX4_init_33 : decode cX4_init 33 = .ok (.putfield 21, 3) := by decide +kernel
theorem dX4_init_36 : decode cX4_init 36 = .ok (.return_, 1) := by decide +kernel
theorem dX4_copyFrom_0 : decode cX4_copyFrom 0 = .ok (.aload_n 0, 1) := by decide +kernel
theorem dX4_copyFrom_1 : decode cX4_copyFrom 1 = .ok (.aload_n 1, 1) := by decide +kernel
theorem dX4_copyFrom_2 : decode cX4_copyFrom 2 = .ok (.getfield 24, 3) := by decide +kernel
theorem dX4_copyFrom_5 : decode cX4_copyFrom 5 = .ok (.putfield 24, 3) := by decide +kernel
theorem dX4_copyFrom_8 : decode cX4_copyFrom 8 = .ok (.aload_n 1, 1) := by decide +kernel
theorem dX4_copyFrom_9 : decode cX4_copyFrom 9 = .ok (.getfield 9, 3) := by decide +kernel
theorem dX4_copyFrom_12 : decode cX4_copyFrom 12 = .ok (.iconst 0, 1) := by decide +kernel
theorem dX4_copyFrom_13 : decode cX4_copyFrom 13 = .ok (.aload_n 0, 1) := by decide +kernel
theorem dX4_copyFrom_14 : decode cX4_copyFrom 14 = .ok (.getfield 9, 3) := by decide +kernel
theorem dX4_copyFrom_17 : decode cX4_copyFrom 17 = .ok (.iconst 0, 1) := by decide +kernel
theorem dX4_copyFrom_18 : decode cX4_copyFrom 18 = .ok (.bipush 20, 2) := by decide +kernel
theorem dX4_copyFrom_20 : decode cX4_copyFrom 20 = .ok (.invokestatic 28, 3) := by decide +kernel
theorem dX4_copyFrom_23 : decode cX4_copyFrom 23 = .ok (.aload_n 1, 1) := by decide +kernel
theorem dX4_copyFrom_24 : decode cX4_copyFrom 24 = .ok (.getfield 15, 3) := by decide +kernel
theorem dX4_copyFrom_27 : decode cX4_copyFrom 27 = .ok (.iconst 0, 1) := by decide +kernel
theorem dX4_copyFrom_28 : decode cX4_copyFrom 28 = .ok (.aload_n 0, 1) := by decide +kernel
theorem dX4_copyFrom_29 : decode cX4_copyFrom 29 = .ok (.getfield 15, 3) := by decide +kernel
theorem dX4_copyFrom_32 : decode cX4_copyFrom 32 = .ok (.iconst 0, 1) := by decide +kernel
theorem dX4_copyFrom_33 : decode cX4_copyFrom 33 = .ok (.bipush 20, 2) := by decide +kernel
theorem dX4_copyFrom_35 : decode cX4_copyFrom 35 = .ok (.invokestatic 28, 3) := by decide +kernel
theorem dX4_copyFrom_38 : decode cX4_copyFrom 38 = .ok (.aload_n 1, 1) := by decide +kernel
theorem dX4_copyFrom_39 : decode cX4_copyFrom 39 = .ok (.getfield 18, 3) := by decide +kernel
theorem dX4_copyFrom_42 : decode cX4_copyFrom 42 = .ok (.iconst 0, 1) := by decide +kernel
theorem dX4_copyFrom_43 : decode cX4_copyFrom 43 = .ok (.aload_n 0, 1) := by decide +kernel
theorem dX4_copyFrom_44 : decode cX4_copyFrom 44 = .ok (.getfield 18, 3) := by decide +kernel
theorem dX4_copyFrom_47 : decode cX4_copyFrom 47 = .ok (.iconst 0, 1) := by decide +kernel
theorem dX4_copyFrom_48 : decode cX4_copyFrom 48 = .ok (.bipush 20, 2) := by decide +kernel
theorem dX4_copyFrom_50 : decode cX4_copyFrom 50 = .ok (.invokestatic 28, 3) := by decide +kernel
theorem dX4_copyFrom_53 : decode cX4_copyFrom 53 = .ok (.aload_n 1, 1) := by decide +kernel
theorem dX4_copyFrom_54 : decode cX4_copyFrom 54 = .ok (.getfield 21, 3) := by decide +kernel
theorem dX4_copyFrom_57 : decode cX4_copyFrom 57 = .ok (.iconst 0, 1) := by decide +kernel
theorem dX4_copyFrom_58 : decode cX4_copyFrom 58 = .ok (.aload_n 0, 1) := by decide +kernel
theorem dX4_copyFrom_59 : decode cX4_copyFrom 59 = .ok (.getfield 21, 3) := by decide +kernel
theorem dX4_copyFrom_62 : decode cX4_copyFrom 62 = .ok (.iconst 0, 1) := by decide +kernel
theorem dX4_copyFrom_63 : decode cX4_copyFrom 63 = .ok (.bipush 20, 2) := by decide +kernel
theorem dX4_copyFrom_65 : decode cX4_copyFrom 65 = .ok (.invokestatic 28, 3) := by decide +kernel
theorem dX4_copyFrom_68 : decode cX4_copyFrom 68 = .ok (.return_, 1) := by decide +kernel
theorem dX4_has_0 : decode cX4_has 0 = .ok (.iload_n 1, 1) := by decide +kernel
theorem dX4_has_1 : decode cX4_has 1 = .ok (.ifCond .lt 15, 3) := by decide +kernel
theorem dX4_has_4 : decode cX4_has 4 = .ok (.iload_n 1, 1) := by decide +kernel
theorem dX4_has_5 : decode cX4_has 5 = .ok (.aload_n 0, 1) := by decide +kernel
theorem dX4_has_6 : decode cX4_has 6 = .ok (.getfield 24, 3) := by decide +kernel
theorem dX4_has_9 : decode cX4_has 9 = .ok (.if_icmp .ge 7, 3) := by decide +kernel
theorem dX4_has_12 : decode cX4_has 12 = .ok (.iconst 1, 1) := by decide +kernel
theorem dX4_has_13 : decode cX4_has 13 = .ok (.goto 4, 3) := by decide +kernel
theorem dX4_has_16 : decode cX4_has 16 = .ok (.iconst 0, 1) := by decide +kernel
theorem dX4_has_17 : decode cX4_has 17 = .ok (.ireturn, 1) := by decide +kernel
theorem dX4_isFull_0 : decode cX4_isFull 0 = .ok (.aload_n 0, 1) := by decide +kernel
theorem dX4_isFull_1 : decode cX4_isFull 1 = .ok (.getfield 24, 3) := by decide +kernel
theorem dX4_isFull_4 : decode cX4_isFull 4 = .ok (.bipush 20, 2) := by decide +kernel
theorem dX4_isFull_6 : decode cX4_isFull 6 = .ok (.if_icmp .lt 7, 3) := by decide +kernel
theorem dX4_isFull_9 : decode cX4_isFull 9 = .ok (.iconst 1, 1) := by decide +kernel
theorem dX4_isFull_10 : decode cX4_isFull 10 = .ok (.goto 4, 3) := by decide +kernel
theorem dX4_isFull_13 : decode cX4_isFull 13 = .ok (.iconst 0, 1) := by decide +kernel
theorem dX4_isFull_14 : decode cX4_isFull 14 = .ok (.ireturn, 1) := by decide +kernel
theorem dX4_tell_0 : decode cX4_tell 0 = .ok (.iload_n 2, 1) := by decide +kernel
theorem dX4_tell_1 : decode cX4_tell 1 = .ok (.lookupswitch 41 #[(0, 27), (1, 34)], 27) := by decide +kernel
theorem dX4_tell_28 : decode cX4_tell 28 = .ok (.aload_n 0, 1) := by decide +kernel
theorem dX4_tell_29 : decode cX4_tell 29 = .ok (.getfield 9, 3) := by decide +kernel
theorem dX4_tell_32 : decode cX4_tell 32 = .ok (.iload_n 1, 1) := by decide +kernel
theorem dX4_tell_33 : decode cX4_tell 33 = .ok (.iaload, 1) := by decide +kernel
theorem dX4_tell_34 : decode cX4_tell 34 = .ok (.ireturn, 1) := by decide +kernel
theorem dX4_tell_35 : decode cX4_tell 35 = .ok (.aload_n 0, 1) := by decide +kernel
theorem dX4_tell_36 : decode cX4_tell 36 = .ok (.getfield 15, 3) := by decide +kernel
theorem dX4_tell_39 : decode cX4_tell 39 = .ok (.iload_n 1, 1) := by decide +kernel
theorem dX4_tell_40 : decode cX4_tell 40 = .ok (.iaload, 1) := by decide +kernel
theorem dX4_tell_41 : decode cX4_tell 41 = .ok (.ireturn, 1) := by decide +kernel
theorem dX4_tell_42 : decode cX4_tell 42 = .ok (.aload_n 0, 1) := by decide +kernel
theorem dX4_tell_43 : decode cX4_tell 43 = .ok (.getfield 18, 3) := by decide +kernel
theorem dX4_tell_46 : decode cX4_tell 46 = .ok (.iload_n 1, 1) := by decide +kernel
theorem dX4_tell_47 : decode cX4_tell 47 = .ok (.iaload, 1) := by decide +kernel
theorem dX4_tell_48 : decode cX4_tell 48 = .ok (.ireturn, 1) := by decide +kernel
theorem dX4_lengthOf_0 : decode cX4_lengthOf 0 = .ok (.aload_n 0, 1) := by decide +kernel
theorem dX4_lengthOf_1 : decode cX4_lengthOf 1 = .ok (.getfield 18, 3) := by decide +kernel
theorem dX4_lengthOf_4 : decode cX4_lengthOf 4 = .ok (.iload_n 1, 1) := by decide +kernel
theorem dX4_lengthOf_5 : decode cX4_lengthOf 5 = .ok (.iaload, 1) := by decide +kernel
theorem dX4_lengthOf_6 : decode cX4_lengthOf 6 = .ok (.aload_n 0, 1) := by decide +kernel
theorem dX4_lengthOf_7 : decode cX4_lengthOf 7 = .ok (.getfield 15, 3) := by decide +kernel
theorem dX4_lengthOf_10 : decode cX4_lengthOf 10 = .ok (.iload_n 1, 1) := by decide +kernel
theorem dX4_lengthOf_11 : decode cX4_lengthOf 11 = .ok (.iaload, 1) := by decide +kernel
theorem dX4_lengthOf_12 : decode cX4_lengthOf 12 = .ok (.isub, 1) := by decide +kernel
theorem dX4_lengthOf_13 : decode cX4_lengthOf 13 = .ok (.iconst 1, 1) := by decide +kernel
theorem dX4_lengthOf_14 : decode cX4_lengthOf 14 = .ok (.iadd, 1) := by decide +kernel
theorem dX4_lengthOf_15 : decode cX4_lengthOf 15 = .ok (.ireturn, 1) := by decide +kernel
set_option maxRecDepth 20000 in
theorem ggX4_startOf_X4_lengthOf : GoodIn wsX4_startOf wsX4_lengthOf := goodIn_r _ [6, 7, 8, 9, 10, 11, 12, 13] (by decide +kernel) (by decide +kernel)
set_option maxRecDepth 20000 in
theorem gX4_startOf_X4_lengthOf : GoodIn wsX4_startOf (wsV RX4 34 RX4 yX4_lengthOf wsX4_lengthOf) := goodIn_app (goodIn_of _ (by decide +kernel)) ggX4_startOf_X4_lengthOf
theorem dX4_startOf_0 : decode cX4_startOf 0 = .ok (.iconst 0, 1) := by decide +kernel
theorem dX4_startOf_1 : decode cX4_startOf 1 = .ok (.istore_n 2, 1) := by decide +kernel
theorem dX4_startOf_2 : decode cX4_startOf 2 = .ok (.iconst 0, 1) := by decide +kernel
theorem dX4_startOf_3 : decode cX4_startOf 3 = .ok (.istore_n 3, 1) := by decide +kernel
theorem dX4_startOf_4 : decode cX4_startOf 4 = .ok (.iload_n 3, 1) := by decide +kernel
theorem dX4_startOf_5 : decode cX4_startOf 5 = .ok (.iload_n 1, 1) := by decide +kernel
theorem dX4_startOf_6 : decode cX4_startOf 6 = .ok (.if_icmp .ge 25, 3) := by decide +kernel
theorem dX4_startOf_9 : decode cX4_startOf 9 = .ok (.iload_n 3, 1) := by decide +kernel
theorem dX4_startOf_10 : decode cX4_startOf 10 = .ok (.aload_n 0, 1) := by decide +kernel
theorem dX4_startOf_11 : decode cX4_startOf 11 = .ok (.getfield 24, 3) := by decide +kernel
theorem dX4_startOf_14 : decode cX4_startOf 14 = .ok (.if_icmp .ge 17, 3) := by decide +kernel
theorem dX4_startOf_17 : decode cX4_startOf 17 = .ok (.iload_n 2, 1) := by decide +kernel
theorem dX4_startOf_18 : decode cX4_startOf 18 = .ok (.aload_n 0, 1) := by decide +kernel
theorem dX4_startOf_19 : decode cX4_startOf 19 = .ok (.iload_n 3, 1) := by decide +kernel
theorem dX4_startOf_20 : decode cX4_startOf 20 = .ok (.invokevirtual 34, 3) := by decide +kernel
theorem dX4_startOf_23 : decode cX4_startOf 23 = .ok (.iadd, 1) := by decide +kernel
theorem dX4_startOf_24 : decode cX4_startOf 24 = .ok (.istore_n 2, 1) := by decide +kernel
theorem dX4_startOf_25 : decode cX4_startOf 25 = .ok (.iinc 3 1, 3) := by decide +kernel
theorem dX4_startOf_28 : decode cX4_startOf 28 = .ok (.goto (-24), 3) := by decide +kernel
theorem dX4_startOf_31 : decode cX4_startOf 31 = .ok (.iload_n 2, 1) := by decide +kernel
theorem dX4_startOf_32 : decode cX4_startOf 32 = .ok (.ireturn, 1) := by decide +kernel
set_option maxRecDepth 20000 in
theorem ggX4_allFrames_X4_startOf : GoodIn wsX4_allFrames wsX4_startOf := goodIn_r _ [6, 1, 7, 8, 9, 5, 10, 11, 12, 13, 14, 15, 16, 17] (by decide +kernel) (by decide +kernel)
set_option maxRecDepth 20000 in
theorem gX4_allFrames_X4_startOf : GoodIn wsX4_allFrames (wsV RX4 38 RX4 yX4_startOf wsX4_startOf) := goodIn_app (goodIn_of _ (by decide +kernel)) ggX4_allFrames_X4_startOf
theorem dX4_allFrames_0 : decode cX4_allFrames 0 = .ok (.aload_n 0, 1) := by decide +kernel
theorem dX4_allFrames_1 : decode cX4_allFrames 1 = .ok (.aload_n 0, 1) := by decide +kernel
theorem dX4_allFrames_2 : decode cX4_allFrames 2 = .ok (.getfield 24, 3) := by decide +kernel
theorem dX4_allFrames_5 : decode cX4_allFrames 5 = .ok (.invokevirtual 38, 3) := by decide +kernel
theorem dX4_allFrames_8 : decode cX4_allFrames 8 = .ok (.ireturn, 1) := by decide +kernel
set_option maxRecDepth 20000 in
theorem ggX4_pieceAt_X4_lengthOf : GoodIn wsX4_pieceAt wsX4_lengthOf := goodIn_r _ [6, 7, 8, 9, 10, 11, 12, 13] (by decide +kernel) (by decide +kernel)
set_option maxRecDepth 20000 in
theorem gX4_pieceAt_X4_lengthOf : GoodIn wsX4_pieceAt (wsV RX4 34 RX4 yX4_lengthOf wsX4_lengthOf) := goodIn_app (goodIn_of _ (by decide +kernel)) ggX4_pieceAt_X4_lengthOf
theorem dX4_pieceAt_0 : decode cX4_pieceAt 0 = .ok (.iconst 0, 1) := by decide +kernel
theorem dX4_pieceAt_1 : decode cX4_pieceAt 1 = .ok (.istore_n 2, 1) := by decide +kernel
theorem dX4_pieceAt_2 : decode cX4_pieceAt 2 = .ok (.iconst 0, 1) := by decide +kernel
theorem dX4_pieceAt_3 : decode cX4_pieceAt 3 = .ok (.istore_n 3, 1) := by decide +kernel
theorem dX4_pieceAt_4 : decode cX4_pieceAt 4 = .ok (.iload_n 3, 1) := by decide +kernel
theorem dX4_pieceAt_5 : decode cX4_pieceAt 5 = .ok (.aload_n 0, 1) := by decide +kernel
theorem dX4_pieceAt_6 : decode cX4_pieceAt 6 = .ok (.getfield 24, 3) := by decide +kernel
theorem dX4_pieceAt_9 : decode cX4_pieceAt 9 = .ok (.if_icmp .ge 24, 3) := by decide +kernel
theorem dX4_pieceAt_12 : decode cX4_pieceAt 12 = .ok (.iload_n 2, 1) := by decide +kernel
theorem dX4_pieceAt_13 : decode cX4_pieceAt 13 = .ok (.aload_n 0, 1) := by decide +kernel
theorem dX4_pieceAt_14 : decode cX4_pieceAt 14 = .ok (.iload_n 3, 1) := by decide +kernel
theorem dX4_pieceAt_15 : decode cX4_pieceAt 15 = .ok (.invokevirtual 34, 3) := by decide +kernel
theorem dX4_pieceAt_18 : decode cX4_pieceAt 18 = .ok (.iadd, 1) := by decide +kernel
theorem dX4_pieceAt_19 : decode cX4_pieceAt 19 = .ok (.istore_n 2, 1) := by decide +kernel
theorem dX4_pieceAt_20 : decode cX4_pieceAt 20 = .ok (.iload_n 1, 1) := by decide +kernel
theorem dX4_pieceAt_21 : decode cX4_pieceAt 21 = .ok (.iload_n 2, 1) := by decide +kernel
theorem dX4_pieceAt_22 : decode cX4_pieceAt 22 = .ok (.if_icmp .ge 5, 3) := by decide +kernel
theorem dX4_pieceAt_25 : decode cX4_pieceAt 25 = .ok (.iload_n 3, 1) := by decide +kernel
theorem dX4_pieceAt_26 : decode cX4_pieceAt 26 = .ok (.ireturn, 1) := by decide +kernel
theorem dX4_pieceAt_27 : decode cX4_pieceAt 27 = .ok (.iinc 3 1, 3) := by decide +kernel
theorem dX4_pieceAt_30 : decode cX4_pieceAt 30 = .ok (.goto (-26), 3) := by decide +kernel
theorem dX4_pieceAt_33 : decode cX4_pieceAt 33 = .ok (.bipush (-5), 2) := by decide +kernel
theorem dX4_pieceAt_35 : decode cX4_pieceAt 35 = .ok (.ireturn, 1) := by decide +kernel
set_option maxRecDepth 20000 in
theorem ggX4_positionOf_X8_isWithin : GoodIn wsX4_positionOf wsX8_isWithin := goodIn_r _ [7] (by decide +kernel) (by decide +kernel)
set_option maxRecDepth 20000 in
theorem gX4_positionOf_X8_isWithin_n41 : GoodIn wsX4_positionOf (wsX8_isWithin) := ggX4_positionOf_X8_isWithin
set_option maxRecDepth 20000 in
theorem ggX4_positionOf_X4_lengthOf : GoodIn wsX4_positionOf wsX4_lengthOf := goodIn_r _ [12, 4, 3, 13, 14, 15, 16, 17] (by decide +kernel) (by decide +kernel)
set_option maxRecDepth 20000 in
theorem gX4_positionOf_X4_lengthOf : GoodIn wsX4_positionOf (wsV RX4 34 RX4 yX4_lengthOf wsX4_lengthOf) := goodIn_app (goodIn_of _ (by decide +kernel)) ggX4_positionOf_X4_lengthOf
theorem dX4_positionOf_0 : decode cX4_positionOf 0 = .ok (.iconst 0, 1) := by decide +kernel
theorem dX4_positionOf_1 : decode cX4_positionOf 1 = .ok (.istore_n 3, 1) := by decide +kernel
theorem dX4_positionOf_2 : decode cX4_positionOf 2 = .ok (.iconst 0, 1) := by decide +kernel
theorem dX4_positionOf_3 : decode cX4_positionOf 3 = .ok (.istore 4, 2) := by decide +kernel
theorem dX4_positionOf_5 : decode cX4_positionOf 5 = .ok (.iload 4, 2) := by decide +kernel
theorem dX4_positionOf_7 : decode cX4_positionOf 7 = .ok (.aload_n 0, 1) := by decide +kernel
theorem dX4_positionOf_8 : decode cX4_positionOf 8 = .ok (.getfield 24, 3) := by decide +kernel
theorem dX4_positionOf_11 : decode cX4_positionOf 11 = .ok (.if_icmp .ge 62, 3) := by decide +kernel
theorem dX4_positionOf_14 : decode cX4_positionOf 14 = .ok (.aload_n 0, 1) := by decide +kernel
theorem dX4_positionOf_15 : decode cX4_positionOf 15 = .ok (.getfield 9, 3) := by decide +kernel
theorem dX4_positionOf_18 : decode cX4_positionOf 18 = .ok (.iload 4, 2) := by decide +kernel
theorem dX4_positionOf_20 : decode cX4_positionOf 20 = .ok (.iaload, 1) := by decide +kernel
theorem dX4_positionOf_21 : decode cX4_positionOf 21 = .ok (.iload_n 1, 1) := by decide +kernel
theorem dX4_positionOf_22 : decode cX4_positionOf 22 = .ok (.if_icmp .ne 36, 3) := by decide +kernel
theorem dX4_positionOf_25 : decode cX4_positionOf 25 = .ok (.iload_n 2, 1) := by decide +kernel
theorem dX4_positionOf_26 : decode cX4_positionOf 26 = .ok (.aload_n 0, 1) := by decide +kernel
theorem dX4_positionOf_27 : decode cX4_positionOf 27 = .ok (.getfield 15, 3) := by decide +kernel
theorem dX4_positionOf_30 : decode cX4_positionOf 30 = .ok (.iload 4, 2) := by decide +kernel
theorem dX4_positionOf_32 : decode cX4_positionOf 32 = .ok (.iaload, 1) := by decide +kernel
theorem dX4_positionOf_33 : decode cX4_positionOf 33 = .ok (.aload_n 0, 1) := by decide +kernel
theorem dX4_positionOf_34 : decode cX4_positionOf 34 = .ok (.getfield 18, 3) := by decide +kernel
theorem dX4_positionOf_37 : decode cX4_positionOf 37 = .ok (.iload 4, 2) := by decide +kernel
theorem dX4_positionOf_39 : decode cX4_positionOf 39 = .ok (.iaload, 1) := by decide +kernel
theorem dX4_positionOf_40 : decode cX4_positionOf 40 = .ok (.invokestatic 41, 3) := by decide +kernel
theorem dX4_positionOf_43 : decode cX4_positionOf 43 = .ok (.ifCond .eq 15, 3) := by decide +kernel
theorem dX4_positionOf_46 : decode cX4_positionOf 46 = .ok (.iload_n 3, 1) := by decide +kernel
theorem dX4_positionOf_47 : decode cX4_positionOf 47 = .ok (.iload_n 2, 1) := by decide +kernel
theorem dX4_positionOf_48 : decode cX4_positionOf 48 = .ok (.iadd, 1) := by decide +kernel
theorem dX4_positionOf_49 : decode cX4_positionOf 49 = .ok (.aload_n 0, 1) := by decide +kernel
theorem dX4_positionOf_50 : decode cX4_positionOf 50 = .ok (.getfield 15, 3) := by decide +kernel
theorem dX4_positionOf_53 : decode cX4_positionOf 53 = .ok (.iload 4, 2) := by decide +kernel
theorem dX4_positionOf_55 : decode cX4_positionOf 55 = .ok (.iaload, 1) := by decide +kernel
theorem dX4_positionOf_56 : decode cX4_positionOf 56 = .ok (.isub, 1) := by decide +kernel
theorem dX4_positionOf_57 : decode cX4_positionOf 57 = .ok (.ireturn, 1) := by decide +kernel
theorem dX4_positionOf_58 : decode cX4_positionOf 58 = .ok (.iload_n 3, 1) := by decide +kernel
theorem dX4_positionOf_59 : decode cX4_positionOf 59 = .ok (.aload_n 0, 1) := by decide +kernel
theorem dX4_positionOf_60 : decode cX4_positionOf 60 = .ok (.iload 4, 2) := by decide +kernel
theorem dX4_positionOf_62 : decode cX4_positionOf 62 = .ok (.invokevirtual 34, 3) := by decide +kernel
theorem dX4_positionOf_65 : decode cX4_positionOf 65 = .ok (.iadd, 1) := by decide +kernel
theorem dX4_positionOf_66 : decode cX4_positionOf 66 = .ok (.istore_n 3, 1) := by decide +kernel
theorem dX4_positionOf_67 : decode cX4_positionOf 67 = .ok (.iinc 4 1, 3) := by decide +kernel
theorem dX4_positionOf_70 : decode cX4_positionOf 70 = .ok (.goto (-65), 3) := by decide +kernel
theorem dX4_positionOf_73 : decode cX4_positionOf 73 = .ok (.bipush (-5), 2) := by decide +kernel
theorem dX4_positionOf_75 : decode cX4_positionOf 75 = .ok (.ireturn, 1) := by decide +kernel
set_option maxRecDepth 20000 in
theorem ggX4_framesOf_X4_lengthOf : GoodIn wsX4_framesOf wsX4_lengthOf := goodIn_r _ [7, 8, 9, 10, 11, 12, 13, 14] (by decide +kernel) (by decide +kernel)
set_option maxRecDepth 20000 in
theorem gX4_framesOf_X4_lengthOf : GoodIn wsX4_framesOf (wsV RX4 34 RX4 yX4_lengthOf wsX4_lengthOf) := goodIn_app (goodIn_of _ (by decide +kernel)) ggX4_framesOf_X4_lengthOf
theorem dX4_framesOf_0 : decode cX4_framesOf 0 = .ok (.iconst 0, 1) := by decide +kernel
theorem dX4_framesOf_1 : decode cX4_framesOf 1 = .ok (.istore_n 2, 1) := by decide +kernel
theorem dX4_framesOf_2 : decode cX4_framesOf 2 = .ok (.iconst 0, 1) := by decide +kernel
theorem dX4_framesOf_3 : decode cX4_framesOf 3 = .ok (.istore_n 3, 1) := by decide +kernel
theorem dX4_framesOf_4 : decode cX4_framesOf 4 = .ok (.iload_n 3, 1) := by decide +kernel
theorem dX4_framesOf_5 : decode cX4_framesOf 5 = .ok (.aload_n 0, 1) := by decide +kernel
theorem dX4_framesOf_6 : decode cX4_framesOf 6 = .ok (.getfield 24, 3) := by decide +kernel
theorem dX4_framesOf_9 : decode cX4_framesOf 9 = .ok (.if_icmp .ge 31, 3) := by decide +kernel
theorem dX4_framesOf_12 : decode cX4_framesOf 12 = .ok (.iload_n 2, 1) := by decide +kernel
theorem dX4_framesOf_13 : decode cX4_framesOf 13 = .ok (.aload_n 0, 1) := by decide +kernel
theorem dX4_framesOf_14 : decode cX4_framesOf 14 = .ok (.getfield 9, 3) := by decide +kernel
theorem dX4_framesOf_17 : decode cX4_framesOf 17 = .ok (.iload_n 3, 1) := by decide +kernel
theorem dX4_framesOf_18 : decode cX4_framesOf 18 = .ok (.iaload, 1) := by decide +kernel
theorem dX4_framesOf_19 : decode cX4_framesOf 19 = .ok (.iload_n 1, 1) := by decide +kernel
theorem dX4_framesOf_20 : decode cX4_framesOf 20 = .ok (.if_icmp .ne 11, 3) := by decide +kernel
theorem dX4_framesOf_23 : decode cX4_framesOf 23 = .ok (.aload_n 0, 1) := by decide +kernel
theorem dX4_framesOf_24 : decode cX4_framesOf 24 = .ok (.iload_n 3, 1) := by decide +kernel
theorem dX4_framesOf_25 : decode cX4_framesOf 25 = .ok (.invokevirtual 34, 3) := by decide +kernel
theorem dX4_framesOf_28 : decode cX4_framesOf 28 = .ok (.goto 4, 3) := by decide +kernel
theorem dX4_framesOf_31 : decode cX4_framesOf 31 = .ok (.iconst 0, 1) := by decide +kernel
theorem dX4_framesOf_32 : decode cX4_framesOf 32 = .ok (.iadd, 1) := by decide +kernel
theorem dX4_framesOf_33 : decode cX4_framesOf 33 = .ok (.istore_n 2, 1) := by decide +kernel
theorem dX4_framesOf_34 : decode cX4_framesOf 34 = .ok (.iinc 3 1, 3) := by decide +kernel
theorem dX4_framesOf_37 : decode cX4_framesOf 37 = .ok (.goto (-33), 3) := by decide +kernel
theorem dX4_framesOf_40 : decode cX4_framesOf 40 = .ok (.iload_n 2, 1) := by decide +kernel
theorem dX4_framesOf_41 : decode cX4_framesOf 41 = .ok (.ireturn, 1) := by decide +kernel
theorem dX4_piecesOf_0 : decode cX4_piecesOf 0 = .ok (.iconst 0, 1) := by decide +kernel
theorem dX4_piecesOf_1 : decode cX4_piecesOf 1 = .ok (.istore_n 2, 1) := by decide +kernel
theorem dX4_piecesOf_2 : decode cX4_piecesOf 2 = .ok (.iconst 0, 1) := by decide +kernel
theorem dX4_piecesOf_3 : decode cX4_piecesOf 3 = .ok (.istore_n 3, 1) := by decide +kernel
theorem dX4_piecesOf_4 : decode cX4_piecesOf 4 = .ok (.iload_n 3, 1) := by decide +kernel
theorem dX4_piecesOf_5 : decode cX4_piecesOf 5 = .ok (.aload_n 0, 1) := by decide +kernel
theorem dX4_piecesOf_6 : decode cX4_piecesOf 6 = .ok (.getfield 24, 3) := by decide +kernel
theorem dX4_piecesOf_9 : decode cX4_piecesOf 9 = .ok (.if_icmp .ge 27, 3) := by decide +kernel
theorem dX4_piecesOf_12 : decode cX4_piecesOf 12 = .ok (.iload_n 2, 1) := by decide +kernel
theorem dX4_piecesOf_13 : decode cX4_piecesOf 13 = .ok (.aload_n 0, 1) := by decide +kernel
theorem dX4_piecesOf_14 : decode cX4_piecesOf 14 = .ok (.getfield 9, 3) := by decide +kernel
theorem dX4_piecesOf_17 : decode cX4_piecesOf 17 = .ok (.iload_n 3, 1) := by decide +kernel
theorem dX4_piecesOf_18 : decode cX4_piecesOf 18 = .ok (.iaload, 1) := by decide +kernel
theorem dX4_piecesOf_19 : decode cX4_piecesOf 19 = .ok (.iload_n 1, 1) := by decide +kernel
theorem dX4_piecesOf_20 : decode cX4_piecesOf 20 = .ok (.if_icmp .ne 7, 3) := by decide +kernel
theorem dX4_piecesOf_23 : decode cX4_piecesOf 23 = .ok (.iconst 1, 1) := by decide +kernel
theorem dX4_piecesOf_24 : decode cX4_piecesOf 24 = .ok (.goto 4, 3) := by decide +kernel
theorem dX4_piecesOf_27 : decode cX4_piecesOf 27 = .ok (.iconst 0, 1) := by decide +kernel
theorem dX4_piecesOf_28 : decode cX4_piecesOf 28 = .ok (.iadd, 1) := by decide +kernel
theorem dX4_piecesOf_29 : decode cX4_piecesOf 29 = .ok (.istore_n 2, 1) := by decide +kernel
theorem dX4_piecesOf_30 : decode cX4_piecesOf 30 = .ok (.iinc 3 1, 3) := by decide +kernel
theorem dX4_piecesOf_33 : decode cX4_piecesOf 33 = .ok (.goto (-29), 3) := by decide +kernel
theorem dX4_piecesOf_36 : decode cX4_piecesOf 36 = .ok (.iload_n 2, 1) := by decide +kernel
theorem dX4_piecesOf_37 : decode cX4_piecesOf 37 = .ok (.ireturn, 1) := by decide +kernel
theorem dX4_isInOrder_0 : decode cX4_isInOrder 0 = .ok (.iconst (-1), 1) := by decide +kernel
theorem dX4_isInOrder_1 : decode cX4_isInOrder 1 = .ok (.istore_n 2, 1) := by decide +kernel
theorem dX4_isInOrder_2 : decode cX4_isInOrder 2 = .ok (.iconst 0, 1) := by decide +kernel
theorem dX4_isInOrder_3 : decode cX4_isInOrder 3 = .ok (.istore_n 3, 1) := by decide +kernel
theorem dX4_isInOrder_4 : decode cX4_isInOrder 4 = .ok (.iload_n 3, 1) := by decide +kernel
theorem dX4_isInOrder_5 : decode cX4_isInOrder 5 = .ok (.aload_n 0, 1) := by decide +kernel
theorem dX4_isInOrder_6 : decode cX4_isInOrder 6 = .ok (.getfield 24, 3) := by decide +kernel
theorem dX4_isInOrder_9 : decode cX4_isInOrder 9 = .ok (.if_icmp .ge 38, 3) := by decide +kernel
theorem dX4_isInOrder_12 : decode cX4_isInOrder 12 = .ok (.aload_n 0, 1) := by decide +kernel
theorem dX4_isInOrder_13 : decode cX4_isInOrder 13 = .ok (.getfield 9, 3) := by decide +kernel
theorem dX4_isInOrder_16 : decode cX4_isInOrder 16 = .ok (.iload_n 3, 1) := by decide +kernel
theorem dX4_isInOrder_17 : decode cX4_isInOrder 17 = .ok (.iaload, 1) := by decide +kernel
theorem dX4_isInOrder_18 : decode cX4_isInOrder 18 = .ok (.iload_n 1, 1) := by decide +kernel
theorem dX4_isInOrder_19 : decode cX4_isInOrder 19 = .ok (.if_icmp .ne 22, 3) := by decide +kernel
theorem dX4_isInOrder_22 : decode cX4_isInOrder 22 = .ok (.aload_n 0, 1) := by decide +kernel
theorem dX4_isInOrder_23 : decode cX4_isInOrder 23 = .ok (.getfield 15, 3) := by decide +kernel
theorem dX4_isInOrder_26 : decode cX4_isInOrder 26 = .ok (.iload_n 3, 1) := by decide +kernel
theorem dX4_isInOrder_27 : decode cX4_isInOrder 27 = .ok (.iaload, 1) := by decide +kernel
theorem dX4_isInOrder_28 : decode cX4_isInOrder 28 = .ok (.iload_n 2, 1) := by decide +kernel
theorem dX4_isInOrder_29 : decode cX4_isInOrder 29 = .ok (.if_icmp .ge 5, 3) := by decide +kernel
theorem dX4_isInOrder_32 : decode cX4_isInOrder 32 = .ok (.iconst 0, 1) := by decide +kernel
theorem dX4_isInOrder_33 : decode cX4_isInOrder 33 = .ok (.ireturn, 1) := by decide +kernel
theorem dX4_isInOrder_34 : decode cX4_isInOrder 34 = .ok (.aload_n 0, 1) := by decide +kernel
theorem dX4_isInOrder_35 : decode cX4_isInOrder 35 = .ok (.getfield 18, 3) := by decide +kernel
theorem dX4_isInOrder_38 : decode cX4_isInOrder 38 = .ok (.iload_n 3, 1) := by decide +kernel
theorem dX4_isInOrder_39 : decode cX4_isInOrder 39 = .ok (.iaload, 1) := by decide +kernel
theorem dX4_isInOrder_40 : decode cX4_isInOrder 40 = .ok (.istore_n 2, 1) := by decide +kernel
theorem dX4_isInOrder_41 : decode cX4_isInOrder 41 = .ok (.iinc 3 1, 3) := by decide +kernel
theorem dX4_isInOrder_44 : decode cX4_isInOrder 44 = .ok (.goto (-40), 3) := by decide +kernel
theorem dX4_isInOrder_47 : decode cX4_isInOrder 47 = .ok (.iconst 1, 1) := by decide +kernel
theorem dX4_isInOrder_48 : decode cX4_isInOrder 48 = .ok (.ireturn, 1) := by decide +kernel
theorem dX4_splicesFrom_0 : decode cX4_splicesFrom 0 = .ok (.iconst 0, 1) := by decide +kernel
theorem dX4_splicesFrom_1 : decode cX4_splicesFrom 1 = .ok (.istore_n 2, 1) := by decide +kernel
theorem dX4_splicesFrom_2 : decode cX4_splicesFrom 2 = .ok (.iconst 1, 1) := by decide +kernel
theorem dX4_splicesFrom_3 : decode cX4_splicesFrom 3 = .ok (.istore_n 3, 1) := by decide +kernel
theorem dX4_splicesFrom_4 : decode cX4_splicesFrom 4 = .ok (.iload_n 3, 1) := by decide +kernel
theorem dX4_splicesFrom_5 : decode cX4_splicesFrom 5 = .ok (.aload_n 0, 1) := by decide +kernel
theorem dX4_splicesFrom_6 : decode cX4_splicesFrom 6 = .ok (.getfield 24, 3) := by decide +kernel
theorem dX4_splicesFrom_9 : decode cX4_splicesFrom 9 = .ok (.if_icmp .ge 27, 3) := by decide +kernel
theorem dX4_splicesFrom_12 : decode cX4_splicesFrom 12 = .ok (.iload_n 2, 1) := by decide +kernel
theorem dX4_splicesFrom_13 : decode cX4_splicesFrom 13 = .ok (.aload_n 0, 1) := by decide +kernel
theorem dX4_splicesFrom_14 : decode cX4_splicesFrom 14 = .ok (.getfield 21, 3) := by decide +kernel
theorem dX4_splicesFrom_17 : decode cX4_splicesFrom 17 = .ok (.iload_n 3, 1) := by decide +kernel
theorem dX4_splicesFrom_18 : decode cX4_splicesFrom 18 = .ok (.iaload, 1) := by decide +kernel
theorem dX4_splicesFrom_19 : decode cX4_splicesFrom 19 = .ok (.iload_n 1, 1) := by decide +kernel
theorem dX4_splicesFrom_20 : decode cX4_splicesFrom 20 = .ok (.if_icmp .lt 7, 3) := by decide +kernel
theorem dX4_splicesFrom_23 : decode cX4_splicesFrom 23 = .ok (.iconst 1, 1) := by decide +kernel
theorem dX4_splicesFrom_24 : decode cX4_splicesFrom 24 = .ok (.goto 4, 3) := by decide +kernel
theorem dX4_splicesFrom_27 : decode cX4_splicesFrom 27 = .ok (.iconst 0, 1) := by decide +kernel
theorem dX4_splicesFrom_28 : decode cX4_splicesFrom 28 = .ok (.iadd, 1) := by decide +kernel
theorem dX4_splicesFrom_29 : decode cX4_splicesFrom 29 = .ok (.istore_n 2, 1) := by decide +kernel
theorem dX4_splicesFrom_30 : decode cX4_splicesFrom 30 = .ok (.iinc 3 1, 3) := by decide +kernel
theorem dX4_splicesFrom_33 : decode cX4_splicesFrom 33 = .ok (.goto (-29), 3) := by decide +kernel
theorem dX4_splicesFrom_36 : decode cX4_splicesFrom 36 = .ok (.iload_n 2, 1) := by decide +kernel
theorem dX4_splicesFrom_37 : decode cX4_splicesFrom 37 = .ok (.ireturn, 1) := by decide +kernel
set_option maxRecDepth 20000 in
theorem ggX4_goesOn_X4_has : GoodIn wsX4_goesOn wsX4_has := goodIn_r _ [8, 9, 10, 11, 12, 13, 14] (by decide +kernel) (by decide +kernel)
set_option maxRecDepth 20000 in
theorem gX4_goesOn_X4_has : GoodIn wsX4_goesOn (wsV RX4 45 RX4 yX4_has wsX4_has) := goodIn_app (goodIn_of _ (by decide +kernel)) ggX4_goesOn_X4_has
theorem dX4_goesOn_0 : decode cX4_goesOn 0 = .ok (.aload_n 0, 1) := by decide +kernel
theorem dX4_goesOn_1 : decode cX4_goesOn 1 = .ok (.iload_n 1, 1) := by decide +kernel
theorem dX4_goesOn_2 : decode cX4_goesOn 2 = .ok (.invokevirtual 45, 3) := by decide +kernel
theorem dX4_goesOn_5 : decode cX4_goesOn 5 = .ok (.ifCond .eq 53, 3) := by decide +kernel
theorem dX4_goesOn_8 : decode cX4_goesOn 8 = .ok (.aload_n 0, 1) := by decide +kernel
theorem dX4_goesOn_9 : decode cX4_goesOn 9 = .ok (.iload_n 1, 1) := by decide +kernel
theorem dX4_goesOn_10 : decode cX4_goesOn 10 = .ok (.iconst 1, 1) := by decide +kernel
theorem dX4_goesOn_11 : decode cX4_goesOn 11 = .ok (.iadd, 1) := by decide +kernel
theorem dX4_goesOn_12 : decode cX4_goesOn 12 = .ok (.invokevirtual 45, 3) := by decide +kernel
theorem dX4_goesOn_15 : decode cX4_goesOn 15 = .ok (.ifCond .eq 43, 3) := by decide +kernel
theorem dX4_goesOn_18 : decode cX4_goesOn 18 = .ok (.aload_n 0, 1) := by decide +kernel
theorem dX4_goesOn_19 : decode cX4_goesOn 19 = .ok (.getfield 9, 3) := by decide +kernel
theorem dX4_goesOn_22 : decode cX4_goesOn 22 = .ok (.iload_n 1, 1) := by decide +kernel
theorem dX4_goesOn_23 : decode cX4_goesOn 23 = .ok (.iaload, 1) := by decide +kernel
theorem dX4_goesOn_24 : decode cX4_goesOn 24 = .ok (.aload_n 0, 1) := by decide +kernel
theorem dX4_goesOn_25 : decode cX4_goesOn 25 = .ok (.getfield 9, 3) := by decide +kernel
theorem dX4_goesOn_28 : decode cX4_goesOn 28 = .ok (.iload_n 1, 1) := by decide +kernel
theorem dX4_goesOn_29 : decode cX4_goesOn 29 = .ok (.iconst 1, 1) := by decide +kernel
theorem dX4_goesOn_30 : decode cX4_goesOn 30 = .ok (.iadd, 1) := by decide +kernel
theorem dX4_goesOn_31 : decode cX4_goesOn 31 = .ok (.iaload, 1) := by decide +kernel
theorem dX4_goesOn_32 : decode cX4_goesOn 32 = .ok (.if_icmp .ne 26, 3) := by decide +kernel
theorem dX4_goesOn_35 : decode cX4_goesOn 35 = .ok (.aload_n 0, 1) := by decide +kernel
theorem dX4_goesOn_36 : decode cX4_goesOn 36 = .ok (.getfield 18, 3) := by decide +kernel
theorem dX4_goesOn_39 : decode cX4_goesOn 39 = .ok (.iload_n 1, 1) := by decide +kernel
theorem dX4_goesOn_40 : decode cX4_goesOn 40 = .ok (.iaload, 1) := by decide +kernel
theorem dX4_goesOn_41 : decode cX4_goesOn 41 = .ok (.iconst 1, 1) := by decide +kernel
theorem dX4_goesOn_42 : decode cX4_goesOn 42 = .ok (.iadd, 1) := by decide +kernel
theorem dX4_goesOn_43 : decode cX4_goesOn 43 = .ok (.aload_n 0, 1) := by decide +kernel
theorem dX4_goesOn_44 : decode cX4_goesOn 44 = .ok (.getfield 15, 3) := by decide +kernel
theorem dX4_goesOn_47 : decode cX4_goesOn 47 = .ok (.iload_n 1, 1) := by decide +kernel
theorem dX4_goesOn_48 : decode cX4_goesOn 48 = .ok (.iconst 1, 1) := by decide +kernel
theorem dX4_goesOn_49 : decode cX4_goesOn 49 = .ok (.iadd, 1) := by decide +kernel
theorem dX4_goesOn_50 : decode cX4_goesOn 50 = .ok (.iaload, 1) := by decide +kernel
theorem dX4_goesOn_51 : decode cX4_goesOn 51 = .ok (.if_icmp .ne 7, 3) := by decide +kernel
theorem dX4_goesOn_54 : decode cX4_goesOn 54 = .ok (.iconst 1, 1) := by decide +kernel
theorem dX4_goesOn_55 : decode cX4_goesOn 55 = .ok (.goto 4, 3) := by decide +kernel
theorem dX4_goesOn_58 : decode cX4_goesOn 58 = .ok (.iconst 0, 1) := by decide +kernel
theorem dX4_goesOn_59 : decode cX4_goesOn 59 = .ok (.ireturn, 1) := by decide +kernel
set_option maxRecDepth 20000 in
theorem ggX4_insert_X4_isFull : GoodIn wsX4_insert wsX4_isFull := goodIn_r _ [10, 1, 18, 19, 20, 21, 22] (by decide +kernel) (by decide +kernel)
set_option maxRecDepth 20000 in
theorem gX4_insert_X4_isFull : GoodIn wsX4_insert (wsV RX4 49 RX4 yX4_isFull wsX4_isFull) := goodIn_app (goodIn_of _ (by decide +kernel)) ggX4_insert_X4_isFull
set_option maxRecDepth 20000 in
theorem ggX4_insert_X8_isWithin : GoodIn wsX4_insert wsX8_isWithin := goodIn_r _ [13] (by decide +kernel) (by decide +kernel)
set_option maxRecDepth 20000 in
theorem gX4_insert_X8_isWithin_n41 : GoodIn wsX4_insert (wsX8_isWithin) := ggX4_insert_X8_isWithin
set_option maxRecDepth 20000 in
theorem ggX4_insert_X4_copyPiece : GoodIn wsX4_insert wsX4_copyPiece := goodIn_r _ [17, 2, 3, 4, 5, 18, 19, 20, 21, 22] (by decide +kernel) (by decide +kernel)
set_option maxRecDepth 20000 in
theorem gX4_insert_X4_copyPiece : GoodIn wsX4_insert (wsV RX4 53 RX4 yX4_copyPiece wsX4_copyPiece) := goodIn_app (goodIn_of _ (by decide +kernel)) ggX4_insert_X4_copyPiece
theorem dX4_insert_0 : decode cX4_insert 0 = .ok (.aload_n 0, 1) := by decide +kernel
theorem dX4_insert_1 : decode cX4_insert 1 = .ok (.invokevirtual 49, 3) := by decide +kernel
theorem dX4_insert_4 : decode cX4_insert 4 = .ok (.ifCond .ne 15, 3) := by decide +kernel
theorem dX4_insert_7 : decode cX4_insert 7 = .ok (.iload_n 1, 1) := by decide +kernel
theorem dX4_insert_8 : decode cX4_insert 8 = .ok (.iconst 0, 1) := by decide +kernel
theorem dX4_insert_9 : decode cX4_insert 9 = .ok (.aload_n 0, 1) := by decide +kernel
theorem dX4_insert_10 : decode cX4_insert 10 = .ok (.getfield 24, 3) := by decide +kernel
theorem dX4_insert_13 : decode cX4_insert 13 = .ok (.invokestatic 41, 3) := by decide +kernel
theorem dX4_insert_16 : decode cX4_insert 16 = .ok (.ifCond .ne 4, 3) := by decide +kernel
theorem dX4_insert_19 : decode cX4_insert 19 = .ok (.return_, 1) := by decide +kernel
theorem dX4_insert_20 : decode cX4_insert 20 = .ok (.aload_n 0, 1) := by decide +kernel
theorem dX4_insert_21 : decode cX4_insert 21 = .ok (.getfield 24, 3) := by decide +kernel
theorem dX4_insert_24 : decode cX4_insert 24 = .ok (.istore 5, 2) := by decide +kernel
theorem dX4_insert_26 : decode cX4_insert 26 = .ok (.iload 5, 2) := by decide +kernel
theorem dX4_insert_28 : decode cX4_insert 28 = .ok (.iload_n 1, 1) := by decide +kernel
theorem dX4_insert_29 : decode cX4_insert 29 = .ok (.if_icmp .le 19, 3) := by decide +kernel
theorem dX4_insert_32 : decode cX4_insert 32 = .ok (.aload_n 0, 1) := by decide +kernel
theorem dX4_insert_33 : decode cX4_insert 33 = .ok (.iload 5, 2) := by decide +kernel
theorem dX4_insert_35 : decode cX4_insert 35 = .ok (.iconst 1, 1) := by decide +kernel
theorem dX4_insert_36 : decode cX4_insert 36 = .ok (.isub, 1) := by decide +kernel
theorem dX4_insert_37 : decode cX4_insert 37 = .ok (.iload 5, 2) := by decide +kernel
theorem dX4_insert_39 : decode cX4_insert 39 = .ok (.invokevirtual 53, 3) := by decide +kernel
theorem dX4_insert_42 : decode cX4_insert 42 = .ok (.iinc 5 (-1), 3) := by decide +kernel
theorem dX4_insert_45 : decode cX4_insert 45 = .ok (.goto (-19), 3) := by decide +kernel
theorem dX4_insert_48 : decode cX4_insert 48 = .ok (.aload_n 0, 1) := by decide +kernel
theorem dX4_insert_49 : decode cX4_insert 49 = .ok (.getfield 9, 3) := by decide +kernel
theorem dX4_insert_52 : decode cX4_insert 52 = .ok (.iload_n 1, 1) := by decide +kernel
theorem dX4_insert_53 : decode cX4_insert 53 = .ok (.iload_n 2, 1) := by decide +kernel
theorem dX4_insert_54 : decode cX4_insert 54 = .ok (.iastore, 1) := by decide +kernel
theorem dX4_insert_55 : decode cX4_insert 55 = .ok (.aload_n 0, 1) := by decide +kernel
theorem dX4_insert_56 : decode cX4_insert 56 = .ok (.getfield 15, 3) := by decide +kernel
theorem dX4_insert_59 : decode cX4_insert 59 = .ok (.iload_n 1, 1) := by decide +kernel
theorem dX4_insert_60 : decode cX4_insert 60 = .ok (.iload_n 3, 1) := by decide +kernel
theorem dX4_insert_61 : decode cX4_insert 61 = .ok (.iastore, 1) := by decide +kernel
theorem dX4_insert_62 : decode cX4_insert 62 = .ok (.aload_n 0, 1) := by decide +kernel
theorem dX4_insert_63 : decode cX4_insert 63 = .ok (.getfield 18, 3) := by decide +kernel
theorem dX4_insert_66 : decode cX4_insert 66 = .ok (.iload_n 1, 1) := by decide +kernel
theorem dX4_insert_67 : decode cX4_insert 67 = .ok (.iload 4, 2) := by decide +kernel
theorem dX4_insert_69 : decode cX4_insert 69 = .ok (.iastore, 1) := by decide +kernel
theorem dX4_insert_70 : decode cX4_insert 70 = .ok (.aload_n 0, 1) := by decide +kernel
theorem dX4_insert_71 : decode cX4_insert 71 = .ok (.getfield 21, 3) := by decide +kernel
theorem dX4_insert_74 : decode cX4_insert 74 = .ok (.iload_n 1, 1) := by decide +kernel
theorem dX4_insert_75 : decode cX4_insert 75 = .ok (.iconst 0, 1) := by decide +kernel
theorem dX4_insert_76 : decode cX4_insert 76 = .ok (.iastore, 1) := by decide +kernel
theorem dX4_insert_77 : decode cX4_insert 77 = .ok (.aload_n 0, 1) := by decide +kernel
theorem dX4_insert_78 : decode cX4_insert 78 = .ok (.dup, 1) := by decide +kernel
theorem dX4_insert_79 : decode cX4_insert 79 = .ok (.getfield 24, 3) := by decide +kernel
theorem dX4_insert_82 : decode cX4_insert 82 = .ok (.iconst 1, 1) := by decide +kernel
theorem dX4_insert_83 : decode cX4_insert 83 = .ok (.iadd, 1) := by decide +kernel
theorem dX4_insert_84 : decode cX4_insert 84 = .ok (.putfield 24, 3) := by decide +kernel
theorem dX4_insert_87 : decode cX4_insert 87 = .ok (.return_, 1) := by decide +kernel
set_option maxRecDepth 20000 in
theorem ggX4_drop_X4_has : GoodIn wsX4_drop wsX4_has := goodIn_r _ [6, 1, 15, 16, 17, 18, 19] (by decide +kernel) (by decide +kernel)
set_option maxRecDepth 20000 in
theorem gX4_drop_X4_has : GoodIn wsX4_drop (wsV RX4 45 RX4 yX4_has wsX4_has) := goodIn_app (goodIn_of _ (by decide +kernel)) ggX4_drop_X4_has
set_option maxRecDepth 20000 in
theorem ggX4_drop_X4_copyPiece : GoodIn wsX4_drop wsX4_copyPiece := goodIn_r _ [10, 11, 12, 13, 14, 15, 16, 17, 18, 19] (by decide +kernel) (by decide +kernel)
set_option maxRecDepth 20000 in
theorem gX4_drop_X4_copyPiece : GoodIn wsX4_drop (wsV RX4 53 RX4 yX4_copyPiece wsX4_copyPiece) := goodIn_app (goodIn_of _ (by decide +kernel)) ggX4_drop_X4_copyPiece
theorem dX4_drop_0 : decode cX4_drop 0 = .ok (.aload_n 0, 1) := by decide +kernel
theorem dX4_drop_1 : decode cX4_drop 1 = .ok (.iload_n 1, 1) := by decide +kernel
theorem dX4_drop_2 : decode cX4_drop 2 = .ok (.invokevirtual 45, 3) := by decide +kernel
theorem dX4_drop_5 : decode cX4_drop 5 = .ok (.ifCond .ne 4, 3) := by decide +kernel
theorem dX4_drop_8 : decode cX4_drop 8 = .ok (.return_, 1) := by decide +kernel
theorem dX4_drop_9 : decode cX4_drop 9 = .ok (.iload_n 1, 1) := by decide +kernel
theorem dX4_drop_10 : decode cX4_drop 10 = .ok (.iconst 1, 1) := by decide +kernel
theorem dX4_drop_11 : decode cX4_drop 11 = .ok (.iadd, 1) := by decide +kernel
theorem dX4_drop_12 : decode cX4_drop 12 = .ok (.istore_n 2, 1) := by decide +kernel
theorem dX4_drop_13 : decode cX4_drop 13 = .ok (.iload_n 2, 1) := by decide +kernel
theorem dX4_drop_14 : decode cX4_drop 14 = .ok (.aload_n 0, 1) := by decide +kernel
theorem dX4_drop_15 : decode cX4_drop 15 = .ok (.getfield 24, 3) := by decide +kernel
theorem dX4_drop_18 : decode cX4_drop 18 = .ok (.if_icmp .ge 17, 3) := by decide +kernel
theorem dX4_drop_21 : decode cX4_drop 21 = .ok (.aload_n 0, 1) := by decide +kernel
theorem dX4_drop_22 : decode cX4_drop 22 = .ok (.iload_n 2, 1) := by decide +kernel
theorem dX4_drop_23 : decode cX4_drop 23 = .ok (.iload_n 2, 1) := by decide +kernel
theorem dX4_drop_24 : decode cX4_drop 24 = .ok (.iconst 1, 1) := by decide +kernel
theorem dX4_drop_25 : decode cX4_drop 25 = .ok (.isub, 1) := by decide +kernel
theorem dX4_drop_26 : decode cX4_drop 26 = .ok (.invokevirtual 53, 3) := by decide +kernel
theorem dX4_drop_29 : decode cX4_drop 29 = .ok (.iinc 2 1, 3) := by decide +kernel
theorem dX4_drop_32 : decode cX4_drop 32 = .ok (.goto (-19), 3) := by decide +kernel
theorem dX4_drop_35 : decode cX4_drop 35 = .ok (.aload_n 0, 1) := by decide +kernel
theorem dX4_drop_36 : decode cX4_drop 36 = .ok (.dup, 1) := by decide +kernel
theorem dX4_drop_37 : decode cX4_drop 37 = .ok (.getfield 24, 3) := by decide +kernel
theorem dX4_drop_40 : decode cX4_drop 40 = .ok (.iconst 1, 1) := by decide +kernel
theorem dX4_drop_41 : decode cX4_drop 41 = .ok (.isub, 1) := by decide +kernel
theorem dX4_drop_42 : decode cX4_drop 42 = .ok (.putfield 24, 3) := by decide +kernel
theorem dX4_drop_45 : decode cX4_drop 45 = .ok (.return_, 1) := by decide +kernel
set_option maxRecDepth 20000 in
theorem ggX4_putAt_X4_insert : GoodIn wsX4_putAt wsX4_insert := goodIn_r _ [5, 6, 7, 8, 9, 10, 11, 12, 13, 4, 14, 15, 16, 17, 18, 19, 20, 21, 30, 31, 32, 33, 34] (by decide +kernel) (by decide +kernel)
set_option maxRecDepth 20000 in
theorem gX4_putAt_X4_insert : GoodIn wsX4_putAt (wsV RX4 57 RX4 yX4_insert wsX4_insert) := goodIn_app (goodIn_of _ (by decide +kernel)) ggX4_putAt_X4_insert
set_option maxRecDepth 20000 in
theorem ggX4_putAt_X4_renewSplice : GoodIn wsX4_putAt wsX4_renewSplice := goodIn_r _ [25, 10, 26, 27, 28, 4, 29, 6, 30, 31, 32, 33, 34] (by decide +kernel) (by decide +kernel)
set_option maxRecDepth 20000 in
theorem gX4_putAt_X4_renewSplice : GoodIn wsX4_putAt (wsV RX4 61 RX4 yX4_renewSplice wsX4_renewSplice) := goodIn_app (goodIn_of _ (by decide +kernel)) ggX4_putAt_X4_renewSplice
theorem dX4_putAt_0 : decode cX4_putAt 0 = .ok (.aload_n 0, 1) := by decide +kernel
theorem dX4_putAt_1 : decode cX4_putAt 1 = .ok (.iload_n 1, 1) := by decide +kernel
theorem dX4_putAt_2 : decode cX4_putAt 2 = .ok (.iload_n 2, 1) := by decide +kernel
theorem dX4_putAt_3 : decode cX4_putAt 3 = .ok (.iload_n 3, 1) := by decide +kernel
theorem dX4_putAt_4 : decode cX4_putAt 4 = .ok (.iload 4, 2) := by decide +kernel
theorem dX4_putAt_6 : decode cX4_putAt 6 = .ok (.invokevirtual 57, 3) := by decide +kernel
theorem dX4_putAt_9 : decode cX4_putAt 9 = .ok (.aload_n 0, 1) := by decide +kernel
theorem dX4_putAt_10 : decode cX4_putAt 10 = .ok (.iload_n 1, 1) := by decide +kernel
theorem dX4_putAt_11 : decode cX4_putAt 11 = .ok (.iconst 1, 1) := by decide +kernel
theorem dX4_putAt_12 : decode cX4_putAt 12 = .ok (.iadd, 1) := by decide +kernel
theorem dX4_putAt_13 : decode cX4_putAt 13 = .ok (.invokevirtual 61, 3) := by decide +kernel
theorem dX4_putAt_16 : decode cX4_putAt 16 = .ok (.return_, 1) := by decide +kernel
set_option maxRecDepth 20000 in
theorem ggX4_pullFrom_X4_drop : GoodIn wsX4_pullFrom wsX4_drop := goodIn_r _ [5, 6, 7, 8, 9, 4, 10, 11, 12, 13, 14, 15, 16, 17, 18, 23, 24, 25, 26, 27] (by decide +kernel) (by decide +kernel)
set_option maxRecDepth 20000 in
theorem gX4_pullFrom_X4_drop : GoodIn wsX4_pullFrom (wsV RX4 65 RX4 yX4_drop wsX4_drop) := goodIn_app (goodIn_of _ (by decide +kernel)) ggX4_pullFrom_X4_drop
set_option maxRecDepth 20000 in
theorem ggX4_pullFrom_X4_renewSplice : GoodIn wsX4_pullFrom wsX4_renewSplice := goodIn_r _ [22, 18, 7, 8, 9, 4, 10, 6, 23, 24, 25, 26, 27] (by decide +kernel) (by decide +kernel)
set_option maxRecDepth 20000 in
theorem gX4_pullFrom_X4_renewSplice : GoodIn wsX4_pullFrom (wsV RX4 61 RX4 yX4_renewSplice wsX4_renewSplice) := goodIn_app (goodIn_of _ (by decide +kernel)) ggX4_pullFrom_X4_renewSplice
theorem dX4_pullFrom_0 : decode cX4_pullFrom 0 = .ok (.aload_n 0, 1) := by decide +kernel
theorem dX4_pullFrom_1 : decode cX4_pullFrom 1 = .ok (.iload_n 1, 1) := by decide +kernel
theorem dX4_pullFrom_2 : decode cX4_pullFrom 2 = .ok (.invokevirtual 65, 3) := by decide +kernel
theorem dX4_pullFrom_5 : decode cX4_pullFrom 5 = .ok (.aload_n 0, 1) := by decide +kernel
theorem dX4_pullFrom_6 : decode cX4_pullFrom 6 = .ok (.iload_n 1, 1) := by decide +kernel
theorem dX4_pullFrom_7 : decode cX4_pullFrom 7 = .ok (.invokevirtual 61, 3) := by decide +kernel
theorem dX4_pullFrom_10 : decode cX4_pullFrom 10 = .ok (.return_, 1) := by decide +kernel
set_option maxRecDepth 20000 in
theorem ggX4_renewSplice_X4_has : GoodIn wsX4_renewSplice wsX4_has := goodIn_r _ [6, 7, 8, 9, 10, 11, 12] (by decide +kernel) (by decide +kernel)
set_option maxRecDepth 20000 in
theorem gX4_renewSplice_X4_has : GoodIn wsX4_renewSplice (wsV RX4 45 RX4 yX4_has wsX4_has) := goodIn_app (goodIn_of _ (by decide +kernel)) ggX4_renewSplice_X4_has
theorem dX4_renewSplice_0 : decode cX4_renewSplice 0 = .ok (.aload_n 0, 1) := by decide +kernel
theorem dX4_renewSplice_1 : decode cX4_renewSplice 1 = .ok (.iload_n 1, 1) := by decide +kernel
theorem dX4_renewSplice_2 : decode cX4_renewSplice 2 = .ok (.invokevirtual 45, 3) := by decide +kernel
theorem dX4_renewSplice_5 : decode cX4_renewSplice 5 = .ok (.ifCond .eq 10, 3) := by decide +kernel
theorem dX4_renewSplice_8 : decode cX4_renewSplice 8 = .ok (.aload_n 0, 1) := by decide +kernel
theorem dX4_renewSplice_9 : decode cX4_renewSplice 9 = .ok (.getfield 21, 3) := by decide +kernel
theorem dX4_renewSplice_12 : decode cX4_renewSplice 12 = .ok (.iload_n 1, 1) := by decide +kernel
theorem dX4_renewSplice_13 : decode cX4_renewSplice 13 = .ok (.iconst 0, 1) := by decide +kernel
theorem dX4_renewSplice_14 : decode cX4_renewSplice 14 = .ok (.iastore, 1) := by decide +kernel
theorem dX4_renewSplice_15 : decode cX4_renewSplice 15 = .ok (.return_, 1) := by decide +kernel
theorem dX4_copyPiece_0 : decode cX4_copyPiece 0 = .ok (.aload_n 0, 1) := by decide +kernel
theorem dX4_copyPiece_1 : decode cX4_copyPiece 1 = .ok (.getfield 9, 3) := by decide +kernel
theorem dX4_copyPiece_4 : decode cX4_copyPiece 4 = .ok (.iload_n 2, 1) := by decide +kernel
theorem dX4_copyPiece_5 : decode cX4_copyPiece 5 = .ok (.aload_n 0, 1) := by decide +kernel
theorem dX4_copyPiece_6 : decode cX4_copyPiece 6 = .ok (.getfield 9, 3) := by decide +kernel
theorem dX4_copyPiece_9 : decode cX4_copyPiece 9 = .ok (.iload_n 1, 1) := by decide +kernel
theorem dX4_copyPiece_10 : decode cX4_copyPiece 10 = .ok (.iaload, 1) := by decide +kernel
theorem dX4_copyPiece_11 : decode cX4_copyPiece 11 = .ok (.iastore, 1) := by decide +kernel
theorem dX4_copyPiece_12 : decode cX4_copyPiece 12 = .ok (.aload_n 0, 1) := by decide +kernel
theorem dX4_copyPiece_13 : decode cX4_copyPiece 13 = .ok (.getfield 15, 3) := by decide +kernel
theorem dX4_copyPiece_16 : decode cX4_copyPiece 16 = .ok (.iload_n 2, 1) := by decide +kernel
theorem dX4_copyPiece_17 : decode cX4_copyPiece 17 = .ok (.aload_n 0, 1) := by decide +kernel
theorem dX4_copyPiece_18 : decode cX4_copyPiece 18 = .ok (.getfield 15, 3) := by decide +kernel
theorem dX4_copyPiece_21 : decode cX4_copyPiece 21 = .ok (.iload_n 1, 1) := by decide +kernel
theorem dX4_copyPiece_22 : decode cX4_copyPiece 22 = .ok (.iaload, 1) := by decide +kernel
theorem dX4_copyPiece_23 : decode cX4_copyPiece 23 = .ok (.iastore, 1) := by decide +kernel
theorem dX4_copyPiece_24 : decode cX4_copyPiece 24 = .ok (.aload_n 0, 1) := by decide +kernel
theorem dX4_copyPiece_25 : decode cX4_copyPiece 25 = .ok (.getfield 18, 3) := by decide +kernel
theorem dX4_copyPiece_28 : decode cX4_copyPiece 28 = .ok (.iload_n 2, 1) := by decide +kernel
theorem dX4_copyPiece_29 : decode cX4_copyPiece 29 = .ok (.aload_n 0, 1) := by decide +kernel
theorem dX4_copyPiece_30 : decode cX4_copyPiece 30 = .ok (.getfield 18, 3) := by decide +kernel
theorem dX4_copyPiece_33 : decode cX4_copyPiece 33 = .ok (.iload_n 1, 1) := by decide +kernel
theorem dX4_copyPiece_34 : decode cX4_copyPiece 34 = .ok (.iaload, 1) := by decide +kernel
theorem dX4_copyPiece_35 : decode cX4_copyPiece 35 = .ok (.iastore, 1) := by decide +kernel
theorem dX4_copyPiece_36 : decode cX4_copyPiece 36 = .ok (.aload_n 0, 1) := by decide +kernel
theorem dX4_copyPiece_37 : decode cX4_copyPiece 37 = .ok (.getfield 21, 3) := by decide +kernel
theorem dX4_copyPiece_40 : decode cX4_copyPiece 40 = .ok (.iload_n 2, 1) := by decide +kernel
theorem dX4_copyPiece_41 : decode cX4_copyPiece 41 = .ok (.aload_n 0, 1) := by decide +kernel
theorem dX4_copyPiece_42 : decode cX4_copyPiece 42 = .ok (.getfield 21, 3) := by decide +kernel
theorem dX4_copyPiece_45 : decode cX4_copyPiece 45 = .ok (.iload_n 1, 1) := by decide +kernel
theorem dX4_copyPiece_46 : decode cX4_copyPiece 46 = .ok (.iaload, 1) := by decide +kernel
theorem dX4_copyPiece_47 : decode cX4_copyPiece 47 = .ok (.iastore, 1) := by decide +kernel
theorem dX4_copyPiece_48 : decode cX4_copyPiece 48 = .ok (.return_, 1) := by decide +kernel
theorem dX5_init_0 : decode cX5_init 0 = .ok (.aload_n 0, 1) := by decide +kernel
theorem dX5_init_1 : decode cX5_init 1 = .ok (.invokespecial 3, 3) := by decide +kernel
theorem dX5_init_4 : decode cX5_init 4 = .ok (.aload_n 0, 1) := by decide +kernel
theorem dX5_init_5 : decode cX5_init 5 = .ok (.bipush 8, 2) := by decide +kernel
theorem dX5_init_7 : decode cX5_init 7 = .ok (.newarray .int, 2) := by decide +kernel
theorem dX5_init_9 : decode cX5_init 9 = .ok (.putfield 9, 3) := by decide +kernel
theorem dX5_init_12 : decode cX5_init 12 = .ok (.aload_n 0, 1) := by decide +kernel
theorem dX5_init_13 : decode cX5_init 13 = .ok (.sipush 480, 3) := by decide +kernel
theorem dX5_init_16 : decode cX5_init 16 = .ok (.newarray .int, 2) := by decide +kernel
theorem dX5_init_18 : decode cX5_init 18 = .ok (.putfield 15, 3) := by decide +kernel
theorem dX5_init_21 : decode cX5_init 21 = .ok (.return_, 1) := by decide +kernel
theorem dX5_copyFrom_0 : decode cX5_copyFrom 0 = .ok (.aload_n 1, 1) := by decide +kernel
theorem dX5_copyFrom_1 : decode cX5_copyFrom 1 = .ok (.getfield 9, 3) := by decide +kernel
theorem dX5_copyFrom_4 : decode cX5_copyFrom 4 = .ok (.iconst 0, 1) := by decide +kernel
theorem dX5_copyFrom_5 : decode cX5_copyFrom 5 = .ok (.aload_n 0, 1) := by decide +kernel
theorem dX5_copyFrom_6 : decode cX5_copyFrom 6 = .ok (.getfield 9, 3) := by decide +kernel
theorem dX5_copyFrom_9 : decode cX5_copyFrom 9 = .ok (.iconst 0, 1) := by decide +kernel
theorem dX5_copyFrom_10 : decode cX5_copyFrom 10 = .ok (.bipush 8, 2) := by decide +kernel
theorem dX5_copyFrom_12 : decode cX5_copyFrom 12 = .ok (.invokestatic 18, 3) := by decide +kernel
theorem dX5_copyFrom_15 : decode cX5_copyFrom 15 = .ok (.aload_n 1, 1) := by decide +kernel
theorem dX5_copyFrom_16 : decode cX5_copyFrom 16 = .ok (.getfield 15, 3) := by decide +kernel
theorem dX5_copyFrom_19 : decode cX5_copyFrom 19 = .ok (.iconst 0, 1) := by decide +kernel
theorem dX5_copyFrom_20 : decode cX5_copyFrom 20 = .ok (.aload_n 0, 1) := by decide +kernel
theorem dX5_copyFrom_21 : decode cX5_copyFrom 21 = .ok (.getfield 15, 3) := by decide +kernel
theorem dX5_copyFrom_24 : decode cX5_copyFrom 24 = .ok (.iconst 0, 1) := by decide +kernel
theorem dX5_copyFrom_25 : decode cX5_copyFrom 25 = .ok (.sipush 480, 3) := by decide +kernel
theorem dX5_copyFrom_28 : decode cX5_copyFrom 28 = .ok (.invokestatic 18, 3) := by decide +kernel
theorem dX5_copyFrom_31 : decode cX5_copyFrom 31 = .ok (.return_, 1) := by decide +kernel
theorem dX5_begin_0 : decode cX5_begin 0 = .ok (.iconst 0, 1) := by decide +kernel
theorem dX5_begin_1 : decode cX5_begin 1 = .ok (.istore_n 1, 1) := by decide +kernel
theorem dX5_begin_2 : decode cX5_begin 2 = .ok (.iload_n 1, 1) := by decide +kernel
theorem dX5_begin_3 : decode cX5_begin 3 = .ok (.bipush 8, 2) := by decide +kernel
theorem dX5_begin_5 : decode cX5_begin 5 = .ok (.if_icmp .ge 16, 3) := by decide +kernel
theorem dX5_begin_8 : decode cX5_begin 8 = .ok (.aload_n 0, 1) := by decide +kernel
theorem dX5_begin_9 : decode cX5_begin 9 = .ok (.getfield 9, 3) := by decide +kernel
theorem dX5_begin_12 : decode cX5_begin 12 = .ok (.iload_n 1, 1) := by decide +kernel
theorem dX5_begin_13 : decode cX5_begin 13 = .ok (.iconst 0, 1) := by decide +kernel
theorem dX5_begin_14 : decode cX5_begin 14 = .ok (.iastore, 1) := by decide +kernel
theorem dX5_begin_15 : decode cX5_begin 15 = .ok (.iinc 1 1, 3) := by decide +kernel
theorem dX5_begin_18 : decode cX5_begin 18 = .ok (.goto (-16), 3) := by decide +kernel
theorem dX5_begin_21 : decode cX5_begin 21 = .ok (.aload_n 0, 1) := by decide +kernel
theorem dX5_begin_22 : decode cX5_begin 22 = .ok (.getfield 9, 3) := by decide +kernel
theorem dX5_begin_25 : decode cX5_begin 25 = .ok (.bipush 6, 2) := by decide +kernel
theorem dX5_begin_27 : decode cX5_begin 27 = .ok (.bipush (-5), 2) := by decide +kernel
theorem dX5_begin_29 : decode cX5_begin 29 = .ok (.iastore, 1) := by decide +kernel
theorem dX5_begin_30 : decode cX5_begin 30 = .ok (.return_, 1) := by decide +kernel
theorem dX5_countHoles_0 : decode cX5_countHoles 0 = .ok (.aload_n 0, 1) := by decide +kernel
theorem dX5_countHoles_1 : decode cX5_countHoles 1 = .ok (.getfield 9, 3) := by decide +kernel
theorem dX5_countHoles_4 : decode cX5_countHoles 4 = .ok (.iconst 4, 1) := by decide +kernel
theorem dX5_countHoles_5 : decode cX5_countHoles 5 = .ok (.dup2, 1) := by decide +kernel
theorem dX5_countHoles_6 : decode cX5_countHoles 6 = .ok (.iaload, 1) := by decide +kernel
theorem dX5_countHoles_7 : decode cX5_countHoles 7 = .ok (.iload_n 2, 1) := by decide +kernel
theorem dX5_countHoles_8 : decode cX5_countHoles 8 = .ok (.iadd, 1) := by decide +kernel
theorem dX5_countHoles_9 : decode cX5_countHoles 9 = .ok (.iastore, 1) := by decide +kernel
theorem dX5_countHoles_10 : decode cX5_countHoles 10 = .ok (.aload_n 0, 1) := by decide +kernel
theorem dX5_countHoles_11 : decode cX5_countHoles 11 = .ok (.getfield 9, 3) := by decide +kernel
theorem dX5_countHoles_14 : decode cX5_countHoles 14 = .ok (.iconst 5, 1) := by decide +kernel
theorem dX5_countHoles_15 : decode cX5_countHoles 15 = .ok (.dup2, 1) := by decide +kernel
theorem dX5_countHoles_16 : decode cX5_countHoles 16 = .ok (.iaload, 1) := by decide +kernel
theorem dX5_countHoles_17 : decode cX5_countHoles 17 = .ok (.iload_n 1, 1) := by decide +kernel
theorem dX5_countHoles_18 : decode cX5_countHoles 18 = .ok (.iload_n 2, 1) := by decide +kernel
theorem dX5_countHoles_19 : decode cX5_countHoles 19 = .ok (.isub, 1) := by decide +kernel
theorem dX5_countHoles_20 : decode cX5_countHoles 20 = .ok (.iadd, 1) := by decide +kernel
theorem dX5_countHoles_21 : decode cX5_countHoles 21 = .ok (.iastore, 1) := by decide +kernel
theorem dX5_countHoles_22 : decode cX5_countHoles 22 = .ok (.return_, 1) := by decide +kernel
theorem dX5_addUnit_0 : decode cX5_addUnit 0 = .ok (.aload_n 0, 1) := by decide +kernel
theorem dX5_addUnit_1 : decode cX5_addUnit 1 = .ok (.getfield 9, 3) := by decide +kernel
theorem dX5_addUnit_4 : decode cX5_addUnit 4 = .ok (.iconst 0, 1) := by decide +kernel
theorem dX5_addUnit_5 : decode cX5_addUnit 5 = .ok (.iaload, 1) := by decide +kernel
theorem dX5_addUnit_6 : decode cX5_addUnit 6 = .ok (.istore_n 2, 1) := by decide +kernel
theorem dX5_addUnit_7 : decode cX5_addUnit 7 = .ok (.iload_n 2, 1) := by decide +kernel
theorem dX5_addUnit_8 : decode cX5_addUnit 8 = .ok (.ifCond .lt 26, 3) := by decide +kernel
theorem dX5_addUnit_11 : decode cX5_addUnit 11 = .ok (.iload_n 2, 1) := by decide +kernel
theorem dX5_addUnit_12 : decode cX5_addUnit 12 = .ok (.sipush 480, 3) := by decide +kernel
theorem dX5_addUnit_15 : decode cX5_addUnit 15 = .ok (.if_icmp .ge 19, 3) := by decide +kernel
theorem dX5_addUnit_18 : decode cX5_addUnit 18 = .ok (.aload_n 0, 1) := by decide +kernel
theorem dX5_addUnit_19 : decode cX5_addUnit 19 = .ok (.getfield 15, 3) := by decide +kernel
theorem dX5_addUnit_22 : decode cX5_addUnit 22 = .ok (.iload_n 2, 1) := by decide +kernel
theorem dX5_addUnit_23 : decode cX5_addUnit 23 = .ok (.iload_n 1, 1) := by decide +kernel
theorem dX5_addUnit_24 : decode cX5_addUnit 24 = .ok (.iastore, 1) := by decide +kernel
theorem dX5_addUnit_25 : decode cX5_addUnit 25 = .ok (.aload_n 0, 1) := by decide +kernel
theorem dX5_addUnit_26 : decode cX5_addUnit 26 = .ok (.getfield 9, 3) := by decide +kernel
theorem dX5_addUnit_29 : decode cX5_addUnit 29 = .ok (.iconst 0, 1) := by decide +kernel
theorem dX5_addUnit_30 : decode cX5_addUnit 30 = .ok (.iload_n 2, 1) := by decide +kernel
theorem dX5_addUnit_31 : decode cX5_addUnit 31 = .ok (.iconst 1, 1) := by decide +kernel
theorem dX5_addUnit_32 : decode cX5_addUnit 32 = .ok (.iadd, 1) := by decide +kernel
theorem dX5_addUnit_33 : decode cX5_addUnit 33 = .ok (.iastore, 1) := by decide +kernel
theorem dX5_addUnit_34 : decode cX5_addUnit 34 = .ok (.return_, 1) := by decide +kernel
theorem dX5_hasUnit_0 : decode cX5_hasUnit 0 = .ok (.iload_n 1, 1) := by decide +kernel
theorem dX5_hasUnit_1 : decode cX5_hasUnit 1 = .ok (.ifCond .lt 24, 3) := by decide +kernel
theorem dX5_hasUnit_4 : decode cX5_hasUnit 4 = .ok (.iload_n 1, 1) := by decide +kernel
theorem dX5_hasUnit_5 : decode cX5_hasUnit 5 = .ok (.aload_n 0, 1) := by decide +kernel
theorem dX5_hasUnit_6 : decode cX5_hasUnit 6 = .ok (.getfield 9, 3) := by decide +kernel
theorem dX5_hasUnit_9 : decode cX5_hasUnit 9 = .ok (.iconst 0, 1) := by decide +kernel
theorem dX5_hasUnit_10 : decode cX5_hasUnit 10 = .ok (.iaload, 1) := by decide +kernel
theorem dX5_hasUnit_11 : decode cX5_hasUnit 11 = .ok (.if_icmp .ge 14, 3) := by decide +kernel
theorem dX5_hasUnit_14 : decode cX5_hasUnit 14 = .ok (.iload_n 1, 1) := by decide +kernel
theorem dX5_hasUnit_15 : decode cX5_hasUnit 15 = .ok (.sipush 480, 3) := by decide +kernel
theorem dX5_hasUnit_18 : decode cX5_hasUnit 18 = .ok (.if_icmp .ge 7, 3) := by decide +kernel
theorem dX5_hasUnit_21 : decode cX5_hasUnit 21 = .ok (.iconst 1, 1) := by decide +kernel
theorem dX5_hasUnit_22 : decode cX5_hasUnit 22 = .ok (.goto 4, 3) := by decide +kernel
theorem dX5_hasUnit_25 : decode cX5_hasUnit 25 = .ok (.iconst 0, 1) := by decide +kernel
theorem dX5_hasUnit_26 : decode cX5_hasUnit 26 = .ok (.ireturn, 1) := by decide +kernel
set_option maxRecDepth 20000 in
theorem ggX5_shownWithin_X5_hasUnit : GoodIn wsX5_shownWithin wsX5_hasUnit := goodIn_r _ [6, 7, 8, 9] (by decide +kernel) (by decide +kernel)
set_option maxRecDepth 20000 in
theorem gX5_shownWithin_X5_hasUnit : GoodIn wsX5_shownWithin (wsV RX5 24 RX5 yX5_hasUnit wsX5_hasUnit) := goodIn_app (goodIn_of _ (by decide +kernel)) ggX5_shownWithin_X5_hasUnit
theorem dX5_shownWithin_0 : decode cX5_shownWithin 0 = .ok (.iconst 0, 1) := by decide +kernel
theorem dX5_shownWithin_1 : decode cX5_shownWithin 1 = .ok (.istore_n 3, 1) := by decide +kernel
theorem dX5_shownWithin_2 : decode cX5_shownWithin 2 = .ok (.iload_n 1, 1) := by decide +kernel
theorem dX5_shownWithin_3 : decode cX5_shownWithin 3 = .ok (.istore 4, 2) := by decide +kernel
theorem dX5_shownWithin_5 : decode cX5_shownWithin 5 = .ok (.iload 4, 2) := by decide +kernel
theorem dX5_shownWithin_7 : decode cX5_shownWithin 7 = .ok (.iload_n 2, 1) := by decide +kernel
theorem dX5_shownWithin_8 : decode cX5_shownWithin 8 = .ok (.if_icmp .ge 38, 3) := by decide +kernel
theorem dX5_shownWithin_11 : decode cX5_shownWithin 11 = .ok (.aload_n 0, 1) := by decide +kernel
theorem dX5_shownWithin_12 : decode cX5_shownWithin 12 = .ok (.iload 4, 2) := by decide +kernel
theorem dX5_shownWithin_14 : decode cX5_shownWithin 14 = .ok (.invokevirtual 24, 3) := by decide +kernel
theorem dX5_shownWithin_17 : decode cX5_shownWithin 17 = .ok (.ifCond .eq 29, 3) := by decide +kernel
theorem dX5_shownWithin_20 : decode cX5_shownWithin 20 = .ok (.iload_n 3, 1) := by decide +kernel
theorem dX5_shownWithin_21 : decode cX5_shownWithin 21 = .ok (.aload_n 0, 1) := by decide +kernel
theorem dX5_shownWithin_22 : decode cX5_shownWithin 22 = .ok (.getfield 15, 3) := by decide +kernel
theorem dX5_shownWithin_25 : decode cX5_shownWithin 25 = .ok (.iload 4, 2) := by decide +kernel
theorem dX5_shownWithin_27 : decode cX5_shownWithin 27 = .ok (.iaload, 1) := by decide +kernel
theorem dX5_shownWithin_28 : decode cX5_shownWithin 28 = .ok (.bipush (-5), 2) := by decide +kernel
theorem dX5_shownWithin_30 : decode cX5_shownWithin 30 = .ok (.if_icmp .eq 7, 3) := by decide +kernel
theorem dX5_shownWithin_33 : decode cX5_shownWithin 33 = .ok (.iconst 1, 1) := by decide +kernel
theorem dX5_shownWithin_34 : decode cX5_shownWithin 34 = .ok (.goto 4, 3) := by decide +kernel
theorem dX5_shownWithin_37 : decode cX5_shownWithin 37 = .ok (.iconst 0, 1) := by decide +kernel
theorem dX5_shownWithin_38 : decode cX5_shownWithin 38 = .ok (.iadd, 1) := by decide +kernel
theorem dX5_shownWithin_39 : decode cX5_shownWithin 39 = .ok (.istore_n 3, 1) := by decide +kernel
theorem dX5_shownWithin_40 : decode cX5_shownWithin 40 = .ok (.iinc 4 1, 3) := by decide +kernel
theorem dX5_shownWithin_43 : decode cX5_shownWithin 43 = .ok (.goto (-38), 3) := by decide +kernel
theorem dX5_shownWithin_46 : decode cX5_shownWithin 46 = .ok (.iload_n 3, 1) := by decide +kernel
theorem dX5_shownWithin_47 : decode cX5_shownWithin 47 = .ok (.ireturn, 1) := by decide +kernel
set_option maxRecDepth 20000 in
theorem ggX5_framesWithin_X5_hasUnit : GoodIn wsX5_framesWithin wsX5_hasUnit := goodIn_r _ [6, 7, 8, 9] (by decide +kernel) (by decide +kernel)
set_option maxRecDepth 20000 in
theorem gX5_framesWithin_X5_hasUnit : GoodIn wsX5_framesWithin (wsV RX5 24 RX5 yX5_hasUnit wsX5_hasUnit) := goodIn_app (goodIn_of _ (by decide +kernel)) ggX5_framesWithin_X5_hasUnit
theorem dX5_framesWithin_0 : decode cX5_framesWithin 0 = .ok (.iconst 0, 1) := by decide +kernel
theorem dX5_framesWithin_1 : decode cX5_framesWithin 1 = .ok (.istore 4, 2) := by decide +kernel
theorem dX5_framesWithin_3 : decode cX5_framesWithin 3 = .ok (.iload_n 2, 1) := by decide +kernel
theorem dX5_framesWithin_4 : decode cX5_framesWithin 4 = .ok (.istore 5, 2) := by decide +kernel
theorem dX5_framesWithin_6 : decode cX5_framesWithin 6 = .ok (.iload 5, 2) := by decide +kernel
theorem dX5_framesWithin_8 : decode cX5_framesWithin 8 = .ok (.iload_n 3, 1) := by decide +kernel
theorem dX5_framesWithin_9 : decode cX5_framesWithin 9 = .ok (.if_icmp .ge 54, 3) := by decide +kernel
theorem dX5_framesWithin_12 : decode cX5_framesWithin 12 = .ok (.aload_n 0, 1) := by decide +kernel
theorem dX5_framesWithin_13 : decode cX5_framesWithin 13 = .ok (.iload 5, 2) := by decide +kernel
theorem dX5_framesWithin_15 : decode cX5_framesWithin 15 = .ok (.invokevirtual 24, 3) := by decide +kernel
theorem dX5_framesWithin_18 : decode cX5_framesWithin 18 = .ok (.ifCond .eq 45, 3) := by decide +kernel
theorem dX5_framesWithin_21 : decode cX5_framesWithin 21 = .ok (.iload 4, 2) := by decide +kernel
theorem dX5_framesWithin_23 : decode cX5_framesWithin 23 = .ok (.aload_n 0, 1) := by decide +kernel
theorem dX5_framesWithin_24 : decode cX5_framesWithin 24 = .ok (.getfield 15, 3) := by decide +kernel
theorem dX5_framesWithin_27 : decode cX5_framesWithin 27 = .ok (.iload 5, 2) := by decide +kernel
theorem dX5_framesWithin_29 : decode cX5_framesWithin 29 = .ok (.iaload, 1) := by decide +kernel
theorem dX5_framesWithin_30 : decode cX5_framesWithin 30 = .ok (.bipush (-5), 2) := by decide +kernel
theorem dX5_framesWithin_32 : decode cX5_framesWithin 32 = .ok (.if_icmp .eq 21, 3) := by decide +kernel
theorem dX5_framesWithin_35 : decode cX5_framesWithin 35 = .ok (.aload_n 0, 1) := by decide +kernel
theorem dX5_framesWithin_36 : decode cX5_framesWithin 36 = .ok (.getfield 15, 3) := by decide +kernel
theorem dX5_framesWithin_39 : decode cX5_framesWithin 39 = .ok (.iload 5, 2) := by decide +kernel
theorem dX5_framesWithin_41 : decode cX5_framesWithin 41 = .ok (.iaload, 1) := by decide +kernel
theorem dX5_framesWithin_42 : decode cX5_framesWithin 42 = .ok (.bipush 100, 2) := by decide +kernel
theorem dX5_framesWithin_44 : decode cX5_framesWithin 44 = .ok (.idiv, 1) := by decide +kernel
theorem dX5_framesWithin_45 : decode cX5_framesWithin 45 = .ok (.iload_n 1, 1) := by decide +kernel
theorem dX5_framesWithin_46 : decode cX5_framesWithin 46 = .ok (.if_icmp .ne 7, 3) := by decide +kernel
theorem dX5_framesWithin_49 : decode cX5_framesWithin 49 = .ok (.iconst 1, 1) := by decide +kernel
theorem dX5_framesWithin_50 : decode cX5_framesWithin 50 = .ok (.goto 4, 3) := by decide +kernel
theorem dX5_framesWithin_53 : decode cX5_framesWithin 53 = .ok (.iconst 0, 1) := by decide +kernel
theorem dX5_framesWithin_54 : decode cX5_framesWithin 54 = .ok (.iadd, 1) := by decide +kernel
theorem dX5_framesWithin_55 : decode cX5_framesWithin 55 = .ok (.istore 4, 2) := by decide +kernel
theorem dX5_framesWithin_57 : decode cX5_framesWithin 57 = .ok (.iinc 5 1, 3) := by decide +kernel
theorem dX5_framesWithin_60 : decode cX5_framesWithin 60 = .ok (.goto (-54), 3) := by decide +kernel
theorem dX5_framesWithin_63 : decode cX5_framesWithin 63 = .ok (.iload 4, 2) := by decide +kernel
theorem dX5_framesWithin_65 : decode cX5_framesWithin 65 = .ok (.ireturn, 1) := by decide +kernel
set_option maxRecDepth 20000 in
theorem ggX5_scenesWithin_X5_hasUnit : GoodIn wsX5_scenesWithin wsX5_hasUnit := goodIn_r _ [6, 7, 8, 9] (by decide +kernel) (by decide +kernel)
set_option maxRecDepth 20000 in
theorem gX5_scenesWithin_X5_hasUnit : GoodIn wsX5_scenesWithin (wsV RX5 24 RX5 yX5_hasUnit wsX5_hasUnit) := goodIn_app (goodIn_of _ (by decide +kernel)) ggX5_scenesWithin_X5_hasUnit
theorem dX5_scenesWithin_0 : decode cX5_scenesWithin 0 = .ok (.iconst 0, 1) := by decide +kernel
theorem dX5_scenesWithin_1 : decode cX5_scenesWithin 1 = .ok (.istore_n 3, 1) := by decide +kernel
theorem dX5_scenesWithin_2 : decode cX5_scenesWithin 2 = .ok (.iload_n 1, 1) := by decide +kernel
theorem dX5_scenesWithin_3 : decode cX5_scenesWithin 3 = .ok (.istore 4, 2) := by decide +kernel
theorem dX5_scenesWithin_5 : decode cX5_scenesWithin 5 = .ok (.iload 4, 2) := by decide +kernel
theorem dX5_scenesWithin_7 : decode cX5_scenesWithin 7 = .ok (.iload_n 2, 1) := by decide +kernel
theorem dX5_scenesWithin_8 : decode cX5_scenesWithin 8 = .ok (.if_icmp .ge 45, 3) := by decide +kernel
theorem dX5_scenesWithin_11 : decode cX5_scenesWithin 11 = .ok (.aload_n 0, 1) := by decide +kernel
theorem dX5_scenesWithin_12 : decode cX5_scenesWithin 12 = .ok (.iload 4, 2) := by decide +kernel
theorem dX5_scenesWithin_14 : decode cX5_scenesWithin 14 = .ok (.invokevirtual 24, 3) := by decide +kernel
theorem dX5_scenesWithin_17 : decode cX5_scenesWithin 17 = .ok (.ifCond .eq 36, 3) := by decide +kernel
theorem dX5_scenesWithin_20 : decode cX5_scenesWithin 20 = .ok (.aload_n 0, 1) := by decide +kernel
theorem dX5_scenesWithin_21 : decode cX5_scenesWithin 21 = .ok (.getfield 15, 3) := by decide +kernel
theorem dX5_scenesWithin_24 : decode cX5_scenesWithin 24 = .ok (.iload 4, 2) := by decide +kernel
theorem dX5_scenesWithin_26 : decode cX5_scenesWithin 26 = .ok (.iaload, 1) := by decide +kernel
theorem dX5_scenesWithin_27 : decode cX5_scenesWithin 27 = .ok (.bipush (-5), 2) := by decide +kernel
theorem dX5_scenesWithin_29 : decode cX5_scenesWithin 29 = .ok (.if_icmp .eq 18, 3) := by decide +kernel
theorem dX5_scenesWithin_32 : decode cX5_scenesWithin 32 = .ok (.iload_n 3, 1) := by decide +kernel
theorem dX5_scenesWithin_33 : decode cX5_scenesWithin 33 = .ok (.iconst 1, 1) := by decide +kernel
theorem dX5_scenesWithin_34 : decode cX5_scenesWithin 34 = .ok (.aload_n 0, 1) := by decide +kernel
theorem dX5_scenesWithin_35 : decode cX5_scenesWithin 35 = .ok (.getfield 15, 3) := by decide +kernel
theorem dX5_scenesWithin_38 : decode cX5_scenesWithin 38 = .ok (.iload 4, 2) := by decide +kernel
theorem dX5_scenesWithin_40 : decode cX5_scenesWithin 40 = .ok (.iaload, 1) := by decide +kernel
theorem dX5_scenesWithin_41 : decode cX5_scenesWithin 41 = .ok (.bipush 100, 2) := by decide +kernel
theorem dX5_scenesWithin_43 : decode cX5_scenesWithin 43 = .ok (.idiv, 1) := by decide +kernel
theorem dX5_scenesWithin_44 : decode cX5_scenesWithin 44 = .ok (.ishl, 1) := by decide +kernel
theorem dX5_scenesWithin_45 : decode cX5_scenesWithin 45 = .ok (.ior, 1) := by decide +kernel
theorem dX5_scenesWithin_46 : decode cX5_scenesWithin 46 = .ok (.istore_n 3, 1) := by decide +kernel
theorem dX5_scenesWithin_47 : decode cX5_scenesWithin 47 = .ok (.iinc 4 1, 3) := by decide +kernel
theorem dX5_scenesWithin_50 : decode cX5_scenesWithin 50 = .ok (.goto (-45), 3) := by decide +kernel
theorem dX5_scenesWithin_53 : decode cX5_scenesWithin 53 = .ok (.iload_n 3, 1) := by decide +kernel
theorem dX5_scenesWithin_54 : decode cX5_scenesWithin 54 = .ok (.ireturn, 1) := by decide +kernel
theorem dX6_init_0 : decode cX6_init 0 = .ok (.aload_n 0, 1) := by decide +kernel
theorem dX6_init_1 : decode cX6_init 1 = .ok (.invokespecial 3, 3) := by decide +kernel
theorem dX6_init_4 : decode cX6_init 4 = .ok (.aload_n 0, 1) := by decide +kernel
theorem dX6_init_5 : decode cX6_init 5 = .ok (.bipush 12, 2) := by decide +kernel
theorem dX6_init_7 : decode cX6_init 7 = .ok (.newarray .int, 2) := by decide +kernel
theorem dX6_init_9 : decode cX6_init 9 = .ok (.putfield 9, 3) := by decide +kernel
theorem dX6_init_12 : decode cX6_init 12 = .ok (.aload_n 0, 1) := by decide +kernel
theorem dX6_init_13 : decode cX6_init 13 = .ok (.bipush 12, 2) := by decide +kernel
theorem dX6_init_15 : decode cX6_init 15 = .ok (.newarray .int, 2) := by decide +kernel
theorem dX6_init_17 : decode cX6_init 17 = .ok (.putfield 15, 3) := by decide +kernel
theorem dX6_init_20 : decode cX6_init 20 = .ok (.aload_n 0, 1) := by decide +kernel
theorem dX6_init_21 : decode cX6_init 21 = .ok (.sipush 480, 3) := by decide +kernel
theorem dX6_init_24 : decode cX6_init 24 = .ok (.newarray .int, 2) := by decide +kernel
theorem dX6_init_26 : decode cX6_init 26 = .ok (.putfield 18, 3) := by decide +kernel
theorem dX6_init_29 : decode cX6_init 29 = .ok (.aload_n 0, 1) := by decide +kernel
theorem dX6_init_30 : decode cX6_init 30 = .ok (.sipush 480, 3) := by decide +kernel
theorem dX6_init_33 : decode cX6_init 33 = .ok (.newarray .int, 2) := by decide +kernel
theorem dX6_init_35 : decode cX6_init 35 = .ok (.putfield 21, 3) := by decide +kernel
theorem dX6_init_38 : decode cX6_init 38 = .ok (.return_, 1) := by decide +kernel
theorem dX6_copyFrom_0 : decode cX6_copyFrom 0 = .ok (.aload_n 0, 1) := by decide +kernel
theorem dX6_copyFrom_1 : decode cX6_copyFrom 1 = .ok (.aload_n 1, 1) := by decide +kernel
theorem dX6_copyFrom_2 : decode cX6_copyFrom 2 = .ok (.getfield 24, 3) := by decide +kernel
theorem dX6_copyFrom_5 : decode cX6_copyFrom 5 = .ok (.putfield 24, 3) := by decide +kernel
theorem dX6_copyFrom_8 : decode cX6_copyFrom 8 = .ok (.aload_n 1, 1) := by decide +kernel
theorem dX6_copyFrom_9 : decode cX6_copyFrom 9 = .ok (.getfield 9, 3) := by decide +kernel
theorem dX6_copyFrom_12 : decode cX6_copyFrom 12 = .ok (.iconst 0, 1) := by decide +kernel
theorem dX6_copyFrom_13 : decode cX6_copyFrom 13 = .ok (.aload_n 0, 1) := by decide +kernel
theorem dX6_copyFrom_14 : decode cX6_copyFrom 14 = .ok (.getfield 9, 3) := by decide +kernel
theorem dX6_copyFrom_17 : decode cX6_copyFrom 17 = .ok (.iconst 0, 1) := by decide +kernel
theorem dX6_copyFrom_18 : decode cX6_copyFrom 18 = .ok (.bipush 12, 2) := by decide +kernel
theorem dX6_copyFrom_20 : decode cX6_copyFrom 20 = .ok (.invokestatic 28, 3) := by decide +kernel
theorem dX6_copyFrom_23 : decode cX6_copyFrom 23 = .ok (.aload_n 1, 1) := by decide +kernel
theorem dX6_copyFrom_24 : decode cX6_copyFrom 24 = .ok (.getfield 15, 3) := by decide +kernel
theorem dX6_copyFrom_27 : decode cX6_copyFrom 27 = .ok (.iconst 0, 1) := by decide +kernel
theorem dX6_copyFrom_28 : decode cX6_copyFrom 28 = .ok (.aload_n 0, 1) := by decide +kernel
theorem dX6_copyFrom_29 : decode cX6_copyFrom 29 = .ok (.getfield 15, 3) := by decide +kernel
theorem dX6_copyFrom_32 : decode cX6_copyFrom 32 = .ok (.iconst 0, 1) := by decide +kernel
theorem dX6_copyFrom_33 : decode cX6_copyFrom 33 = .ok (.bipush 12, 2) := by decide +kernel
theorem dX6_copyFrom_35 : decode cX6_copyFrom 35 = .ok (.invokestatic 28, 3) := by decide +kernel
theorem dX6_copyFrom_38 : decode cX6_copyFrom 38 = .ok (.aload_n 1, 1) := by decide +kernel
theorem dX6_copyFrom_39 : decode cX6_copyFrom 39 = .ok (.getfield 18, 3) := by decide +kernel
theorem dX6_copyFrom_42 : decode cX6_copyFrom 42 = .ok (.iconst 0, 1) := by decide +kernel
theorem dX6_copyFrom_43 : decode cX6_copyFrom 43 = .ok (.aload_n 0, 1) := by decide +kernel
theorem dX6_copyFrom_44 : decode cX6_copyFrom 44 = .ok (.getfield 18, 3) := by decide +kernel
theorem dX6_copyFrom_47 : decode cX6_copyFrom 47 = .ok (.iconst 0, 1) := by decide +kernel
theorem dX6_copyFrom_48 : decode cX6_copyFrom 48 = .ok (.sipush 480, 3) := by decide +kernel
theorem dX6_copyFrom_51 : decode cX6_copyFrom 51 = .ok (.invokestatic 28, 3) := by decide +kernel
theorem dX6_copyFrom_54 : decode cX6_copyFrom 54 = .ok (.aload_n 1, 1) := by decide +kernel
theorem dX6_copyFrom_55 : decode cX6_copyFrom 55 = .ok (.getfield 21, 3) := by decide +kernel
theorem dX6_copyFrom_58 : decode cX6_copyFrom 58 = .ok (.iconst 0, 1) := by decide +kernel
theorem dX6_copyFrom_59 : decode cX6_copyFrom 59 = .ok (.aload_n 0, 1) := by decide +kernel
theorem dX6_copyFrom_60 : decode cX6_copyFrom 60 = .ok (.getfield 21, 3) := by decide +kernel
theorem dX6_copyFrom_63 : decode cX6_copyFrom 63 = .ok (.iconst 0, 1) := by decide +kernel
theorem dX6_copyFrom_64 : decode cX6_copyFrom 64 = .ok (.sipush 480, 3) := by decide +kernel
theorem dX6_copyFrom_67 : decode cX6_copyFrom 67 = .ok (.invokestatic 28, 3) := by decide +kernel
theorem dX6_copyFrom_70 : decode cX6_copyFrom 70 = .ok (.return_, 1) := by decide +kernel
theorem dX6_hasScene_0 : decode cX6_hasScene 0 = .ok (.iload_n 1, 1) := by decide +kernel
theorem dX6_hasScene_1 : decode cX6_hasScene 1 = .ok (.ifCond .lt 15, 3) := by decide +kernel
theorem dX6_hasScene_4 : decode cX6_hasScene 4 = .ok (.iload_n 1, 1) := by decide +kernel
theorem dX6_hasScene_5 : decode cX6_hasScene 5 = .ok (.aload_n 0, 1) := by decide +kernel
theorem dX6_hasScene_6 : decode cX6_hasScene 6 = .ok (.getfield 24, 3) := by decide +kernel
theorem dX6_hasScene_9 : decode cX6_hasScene 9 = .ok (.if_icmp .ge 7, 3) := by decide +kernel
theorem dX6_hasScene_12 : decode cX6_hasScene 12 = .ok (.iconst 1, 1) := by decide +kernel
theorem dX6_hasScene_13 : decode cX6_hasScene 13 = .ok (.goto 4, 3) := by decide +kernel
theorem dX6_hasScene_16 : decode cX6_hasScene 16 = .ok (.iconst 0, 1) := by decide +kernel
theorem dX6_hasScene_17 : decode cX6_hasScene 17 = .ok (.ireturn, 1) := by decide +kernel
set_option maxRecDepth 20000 in
theorem ggX6_hasFrame_X6_hasScene : GoodIn wsX6_hasFrame wsX6_hasScene := goodIn_r _ [6, 7, 8, 9, 10, 11, 12] (by decide +kernel) (by decide +kernel)
set_option maxRecDepth 20000 in
theorem gX6_hasFrame_X6_hasScene : GoodIn wsX6_hasFrame (wsV RX6 34 RX6 yX6_hasScene wsX6_hasScene) := goodIn_app (goodIn_of _ (by decide +kernel)) ggX6_hasFrame_X6_hasScene
theorem dX6_hasFrame_0 : decode cX6_hasFrame 0 = .ok (.aload_n 0, 1) := by decide +kernel
theorem dX6_hasFrame_1 : decode cX6_hasFrame 1 = .ok (.iload_n 1, 1) := by decide +kernel
theorem dX6_hasFrame_2 : decode cX6_hasFrame 2 = .ok (.invokevirtual 34, 3) := by decide +kernel
theorem dX6_hasFrame_5 : decode cX6_hasFrame 5 = .ok (.ifCond .eq 21, 3) := by decide +kernel
theorem dX6_hasFrame_8 : decode cX6_hasFrame 8 = .ok (.iload_n 2, 1) := by decide +kernel
theorem dX6_hasFrame_9 : decode cX6_hasFrame 9 = .ok (.ifCond .lt 17, 3) := by decide +kernel
theorem dX6_hasFrame_12 : decode cX6_hasFrame 12 = .ok (.iload_n 2, 1) := by decide +kernel
theorem dX6_hasFrame_13 : decode cX6_hasFrame 13 = .ok (.aload_n 0, 1) := by decide +kernel
theorem dX6_hasFrame_14 : decode cX6_hasFrame 14 = .ok (.getfield 15, 3) := by decide +kernel
theorem dX6_hasFrame_17 : decode cX6_hasFrame 17 = .ok (.iload_n 1, 1) := by decide +kernel
theorem dX6_hasFrame_18 : decode cX6_hasFrame 18 = .ok (.iaload, 1) := by decide +kernel
theorem dX6_hasFrame_19 : decode cX6_hasFrame 19 = .ok (.if_icmp .ge 7, 3) := by decide +kernel
theorem dX6_hasFrame_22 : decode cX6_hasFrame 22 = .ok (.iconst 1, 1) := by decide +kernel
theorem dX6_hasFrame_23 : decode cX6_hasFrame 23 = .ok (.goto 4, 3) := by decide +kernel
theorem dX6_hasFrame_26 : decode cX6_hasFrame 26 = .ok (.iconst 0, 1) := by decide +kernel
theorem dX6_hasFrame_27 : decode cX6_hasFrame 27 = .ok (.ireturn, 1) := by decide +kernel
theorem dX6_append_0 : decode cX6_append 0 = .ok (.aload_n 0, 1) := by decide +kernel
theorem dX6_append_1 : decode cX6_append 1 = .ok (.getfield 24, 3) := by decide +kernel
theorem dX6_append_4 : decode cX6_append 4 = .ok (.istore_n 3, 1) := by decide +kernel
theorem dX6_append_5 : decode cX6_append 5 = .ok (.iload_n 3, 1) := by decide +kernel
theorem dX6_append_6 : decode cX6_append 6 = .ok (.bipush 12, 2) := by decide +kernel
theorem dX6_append_8 : decode cX6_append 8 = .ok (.if_icmp .ge 27, 3) := by decide +kernel
theorem dX6_append_11 : decode cX6_append 11 = .ok (.aload_n 0, 1) := by decide +kernel
theorem dX6_append_12 : decode cX6_append 12 = .ok (.getfield 9, 3) := by decide +kernel
theorem dX6_append_15 : decode cX6_append 15 = .ok (.iload_n 3, 1) := by decide +kernel
theorem dX6_append_16 : decode cX6_append 16 = .ok (.iload_n 1, 1) := by decide +kernel
theorem dX6_append_17 : decode cX6_append 17 = .ok (.iastore, 1) := by decide +kernel
theorem dX6_append_18 : decode cX6_append 18 = .ok (.aload_n 0, 1) := by decide +kernel
theorem dX6_append_19 : decode cX6_append 19 = .ok (.getfield 15, 3) := by decide +kernel
theorem dX6_append_22 : decode cX6_append 22 = .ok (.iload_n 3, 1) := by decide +kernel
theorem dX6_append_23 : decode cX6_append 23 = .ok (.iload_n 2, 1) := by decide +kernel
theorem dX6_append_24 : decode cX6_append 24 = .ok (.iastore, 1) := by decide +kernel
theorem dX6_append_25 : decode cX6_append 25 = .ok (.aload_n 0, 1) := by decide +kernel
theorem dX6_append_26 : decode cX6_append 26 = .ok (.dup, 1) := by decide +kernel
theorem dX6_append_27 : decode cX6_append 27 = .ok (.getfield 24, 3) := by decide +kernel
theorem dX6_append_30 : decode cX6_append 30 = .ok (.iconst 1, 1) := by decide +kernel
theorem dX6_append_31 : decode cX6_append 31 = .ok (.iadd, 1) := by decide +kernel
theorem dX6_append_32 : decode cX6_append 32 = .ok (.putfield 24, 3) := by decide +kernel
theorem dX6_append_35 : decode cX6_append 35 = .ok (.iload_n 3, 1) := by decide +kernel
theorem dX6_append_36 : decode cX6_append 36 = .ok (.ireturn, 1) := by decide +kernel
set_option maxRecDepth 20000 in
theorem ggX6_goodHoles_J6_bitCount_0f7a4 : GoodIn wsX6_goodHoles wsJ6_bitCount_0f7a4 := goodIn_r _ [5, 6, 7, 8] (by decide +kernel) (by decide +kernel)
set_option maxRecDepth 20000 in
theorem gX6_goodHoles_J6_bitCount_0f7a4 : GoodIn wsX6_goodHoles (va_wsS RX6 38 yJ6_bitCount_0f7a4 wsJ6_bitCount_0f7a4) := goodIn_app (goodIn_of _ (by decide +kernel)) ggX6_goodHoles_J6_bitCount_0f7a4
theorem dX6_goodHoles_0 : decode cX6_goodHoles 0 = .ok (.iconst 4, 1) := by decide +kernel
theorem dX6_goodHoles_1 : decode cX6_goodHoles 1 = .ok (.aload_n 0, 1) := by decide +kernel
theorem dX6_goodHoles_2 : decode cX6_goodHoles 2 = .ok (.getfield 18, 3) := by decide +kernel
theorem dX6_goodHoles_5 : decode cX6_goodHoles 5 = .ok (.iload_n 1, 1) := by decide +kernel
theorem dX6_goodHoles_6 : decode cX6_goodHoles 6 = .ok (.iaload, 1) := by decide +kernel
theorem dX6_goodHoles_7 : decode cX6_goodHoles 7 = .ok (.invokestatic 38, 3) := by decide +kernel
theorem dX6_goodHoles_10 : decode cX6_goodHoles 10 = .ok (.isub, 1) := by decide +kernel
theorem dX6_goodHoles_11 : decode cX6_goodHoles 11 = .ok (.ireturn, 1) := by decide +kernel
set_option maxRecDepth 20000 in
theorem ggX6_tornHolesOf_X8_slotOf : GoodIn wsX6_tornHolesOf wsX8_slotOf := goodIn_r _ [5] (by decide +kernel) (by decide +kernel)
set_option maxRecDepth 20000 in
theorem gX6_tornHolesOf_X8_slotOf_n44 : GoodIn wsX6_tornHolesOf (wsX8_slotOf) := ggX6_tornHolesOf_X8_slotOf
set_option maxRecDepth 20000 in
theorem ggX6_tornHolesOf_J6_bitCount_0f7a4 : GoodIn wsX6_tornHolesOf wsJ6_bitCount_0f7a4 := goodIn_r _ [9, 10, 11, 12] (by decide +kernel) (by decide +kernel)
set_option maxRecDepth 20000 in
theorem gX6_tornHolesOf_J6_bitCount_0f7a4 : GoodIn wsX6_tornHolesOf (va_wsS RX6 38 yJ6_bitCount_0f7a4 wsJ6_bitCount_0f7a4) := goodIn_app (goodIn_of _ (by decide +kernel)) ggX6_tornHolesOf_J6_bitCount_0f7a4
theorem dX6_tornHolesOf_0 : decode cX6_tornHolesOf 0 = .ok (.iconst 0, 1) := by decide +kernel
theorem dX6_tornHolesOf_1 : decode cX6_tornHolesOf 1 = .ok (.istore_n 2, 1) := by decide +kernel
theorem dX6_tornHolesOf_2 : decode cX6_tornHolesOf 2 = .ok (.iconst 0, 1) := by decide +kernel
theorem dX6_tornHolesOf_3 : decode cX6_tornHolesOf 3 = .ok (.istore_n 3, 1) := by decide +kernel
theorem dX6_tornHolesOf_4 : decode cX6_tornHolesOf 4 = .ok (.iload_n 3, 1) := by decide +kernel
theorem dX6_tornHolesOf_5 : decode cX6_tornHolesOf 5 = .ok (.aload_n 0, 1) := by decide +kernel
theorem dX6_tornHolesOf_6 : decode cX6_tornHolesOf 6 = .ok (.getfield 15, 3) := by decide +kernel
theorem dX6_tornHolesOf_9 : decode cX6_tornHolesOf 9 = .ok (.iload_n 1, 1) := by decide +kernel
theorem dX6_tornHolesOf_10 : decode cX6_tornHolesOf 10 = .ok (.iaload, 1) := by decide +kernel
theorem dX6_tornHolesOf_11 : decode cX6_tornHolesOf 11 = .ok (.if_icmp .ge 25, 3) := by decide +kernel
theorem dX6_tornHolesOf_14 : decode cX6_tornHolesOf 14 = .ok (.iload_n 2, 1) := by decide +kernel
theorem dX6_tornHolesOf_15 : decode cX6_tornHolesOf 15 = .ok (.aload_n 0, 1) := by decide +kernel
theorem dX6_tornHolesOf_16 : decode cX6_tornHolesOf 16 = .ok (.getfield 18, 3) := by decide +kernel
theorem dX6_tornHolesOf_19 : decode cX6_tornHolesOf 19 = .ok (.iload_n 1, 1) := by decide +kernel
theorem dX6_tornHolesOf_20 : decode cX6_tornHolesOf 20 = .ok (.iload_n 3, 1) := by decide +kernel
theorem dX6_tornHolesOf_21 : decode cX6_tornHolesOf 21 = .ok (.invokestatic 44, 3) := by decide +kernel
theorem dX6_tornHolesOf_24 : decode cX6_tornHolesOf 24 = .ok (.iaload, 1) := by decide +kernel
theorem dX6_tornHolesOf_25 : decode cX6_tornHolesOf 25 = .ok (.invokestatic 38, 3) := by decide +kernel
theorem dX6_tornHolesOf_28 : decode cX6_tornHolesOf 28 = .ok (.iadd, 1) := by decide +kernel
theorem dX6_tornHolesOf_29 : decode cX6_tornHolesOf 29 = .ok (.istore_n 2, 1) := by decide +kernel
theorem dX6_tornHolesOf_30 : decode cX6_tornHolesOf 30 = .ok (.iinc 3 1, 3) := by decide +kernel
theorem dX6_tornHolesOf_33 : decode cX6_tornHolesOf 33 = .ok (.goto (-29), 3) := by decide +kernel
theorem dX6_tornHolesOf_36 : decode cX6_tornHolesOf 36 = .ok (.iload_n 2, 1) := by decide +kernel
theorem dX6_tornHolesOf_37 : decode cX6_tornHolesOf 37 = .ok (.ireturn, 1) := by decide +kernel
set_option maxRecDepth 20000 in
theorem ggX6_allTornHoles_X6_tornHolesOf : GoodIn wsX6_allTornHoles wsX6_tornHolesOf := goodIn_r _ [6, 7, 8, 9, 10, 11, 12, 13, 14, 15, 16, 17, 18, 19, 20, 21, 22, 23] (by decide +kernel) (by decide +kernel)
set_option maxRecDepth 20000 in
theorem gX6_allTornHoles_X6_tornHolesOf : GoodIn wsX6_allTornHoles (wsV RX6 48 RX6 yX6_tornHolesOf wsX6_tornHolesOf) := goodIn_app (goodIn_of _ (by decide +kernel)) ggX6_allTornHoles_X6_tornHolesOf
theorem dX6_allTornHoles_0 : decode cX6_allTornHoles 0 = .ok (.iconst 0, 1) := by decide +kernel
theorem dX6_allTornHoles_1 : decode cX6_allTornHoles 1 = .ok (.istore_n 1, 1) := by decide +kernel
theorem dX6_allTornHoles_2 : decode cX6_allTornHoles 2 = .ok (.iconst 0, 1) := by decide +kernel
theorem dX6_allTornHoles_3 : decode cX6_allTornHoles 3 = .ok (.istore_n 2, 1) := by decide +kernel
theorem dX6_allTornHoles_4 : decode cX6_allTornHoles 4 = .ok (.iload_n 2, 1) := by decide +kernel
theorem dX6_allTornHoles_5 : decode cX6_allTornHoles 5 = .ok (.aload_n 0, 1) := by decide +kernel
theorem dX6_allTornHoles_6 : decode cX6_allTornHoles 6 = .ok (.getfield 24, 3) := by decide +kernel
theorem dX6_allTornHoles_9 : decode cX6_allTornHoles 9 = .ok (.if_icmp .ge 17, 3) := by decide +kernel
theorem dX6_allTornHoles_12 : decode cX6_allTornHoles 12 = .ok (.iload_n 1, 1) := by decide +kernel
theorem dX6_allTornHoles_13 : decode cX6_allTornHoles 13 = .ok (.aload_n 0, 1) := by decide +kernel
theorem dX6_allTornHoles_14 : decode cX6_allTornHoles 14 = .ok (.iload_n 2, 1) := by decide +kernel
theorem dX6_allTornHoles_15 : decode cX6_allTornHoles 15 = .ok (.invokevirtual 48, 3) := by decide +kernel
theorem dX6_allTornHoles_18 : decode cX6_allTornHoles 18 = .ok (.iadd, 1) := by decide +kernel
theorem dX6_allTornHoles_19 : decode cX6_allTornHoles 19 = .ok (.istore_n 1, 1) := by decide +kernel
theorem dX6_allTornHoles_20 : decode cX6_allTornHoles 20 = .ok (.iinc 2 1, 3) := by decide +kernel
theorem dX6_allTornHoles_23 : decode cX6_allTornHoles 23 = .ok (.goto (-19), 3) := by decide +kernel
theorem dX6_allTornHoles_26 : decode cX6_allTornHoles 26 = .ok (.iload_n 1, 1) := by decide +kernel
theorem dX6_allTornHoles_27 : decode cX6_allTornHoles 27 = .ok (.ireturn, 1) := by decide +kernel
set_option maxRecDepth 20000 in
theorem ggX6_wear_J6_lowestOneBit_0f7a4 : GoodIn wsX6_wear wsJ6_lowestOneBit_0f7a4 := goodIn_r _ [6] (by decide +kernel) (by decide +kernel)
set_option maxRecDepth 20000 in
theorem gX6_wear_J6_lowestOneBit_0f7a4 : GoodIn wsX6_wear (va_wsS RX6 51 yJ6_lowestOneBit_0f7a4 wsJ6_lowestOneBit_0f7a4) := goodIn_app (goodIn_of _ (by decide +kernel)) ggX6_wear_J6_lowestOneBit_0f7a4
theorem dX6_wear_0 : decode cX6_wear 0 = .ok (.aload_n 0, 1) := by decide +kernel
theorem dX6_wear_1 : decode cX6_wear 1 = .ok (.getfield 21, 3) := by decide +kernel
theorem dX6_wear_4 : decode cX6_wear 4 = .ok (.iload_n 1, 1) := by decide +kernel
theorem dX6_wear_5 : decode cX6_wear 5 = .ok (.dup2, 1) := by decide +kernel
theorem dX6_wear_6 : decode cX6_wear 6 = .ok (.iaload, 1) := by decide +kernel
theorem dX6_wear_7 : decode cX6_wear 7 = .ok (.iconst 1, 1) := by decide +kernel
theorem dX6_wear_8 : decode cX6_wear 8 = .ok (.iadd, 1) := by decide +kernel
theorem dX6_wear_9 : decode cX6_wear 9 = .ok (.iastore, 1) := by decide +kernel
theorem dX6_wear_10 : decode cX6_wear 10 = .ok (.aload_n 0, 1) := by decide +kernel
theorem dX6_wear_11 : decode cX6_wear 11 = .ok (.getfield 18, 3) := by decide +kernel
theorem dX6_wear_14 : decode cX6_wear 14 = .ok (.iload_n 1, 1) := by decide +kernel
theorem dX6_wear_15 : decode cX6_wear 15 = .ok (.iaload, 1) := by decide +kernel
theorem dX6_wear_16 : decode cX6_wear 16 = .ok (.ifCond .eq 18, 3) := by decide +kernel
theorem dX6_wear_19 : decode cX6_wear 19 = .ok (.aload_n 0, 1) := by decide +kernel
theorem dX6_wear_20 : decode cX6_wear 20 = .ok (.getfield 18, 3) := by decide +kernel
theorem dX6_wear_23 : decode cX6_wear 23 = .ok (.iload_n 1, 1) := by decide +kernel
theorem dX6_wear_24 : decode cX6_wear 24 = .ok (.iaload, 1) := by decide +kernel
theorem dX6_wear_25 : decode cX6_wear 25 = .ok (.bipush 15, 2) := by decide +kernel
theorem dX6_wear_27 : decode cX6_wear 27 = .ok (.if_icmp .eq 7, 3) := by decide +kernel
theorem dX6_wear_30 : decode cX6_wear 30 = .ok (.iconst 1, 1) := by decide +kernel
theorem dX6_wear_31 : decode cX6_wear 31 = .ok (.goto 4, 3) := by decide +kernel
theorem dX6_wear_34 : decode cX6_wear 34 = .ok (.iconst 0, 1) := by decide +kernel
theorem dX6_wear_35 : decode cX6_wear 35 = .ok (.istore_n 2, 1) := by decide +kernel
theorem dX6_wear_36 : decode cX6_wear 36 = .ok (.iload_n 2, 1) := by decide +kernel
theorem dX6_wear_37 : decode cX6_wear 37 = .ok (.ifCond .eq 34, 3) := by decide +kernel
theorem dX6_wear_40 : decode cX6_wear 40 = .ok (.aload_n 0, 1) := by decide +kernel
theorem dX6_wear_41 : decode cX6_wear 41 = .ok (.getfield 21, 3) := by decide +kernel
theorem dX6_wear_44 : decode cX6_wear 44 = .ok (.iload_n 1, 1) := by decide +kernel
theorem dX6_wear_45 : decode cX6_wear 45 = .ok (.iaload, 1) := by decide +kernel
theorem dX6_wear_46 : decode cX6_wear 46 = .ok (.iconst 3, 1) := by decide +kernel
theorem dX6_wear_47 : decode cX6_wear 47 = .ok (.irem, 1) := by decide +kernel
theorem dX6_wear_48 : decode cX6_wear 48 = .ok (.ifCond .ne 23, 3) := by decide +kernel
theorem dX6_wear_51 : decode cX6_wear 51 = .ok (.aload_n 0, 1) := by decide +kernel
theorem dX6_wear_52 : decode cX6_wear 52 = .ok (.getfield 18, 3) := by decide +kernel
theorem dX6_wear_55 : decode cX6_wear 55 = .ok (.iload_n 1, 1) := by decide +kernel
theorem dX6_wear_56 : decode cX6_wear 56 = .ok (.dup2, 1) := by decide +kernel
theorem dX6_wear_57 : decode cX6_wear 57 = .ok (.iaload, 1) := by decide +kernel
theorem dX6_wear_58 : decode cX6_wear 58 = .ok (.aload_n 0, 1) := by decide +kernel
theorem dX6_wear_59 : decode cX6_wear 59 = .ok (.getfield 18, 3) := by decide +kernel
theorem dX6_wear_62 : decode cX6_wear 62 = .ok (.iload_n 1, 1) := by decide +kernel
theorem dX6_wear_63 : decode cX6_wear 63 = .ok (.iaload, 1) := by decide +kernel
theorem dX6_wear_64 : decode cX6_wear 64 = .ok (.iconst (-1), 1) := by decide +kernel
theorem dX6_wear_65 : decode cX6_wear 65 = .ok (.ixor, 1) := by decide +kernel
theorem dX6_wear_66 : decode cX6_wear 66 = .ok (.invokestatic 51, 3) := by decide +kernel
theorem dX6_wear_69 : decode cX6_wear 69 = .ok (.ior, 1) := by decide +kernel
theorem dX6_wear_70 : decode cX6_wear 70 = .ok (.iastore, 1) := by decide +kernel
theorem dX6_wear_71 : decode cX6_wear 71 = .ok (.return_, 1) := by decide +kernel
theorem dX7_init_0 : decode cX7_init 0 = .ok (.aload_n 0, 1) := by decide +kernel
theorem dX7_init_1 : decode cX7_init 1 = .ok (.invokespecial 3, 3) := by decide +kernel
theorem dX7_init_4 : decode cX7_init 4 = .ok (.aload_n 0, 1) := by decide +kernel
theorem dX7_init_5 : decode cX7_init 5 = .ok (.bipush 8, 2) := by decide +kernel
theorem dX7_init_7 : decode cX7_init 7 = .ok (.newarray .int, 2) := by decide +kernel
theorem dX7_init_9 : decode cX7_init 9 = .ok (.putfield 9, 3) := by decide +kernel
theorem dX7_init_12 : decode cX7_init 12 = .ok (.aload_n 0, 1) := by decide +kernel
theorem dX7_init_13 : decode cX7_init 13 = .ok (.bipush 8, 2) := by decide +kernel
theorem dX7_init_15 : decode cX7_init 15 = .ok (.newarray .int, 2) := by decide +kernel
theorem dX7_init_17 : decode cX7_init 17 = .ok (.putfield 15, 3) := by decide +kernel
theorem dX7_init_20 : decode cX7_init 20 = .ok (.aload_n 0, 1) := by decide +kernel
theorem dX7_init_21 : decode cX7_init 21 = .ok (.bipush 8, 2) := by decide +kernel
theorem dX7_init_23 : decode cX7_init 23 = .ok (.newarray .int, 2) := by decide +kernel
theorem dX7_init_25 : decode cX7_init 25 = .ok (.putfield 18, 3) := by decide +kernel
theorem dX7_init_28 : decode cX7_init 28 = .ok (.return_, 1) := by decide +kernel
theorem dX7_copyFrom_0 : decode cX7_copyFrom 0 = .ok (.aload_n 0, 1) := by decide +kernel
theorem dX7_copyFrom_1 : decode cX7_copyFrom 1 = .ok (.aload_n 1, 1) := by decide +kernel
theorem dX7_copyFrom_2 : decode cX7_copyFrom 2 = .ok (.getfield 21, 3) := by decide +kernel
theorem dX7_copyFrom_5 : decode cX7_copyFrom 5 = .ok (.putfield 21, 3) := by decide +kernel
theorem dX7_copyFrom_8 : decode cX7_copyFrom 8 = .ok (.aload_n 1, 1) := by decide +kernel
theorem dX7_copyFrom_9 : decode cX7_copyFrom 9 = .ok (.getfield 9, 3) := by decide +kernel
theorem dX7_copyFrom_12 : decode cX7_copyFrom 12 = .ok (.iconst 0, 1) := by decide +kernel
theorem dX7_copyFrom_13 : decode cX7_copyFrom 13 = .ok (.aload_n 0, 1) := by decide +kernel
theorem dX7_copyFrom_14 : decode cX7_copyFrom 14 = .ok (.getfield 9, 3) := by decide +kernel
theorem dX7_copyFrom_17 : decode cX7_copyFrom 17 = .ok (.iconst 0, 1) := by decide +kernel
theorem dX7_copyFrom_18 : decode cX7_copyFrom 18 = .ok (.bipush 8, 2) := by decide +kernel
theorem dX7_copyFrom_20 : decode cX7_copyFrom 20 = .ok (.invokestatic 25, 3) := by decide +kernel
theorem dX7_copyFrom_23 : decode cX7_copyFrom 23 = .ok (.aload_n 1, 1) := by decide +kernel
theorem dX7_copyFrom_24 : decode cX7_copyFrom 24 = .ok (.getfield 15, 3) := by decide +kernel
theorem dX7_copyFrom_27 : decode cX7_copyFrom 27 = .ok (.iconst 0, 1) := by decide +kernel
theorem dX7_copyFrom_28 : decode cX7_copyFrom 28 = .ok (.aload_n 0, 1) := by decide +kernel
theorem dX7_copyFrom_29 : decode cX7_copyFrom 29 = .ok (.getfield 15, 3) := by decide +kernel
theorem dX7_copyFrom_32 : decode cX7_copyFrom 32 = .ok (.iconst 0, 1) := by decide +kernel
theorem dX7_copyFrom_33 : decode cX7_copyFrom 33 = .ok (.bipush 8, 2) := by decide +kernel
theorem dX7_copyFrom_35 : decode cX7_copyFrom 35 = .ok (.invokestatic 25, 3) := by decide +kernel
theorem dX7_copyFrom_38 : decode cX7_copyFrom 38 = .ok (.aload_n 1, 1) := by decide +kernel
theorem dX7_copyFrom_39 : decode cX7_copyFrom 39 = .ok (.getfield 18, 3) := by decide +kernel
theorem dX7_copyFrom_42 : decode cX7_copyFrom 42 = .ok (.iconst 0, 1) := by decide +kernel
theorem dX7_copyFrom_43 : decode cX7_copyFrom 43 = .ok (.aload_n 0, 1) := by decide +kernel
theorem dX7_copyFrom_44 : decode cX7_copyFrom 44 = .ok (.getfield 18, 3) := by decide +kernel
theorem dX7_copyFrom_47 : decode cX7_copyFrom 47 = .ok (.iconst 0, 1) := by decide +kernel
theorem dX7_copyFrom_48 : decode cX7_copyFrom 48 = .ok (.bipush 8, 2) := by decide +kernel
theorem dX7_copyFrom_50 : decode cX7_copyFrom 50 = .ok (.invokestatic 25, 3) := by decide +kernel
theorem dX7_copyFrom_53 : decode cX7_copyFrom 53 = .ok (.return_, 1) := by decide +kernel
theorem dX7_has_0 : decode cX7_has 0 = .ok (.iload_n 1, 1) := by decide +kernel
theorem dX7_has_1 : decode cX7_has 1 = .ok (.ifCond .lt 15, 3) := by decide +kernel
theorem dX7_has_4 : decode cX7_has 4 = .ok (.iload_n 1, 1) := by decide +kernel
theorem dX7_has_5 : decode cX7_has 5 = .ok (.aload_n 0, 1) := by decide +kernel
theorem dX7_has_6 : decode cX7_has 6 = .ok (.getfield 21, 3) := by decide +kernel
theorem dX7_has_9 : decode cX7_has 9 = .ok (.if_icmp .ge 7, 3) := by decide +kernel
theorem dX7_has_12 : decode cX7_has 12 = .ok (.iconst 1, 1) := by decide +kernel
theorem dX7_has_13 : decode cX7_has 13 = .ok (.goto 4, 3) := by decide +kernel
theorem dX7_has_16 : decode cX7_has 16 = .ok (.iconst 0, 1) := by decide +kernel
theorem dX7_has_17 : decode cX7_has 17 = .ok (.ireturn, 1) := by decide +kernel
theorem dX7_append_0 : decode cX7_append 0 = .ok (.aload_n 0, 1) := by decide +kernel
theorem dX7_append_1 : decode cX7_append 1 = .ok (.getfield 21, 3) := by decide +kernel
theorem dX7_append_4 : decode cX7_append 4 = .ok (.istore 4, 2) := by decide +kernel
theorem dX7_append_6 : decode cX7_append 6 = .ok (.iload 4, 2) := by decide +kernel
theorem dX7_append_8 : decode cX7_append 8 = .ok (.bipush 8, 2) := by decide +kernel
theorem dX7_append_10 : decode cX7_append 10 = .ok (.if_icmp .ge 37, 3) := by decide +kernel
theorem dX7_append_13 : decode cX7_append 13 = .ok (.aload_n 0, 1) := by decide +kernel
theorem dX7_append_14 : decode cX7_append 14 = .ok (.getfield 9, 3) := by decide +kernel
theorem dX7_append_17 : decode cX7_append 17 = .ok (.iload 4, 2) := by decide +kernel
theorem dX7_append_19 : decode cX7_append 19 = .ok (.iload_n 1, 1) := by decide +kernel
theorem dX7_append_20 : decode cX7_append 20 = .ok (.iastore, 1) := by decide +kernel
theorem dX7_append_21 : decode cX7_append 21 = .ok (.aload_n 0, 1) := by decide +kernel
theorem dX7_append_22 : decode cX7_append 22 = .ok (.getfield 15, 3) := by decide +kernel
theorem dX7_append_25 : decode cX7_append 25 = .ok (.iload 4, 2) := by decide +kernel
theorem dX7_append_27 : decode cX7_append 27 = .ok (.iload_n 2, 1) := by decide +kernel
theorem dX7_append_28 : decode cX7_append 28 = .ok (.iastore, 1) := by decide +kernel
theorem dX7_append_29 : decode cX7_append 29 = .ok (.aload_n 0, 1) := by decide +kernel
theorem dX7_append_30 : decode cX7_append 30 = .ok (.getfield 18, 3) := by decide +kernel
theorem dX7_append_33 : decode cX7_append 33 = .ok (.iload 4, 2) := by decide +kernel
theorem dX7_append_35 : decode cX7_append 35 = .ok (.iload_n 3, 1) := by decide +kernel
theorem dX7_append_36 : decode cX7_append 36 = .ok (.iastore, 1) := by decide +kernel
theorem dX7_append_37 : decode cX7_append 37 = .ok (.aload_n 0, 1) := by decide +kernel
theorem dX7_append_38 : decode cX7_append 38 = .ok (.dup, 1) := by decide +kernel
theorem dX7_append_39 : decode cX7_append 39 = .ok (.getfield 21, 3) := by decide +kernel
theorem dX7_append_42 : decode cX7_append 42 = .ok (.iconst 1, 1) := by decide +kernel
theorem dX7_append_43 : decode cX7_append 43 = .ok (.iadd, 1) := by decide +kernel
theorem dX7_append_44 : decode cX7_append 44 = .ok (.putfield 21, 3) := by decide +kernel
theorem dX7_append_47 : decode cX7_append 47 = .ok (.iload 4, 2) := by decide +kernel
theorem dX7_append_49 : decode cX7_append 49 = .ok (.ireturn, 1) := by decide +kernel
set_option maxRecDepth 20000 in
theorem ggX8_init_X2_init : GoodIn wsX8_init wsX2_init := goodIn_r _ [27, 28, 2, 3, 29, 30, 31, 32, 33, 18, 19, 34, 35, 36, 37, 38, 39, 40, 41, 42, 22, 23, 43, 44, 45, 46, 47, 48, 49, 50, 51, 52, 53, 54, 55, 56, 57, 58, 59, 60, 61, 62, 63, 64, 65, 66, 67, 68, 69, 70, 71, 72, 73, 74, 75, 76, 122, 123, 124, 125, 126, 92, 93, 94, 95, 96, 97, 98, 99, 118, 119, 127, 128, 129, 130, 120, 121, 131, 132, 133, 134, 135] (by decide +kernel) (by decide +kernel)
set_option maxRecDepth 20000 in
theorem gX8_init_X2_init : GoodIn wsX8_init (wsX2_init) := ggX8_init_X2_init
set_option maxRecDepth 20000 in
theorem ggX8_init_X3_init : GoodIn wsX8_init wsX3_init := goodIn_r _ [79, 80, 2, 3, 81, 82, 5, 6, 83, 26, 27, 28, 29, 30, 31, 32, 33, 18, 19, 34, 35, 36, 37, 38, 39, 40, 41, 42, 22, 23, 43, 44, 45, 46, 47, 48, 49, 50, 51, 52, 53, 54, 55, 56, 57, 58, 59, 60, 61, 62, 63, 64, 65, 66, 67, 68, 69, 70, 71, 72, 73, 74, 75, 76, 107, 108, 109, 92, 93, 94, 95, 96, 97, 98, 99, 122, 123, 124, 125, 126, 118, 119, 127, 128, 129, 130, 120, 121, 131, 132, 133, 134, 135] (by decide +kernel) (by decide +kernel)
set_option maxRecDepth 20000 in
theorem gX8_init_X3_init : GoodIn wsX8_init (wsX3_init) := ggX8_init_X3_init
set_option maxRecDepth 20000 in
theorem ggX8_init_X1_init : GoodIn wsX8_init wsX1_init := goodIn_r _ [85, 86, 2, 3, 46, 87, 88, 89, 90, 91, 110, 111, 112, 113, 114, 115, 116, 117] (by decide +kernel) (by decide +kernel)
set_option maxRecDepth 20000 in
theorem gX8_init_X1_init_n28 : GoodIn wsX8_init (wsX1_init) := ggX8_init_X1_init
set_option maxRecDepth 20000 in
theorem ggX8_init_X0_init : GoodIn wsX8_init wsX0_init := goodIn_r _ [52, 53, 2, 3, 54, 55, 56, 57, 58, 59, 60, 61, 46, 62, 63, 64, 65, 131, 132, 133, 134, 135, 118, 119] (by decide +kernel) (by decide +kernel)
set_option maxRecDepth 20000 in
theorem gX8_init_X0_init_n35 : GoodIn wsX8_init (wsX0_init) := ggX8_init_X0_init
set_option maxRecDepth 20000 in
theorem ggX8_init_X5_init : GoodIn wsX8_init wsX5_init := goodIn_r _ [73, 74, 2, 3, 46, 75, 76, 120, 121] (by decide +kernel) (by decide +kernel)
set_option maxRecDepth 20000 in
theorem gX8_init_X5_init_n42 : GoodIn wsX8_init (wsX5_init) := ggX8_init_X5_init
theorem dX8_init_0 : decode cX8_init 0 = .ok (.aload_n 0, 1) := by decide +kernel
theorem dX8_init_1 : decode cX8_init 1 = .ok (.invokespecial 3, 3) := by decide +kernel
theorem dX8_init_4 : decode cX8_init 4 = .ok (.aload_n 0, 1) := by decide +kernel
theorem dX8_init_5 : decode cX8_init 5 = .ok (.new 9, 3) := by decide +kernel
theorem dX8_init_8 : decode cX8_init 8 = .ok (.dup, 1) := by decide +kernel
theorem dX8_init_9 : decode cX8_init 9 = .ok (.invokespecial 11, 3) := by decide +kernel
theorem dX8_init_12 : decode cX8_init 12 = .ok (.putfield 12, 3) := by decide +kernel
theorem dX8_init_15 : decode cX8_init 15 = .ok (.aload_n 0, 1) := by decide +kernel
theorem dX8_init_16 : decode cX8_init 16 = .ok (.new 9, 3) := by decide +kernel
theorem dX8_init_19 : decode cX8_init 19 = .ok (.dup, 1) := by decide +kernel
theorem dX8_init_20 : decode cX8_init 20 = .ok (.invokespecial 11, 3) := by decide +kernel
theorem dX8_init_23 : decode cX8_init 23 = .ok (.putfield 16, 3) := by decide +kernel
theorem dX8_init_26 : decode cX8_init 26 = .ok (.aload_n 0, 1) := by decide +kernel
theorem dX8_init_27 : decode cX8_init 27 = .ok (.new 19, 3) := by decide +kernel
theorem dX8_init_30 : decode cX8_init 30 = .ok (.dup, 1) := by decide +kernel
theorem dX8_init_31 : decode cX8_init 31 = .ok (.invokespecial 21, 3) := by decide +kernel
theorem dX8_init_34 : decode cX8_init 34 = .ok (.putfield 22, 3) := by decide +kernel
theorem dX8_init_37 : decode cX8_init 37 = .ok (.aload_n 0, 1) := by decide +kernel
theorem dX8_init_38 : decode cX8_init 38 = .ok (.new 26, 3) := by decide +kernel
theorem dX8_init_41 : decode cX8_init 41 = .ok (.dup, 1) := by decide +kernel
theorem dX8_init_42 : decode cX8_init 42 = .ok (.invokespecial 28, 3) := by decide +kernel
theorem dX8_init_45 : decode cX8_init 45 = .ok (.putfield 29, 3) := by decide +kernel
theorem dX8_init_48 : decode cX8_init 48 = .ok (.aload_n 0, 1) := by decide +kernel
theorem dX8_init_49 : decode cX8_init 49 = .ok (.new 33, 3) := by decide +kernel
theorem dX8_init_52 : decode cX8_init 52 = .ok (.dup, 1) := by decide +kernel
theorem dX8_init_53 : decode cX8_init 53 = .ok (.invokespecial 35, 3) := by decide +kernel
theorem dX8_init_56 : decode cX8_init 56 = .ok (.putfield 36, 3) := by decide +kernel
theorem dX8_init_59 : decode cX8_init 59 = .ok (.aload_n 0, 1) := by decide +kernel
theorem dX8_init_60 : decode cX8_init 60 = .ok (.new 40, 3) := by decide +kernel
theorem dX8_init_63 : decode cX8_init 63 = .ok (.dup, 1) := by decide +kernel
theorem dX8_init_64 : decode cX8_init 64 = .ok (.invokespecial 42, 3) := by decide +kernel
theorem dX8_init_67 : decode cX8_init 67 = .ok (.putfield 43, 3) := by decide +kernel
theorem dX8_init_70 : decode cX8_init 70 = .ok (.return_, 1) := by decide +kernel
set_option maxRecDepth 20000 in
theorem ggX8_addScene_X8_isWithin : GoodIn wsX8_addScene wsX8_isWithin := goodIn_r _ [11] (by decide +kernel) (by decide +kernel)
set_option maxRecDepth 20000 in
theorem gX8_addScene_X8_isWithin : GoodIn wsX8_addScene (va_wsS RX8 47 yX8_isWithin wsX8_isWithin) := goodIn_app (goodIn_of _ (by decide +kernel)) ggX8_addScene_X8_isWithin
set_option maxRecDepth 20000 in
theorem ggX8_addScene_X4_isFull : GoodIn wsX8_addScene wsX4_isFull := goodIn_r _ [16, 17, 133, 134, 135, 136, 137] (by decide +kernel) (by decide +kernel)
set_option maxRecDepth 20000 in
theorem gX8_addScene_X4_isFull : GoodIn wsX8_addScene (wsV RX8 68 RX4 yX4_isFull wsX4_isFull) := goodIn_app (goodIn_of _ (by decide +kernel)) ggX8_addScene_X4_isFull
set_option maxRecDepth 20000 in
theorem ggX8_addScene_X3_record : GoodIn wsX8_addScene wsX3_record := goodIn_r _ [22, 23, 24, 25, 26, 27, 28, 29, 30, 31, 32, 33, 34, 35, 36, 37, 38, 39, 40, 41, 42, 43, 44, 45, 46, 47, 48, 49, 50, 51, 52, 53, 54, 55, 56, 57, 58, 59, 60, 61, 15, 62, 17, 63, 64, 65, 66, 67, 68, 69, 70, 71, 72, 73, 74, 75, 76, 77, 78, 79, 80, 81, 82, 83, 84, 85, 138, 139, 140, 118, 119, 120, 121, 122, 123, 124, 125, 131, 132, 126, 127, 128, 129, 130, 133, 134, 135, 136, 137, 141, 142, 143, 144, 145, 146] (by decide +kernel) (by decide +kernel)
set_option maxRecDepth 20000 in
theorem gX8_addScene_X3_record : GoodIn wsX8_addScene (wsV RX8 74 RX3 yX3_record wsX3_record) := goodIn_app (goodIn_of _ (by decide +kernel)) ggX8_addScene_X3_record
set_option maxRecDepth 20000 in
theorem ggX8_addScene_X6_append : GoodIn wsX8_addScene wsX6_append := goodIn_r _ [89, 50, 51, 56, 126, 127, 128, 129, 130] (by decide +kernel) (by decide +kernel)
set_option maxRecDepth 20000 in
theorem gX8_addScene_X6_append : GoodIn wsX8_addScene (wsV RX8 78 RX6 yX6_append wsX6_append) := goodIn_app (goodIn_of _ (by decide +kernel)) ggX8_addScene_X6_append
set_option maxRecDepth 20000 in
theorem ggX8_addScene_X4_putAt : GoodIn wsX8_addScene wsX4_putAt := goodIn_r _ [93, 94, 95, 96, 15, 97, 17, 63, 65, 66, 67, 98, 13, 14, 16, 9, 10, 11, 99, 100, 101, 102, 103, 104, 105, 106, 107, 108, 109, 110, 133, 134, 135, 136, 137] (by decide +kernel) (by decide +kernel)
set_option maxRecDepth 20000 in
theorem gX8_addScene_X4_putAt : GoodIn wsX8_addScene (wsV RX8 85 RX4 yX4_putAt wsX4_putAt) := goodIn_app (goodIn_of _ (by decide +kernel)) ggX8_addScene_X4_putAt
theorem dX8_addScene_0 : decode cX8_addScene 0 = .ok (.iload_n 1, 1) := by decide +kernel
theorem dX8_addScene_1 : decode cX8_addScene 1 = .ok (.iconst 0, 1) := by decide +kernel
theorem dX8_addScene_2 : decode cX8_addScene 2 = .ok (.iconst 5, 1) := by decide +kernel
theorem dX8_addScene_3 : decode cX8_addScene 3 = .ok (.invokestatic 47, 3) := by decide +kernel
theorem dX8_addScene_6 : decode cX8_addScene 6 = .ok (.ifCond .eq 13, 3) := by decide +kernel
theorem dX8_addScene_9 : decode cX8_addScene 9 = .ok (.iload_n 2, 1) := by decide +kernel
theorem dX8_addScene_10 : decode cX8_addScene 10 = .ok (.iconst 1, 1) := by decide +kernel
theorem dX8_addScene_11 : decode cX8_addScene 11 = .ok (.bipush 40, 2) := by decide +kernel
theorem dX8_addScene_13 : decode cX8_addScene 13 = .ok (.invokestatic 47, 3) := by decide +kernel
theorem dX8_addScene_16 : decode cX8_addScene 16 = .ok (.ifCond .ne 6, 3) := by decide +kernel
theorem dX8_addScene_19 : decode cX8_addScene 19 = .ok (.bipush (-2), 2) := by decide +kernel
theorem dX8_addScene_21 : decode cX8_addScene 21 = .ok (.ireturn, 1) := by decide +kernel
theorem dX8_addScene_22 : decode cX8_addScene 22 = .ok (.aload_n 0, 1) := by decide +kernel
theorem dX8_addScene_23 : decode cX8_addScene 23 = .ok (.getfield 12, 3) := by decide +kernel
theorem dX8_addScene_26 : decode cX8_addScene 26 = .ok (.getfield 51, 3) := by decide +kernel
theorem dX8_addScene_29 : decode cX8_addScene 29 = .ok (.getfield 55, 3) := by decide +kernel
theorem dX8_addScene_32 : decode cX8_addScene 32 = .ok (.bipush 12, 2) := by decide +kernel
theorem dX8_addScene_34 : decode cX8_addScene 34 = .ok (.if_icmp .ge 19, 3) := by decide +kernel
theorem dX8_addScene_37 : decode cX8_addScene 37 = .ok (.aload_n 0, 1) := by decide +kernel
theorem dX8_addScene_38 : decode cX8_addScene 38 = .ok (.getfield 12, 3) := by decide +kernel
theorem dX8_addScene_41 : decode cX8_addScene 41 = .ok (.getfield 61, 3) := by decide +kernel
theorem dX8_addScene_44 : decode cX8_addScene 44 = .ok (.getfield 64, 3) := by decide +kernel
theorem dX8_addScene_47 : decode cX8_addScene 47 = .ok (.invokevirtual 68, 3) := by decide +kernel
theorem dX8_addScene_50 : decode cX8_addScene 50 = .ok (.ifCond .eq 6, 3) := by decide +kernel
theorem dX8_addScene_53 : decode cX8_addScene 53 = .ok (.bipush (-3), 2) := by decide +kernel
theorem dX8_addScene_55 : decode cX8_addScene 55 = .ok (.ireturn, 1) := by decide +kernel
theorem dX8_addScene_56 : decode cX8_addScene 56 = .ok (.aload_n 0, 1) := by decide +kernel
theorem dX8_addScene_57 : decode cX8_addScene 57 = .ok (.getfield 22, 3) := by decide +kernel
theorem dX8_addScene_60 : decode cX8_addScene 60 = .ok (.aload_n 0, 1) := by decide +kernel
theorem dX8_addScene_61 : decode cX8_addScene 61 = .ok (.getfield 12, 3) := by decide +kernel
theorem dX8_addScene_64 : decode cX8_addScene 64 = .ok (.invokevirtual 74, 3) := by decide +kernel
theorem dX8_addScene_67 : decode cX8_addScene 67 = .ok (.aload_n 0, 1) := by decide +kernel
theorem dX8_addScene_68 : decode cX8_addScene 68 = .ok (.getfield 12, 3) := by decide +kernel
theorem dX8_addScene_71 : decode cX8_addScene 71 = .ok (.getfield 51, 3) := by decide +kernel
theorem dX8_addScene_74 : decode cX8_addScene 74 = .ok (.iload_n 1, 1) := by decide +kernel
theorem dX8_addScene_75 : decode cX8_addScene 75 = .ok (.iload_n 2, 1) := by decide +kernel
theorem dX8_addScene_76 : decode cX8_addScene 76 = .ok (.invokevirtual 78, 3) := by decide +kernel
theorem dX8_addScene_79 : decode cX8_addScene 79 = .ok (.istore_n 3, 1) := by decide +kernel
theorem dX8_addScene_80 : decode cX8_addScene 80 = .ok (.aload_n 0, 1) := by decide +kernel
theorem dX8_addScene_81 : decode cX8_addScene 81 = .ok (.getfield 12, 3) := by decide +kernel
theorem dX8_addScene_84 : decode cX8_addScene 84 = .ok (.getfield 61, 3) := by decide +kernel
theorem dX8_addScene_87 : decode cX8_addScene 87 = .ok (.getfield 64, 3) := by decide +kernel
theorem dX8_addScene_90 : decode cX8_addScene 90 = .ok (.aload_n 0, 1) := by decide +kernel
theorem dX8_addScene_91 : decode cX8_addScene 91 = .ok (.getfield 12, 3) := by decide +kernel
theorem dX8_addScene_94 : decode cX8_addScene 94 = .ok (.getfield 61, 3) := by decide +kernel
theorem dX8_addScene_97 : decode cX8_addScene 97 = .ok (.getfield 64, 3) := by decide +kernel
theorem dX8_addScene_100 : decode cX8_addScene 100 = .ok (.getfield 82, 3) := by decide +kernel
theorem dX8_addScene_103 : decode cX8_addScene 103 = .ok (.iload_n 3, 1) := by decide +kernel
theorem dX8_addScene_104 : decode cX8_addScene 104 = .ok (.iconst 0, 1) := by decide +kernel
theorem dX8_addScene_105 : decode cX8_addScene 105 = .ok (.iload_n 2, 1) := by decide +kernel
theorem dX8_addScene_106 : decode cX8_addScene 106 = .ok (.iconst 1, 1) := by decide +kernel
theorem dX8_addScene_107 : decode cX8_addScene 107 = .ok (.isub, 1) := by decide +kernel
theorem dX8_addScene_108 : decode cX8_addScene 108 = .ok (.invokevirtual 85, 3) := by decide +kernel
theorem dX8_addScene_111 : decode cX8_addScene 111 = .ok (.iload_n 3, 1) := by decide +kernel
theorem dX8_addScene_112 : decode cX8_addScene 112 = .ok (.ireturn, 1) := by decide +kernel
set_option maxRecDepth 20000 in
theorem ggX8_cut_X8_editOnce : GoodIn wsX8_cut wsX8_editOnce := goodIn_r _ [5, 6, 7, 8, 9, 10, 11, 12, 13, 14, 15, 16, 17, 18, 19, 20, 21, 22, 23, 24, 25, 26, 27, 28, 29, 30, 31, 32, 33, 34, 35, 36, 37, 38, 39, 40, 41, 42, 43, 44, 45, 46, 47, 48, 49, 50, 51, 52, 53, 54, 55, 56, 57, 58, 59, 60, 61, 62, 63, 64, 65, 66, 4, 67, 68, 69, 70, 71, 72, 73, 74, 75, 76, 77, 78, 79, 80, 81, 82, 83, 84, 85, 86, 87, 88, 89, 90, 91, 92, 93, 94, 95, 96, 97, 98, 99, 100, 101, 102, 103, 104, 105, 106, 107, 108, 109, 110, 111, 112, 113, 114, 115, 116, 117, 118, 119, 120, 121, 122, 123, 124, 125, 126, 127, 128, 129, 130, 131, 132, 133, 134, 135, 136, 137, 138, 139, 140, 141, 142, 143, 144, 145, 146, 147, 148, 149, 150, 151, 152, 153, 154, 155, 156, 157, 158, 159, 160, 161, 162, 163, 164, 165, 166, 167, 168, 169, 170, 171, 172, 173, 174, 175, 176, 177, 178, 179, 180, 181, 182, 183, 184, 185, 186, 187, 188, 189, 190, 191, 192, 193, 194, 195, 196, 197, 198, 199, 200, 201, 202, 203, 204, 205, 206, 207, 208, 209, 210] (by decide +kernel) (by decide +kernel)
set_option maxRecDepth 20000 in
theorem gX8_cut_X8_editOnce : GoodIn wsX8_cut (wsV RX8 89 RX8 yX8_editOnce wsX8_editOnce) := goodIn_app (goodIn_of _ (by decide +kernel)) ggX8_cut_X8_editOnce
theorem dX8_cut_0 : decode cX8_cut 0 = .ok (.aload_n 0, 1) := by decide +kernel
theorem dX8_cut_1 : decode cX8_cut 1 = .ok (.bipush 99, 2) := by decide +kernel
theorem dX8_cut_3 : decode cX8_cut 3 = .ok (.iload_n 1, 1) := by decide +kernel
theorem dX8_cut_4 : decode cX8_cut 4 = .ok (.iconst 0, 1) := by decide +kernel
theorem dX8_cut_5 : decode cX8_cut 5 = .ok (.invokevirtual 89, 3) := by decide +kernel
theorem dX8_cut_8 : decode cX8_cut 8 = .ok (.ireturn, 1) := by decide +kernel
set_option maxRecDepth 20000 in
theorem ggX8_join_X8_editOnce : GoodIn wsX8_join wsX8_editOnce := goodIn_r _ [5, 6, 7, 8, 9, 10, 11, 12, 13, 14, 15, 16, 17, 18, 19, 20, 21, 22, 23, 24, 25, 26, 27, 28, 29, 30, 31, 32, 33, 34, 35, 36, 37, 38, 39, 40, 41, 42, 43, 44, 45, 46, 47, 48, 49, 50, 51, 52, 53, 54, 55, 56, 57, 58, 59, 60, 61, 62, 63, 64, 65, 66, 4, 67, 68, 69, 70, 71, 72, 73, 74, 75, 76, 77, 78, 79, 80, 81, 82, 83, 84, 85, 86, 87, 88, 89, 90, 91, 92, 93, 94, 95, 96, 97, 98, 99, 100, 101, 102, 103, 104, 105, 106, 107, 108, 109, 110, 111, 112, 113, 114, 115, 116, 117, 118, 119, 120, 121, 122, 123, 124, 125, 126, 127, 128, 129, 130, 131, 132, 133, 134, 135, 136, 137, 138, 139, 140, 141, 142, 143, 144, 145, 146, 147, 148, 149, 150, 151, 152, 153, 154, 155, 156, 157, 158, 159, 160, 161, 162, 163, 164, 165, 166, 167, 168, 169, 170, 171, 172, 173, 174, 175, 176, 177, 178, 179, 180, 181, 182, 183, 184, 185, 186, 187, 188, 189, 190, 191, 192, 193, 194, 195, 196, 197, 198, 199, 200, 201, 202, 203, 204, 205, 206, 207, 208, 209, 210] (by decide +kernel) (by decide +kernel)
set_option maxRecDepth 20000 in
theorem gX8_join_X8_editOnce : GoodIn wsX8_join (wsV RX8 89 RX8 yX8_editOnce wsX8_editOnce) := goodIn_app (goodIn_of _ (by decide +kernel)) ggX8_join_X8_editOnce
theorem dX8_join_0 : decode cX8_join 0 = .ok (.aload_n 0, 1) := by decide +kernel
theorem dX8_join_1 : decode cX8_join 1 = .ok (.bipush 106, 2) := by decide +kernel
theorem dX8_join_3 : decode cX8_join 3 = .ok (.iload_n 1, 1) := by decide +kernel
theorem dX8_join_4 : decode cX8_join 4 = .ok (.iconst 0, 1) := by decide +kernel
theorem dX8_join_5 : decode cX8_join 5 = .ok (.invokevirtual 89, 3) := by decide +kernel
theorem dX8_join_8 : decode cX8_join 8 = .ok (.ireturn, 1) := by decide +kernel
set_option maxRecDepth 20000 in
theorem ggX8_takeOut_X8_editOnce : GoodIn wsX8_takeOut wsX8_editOnce := goodIn_r _ [5, 6, 7, 8, 9, 10, 11, 12, 13, 14, 15, 16, 17, 18, 19, 20, 21, 22, 23, 24, 25, 26, 27, 28, 29, 30, 31, 32, 33, 34, 35, 36, 37, 38, 39, 40, 41, 42, 43, 44, 45, 46, 47, 48, 49, 50, 51, 52, 53, 54, 55, 56, 57, 58, 59, 60, 61, 62, 63, 64, 65, 66, 4, 67, 68, 69, 70, 71, 72, 73, 74, 75, 76, 77, 78, 79, 80, 81, 82, 83, 84, 85, 86, 87, 88, 89, 90, 91, 92, 93, 94, 95, 96, 97, 98, 99, 100, 101, 102, 103, 104, 105, 106, 107, 108, 109, 110, 111, 112, 113, 114, 115, 116, 117, 118, 119, 120, 121, 122, 123, 124, 125, 126, 127, 128, 129, 130, 131, 132, 133, 134, 135, 136, 137, 138, 139, 140, 141, 142, 143, 144, 145, 146, 147, 148, 149, 150, 151, 152, 153, 154, 155, 156, 157, 158, 159, 160, 161, 162, 163, 164, 165, 166, 167, 168, 169, 170, 171, 172, 173, 174, 175, 176, 177, 178, 179, 180, 181, 182, 183, 184, 185, 186, 187, 188, 189, 190, 191, 192, 193, 194, 195, 196, 197, 198, 199, 200, 201, 202, 203, 204, 205, 206, 207, 208, 209, 210] (by decide +kernel) (by decide +kernel)
set_option maxRecDepth 20000 in
theorem gX8_takeOut_X8_editOnce : GoodIn wsX8_takeOut (wsV RX8 89 RX8 yX8_editOnce wsX8_editOnce) := goodIn_app (goodIn_of _ (by decide +kernel)) ggX8_takeOut_X8_editOnce
theorem dX8_takeOut_0 : decode cX8_takeOut 0 = .ok (.aload_n 0, 1) := by decide +kernel
theorem dX8_takeOut_1 : decode cX8_takeOut 1 = .ok (.bipush 111, 2) := by decide +kernel
theorem dX8_takeOut_3 : decode cX8_takeOut 3 = .ok (.iload_n 1, 1) := by decide +kernel
theorem dX8_takeOut_4 : decode cX8_takeOut 4 = .ok (.iconst 0, 1) := by decide +kernel
theorem dX8_takeOut_5 : decode cX8_takeOut 5 = .ok (.invokevirtual 89, 3) := by decide +kernel
theorem dX8_takeOut_8 : decode cX8_takeOut 8 = .ok (.ireturn, 1) := by decide +kernel
set_option maxRecDepth 20000 in
theorem ggX8_putIn_X8_editOnce : GoodIn wsX8_putIn wsX8_editOnce := goodIn_r _ [5, 6, 7, 8, 9, 10, 11, 12, 13, 14, 15, 16, 17, 18, 19, 20, 21, 22, 23, 24, 25, 26, 27, 28, 29, 30, 31, 32, 33, 34, 35, 36, 37, 38, 39, 40, 41, 42, 43, 44, 45, 46, 47, 48, 49, 50, 51, 52, 53, 54, 55, 56, 57, 58, 59, 60, 61, 62, 63, 64, 65, 66, 4, 67, 68, 69, 70, 71, 72, 73, 74, 75, 76, 77, 78, 79, 80, 81, 82, 83, 84, 85, 86, 87, 88, 89, 90, 91, 92, 93, 94, 95, 96, 97, 98, 99, 100, 101, 102, 103, 104, 105, 106, 107, 108, 109, 110, 111, 112, 113, 114, 115, 116, 117, 118, 119, 120, 121, 122, 123, 124, 125, 126, 127, 128, 129, 130, 131, 132, 133, 134, 135, 136, 137, 138, 139, 140, 141, 142, 143, 144, 145, 146, 147, 148, 149, 150, 151, 152, 153, 154, 155, 156, 157, 158, 159, 160, 161, 162, 163, 164, 165, 166, 167, 168, 169, 170, 171, 172, 173, 174, 175, 176, 177, 178, 179, 180, 181, 182, 183, 184, 185, 186, 187, 188, 189, 190, 191, 192, 193, 194, 195, 196, 197, 198, 199, 200, 201, 202, 203, 204, 205, 206, 207, 208, 209, 210] (by decide +kernel) (by decide +kernel)
set_option maxRecDepth 20000 in
theorem gX8_putIn_X8_editOnce : GoodIn wsX8_putIn (wsV RX8 89 RX8 yX8_editOnce wsX8_editOnce) := goodIn_app (goodIn_of _ (by decide +kernel)) ggX8_putIn_X8_editOnce
theorem dX8_putIn_0 : decode cX8_putIn 0 = .ok (.aload_n 0, 1) := by decide +kernel
theorem dX8_putIn_1 : decode cX8_putIn 1 = .ok (.bipush 105, 2) := by decide +kernel
theorem dX8_putIn_3 : decode cX8_putIn 3 = .ok (.iload_n 1, 1) := by decide +kernel
theorem dX8_putIn_4 : decode cX8_putIn 4 = .ok (.iload_n 2, 1) := by decide +kernel
theorem dX8_putIn_5 : decode cX8_putIn 5 = .ok (.invokevirtual 89, 3) := by decide +kernel
theorem dX8_putIn_8 : decode cX8_putIn 8 = .ok (.ireturn, 1) := by decide +kernel
set_option maxRecDepth 20000 in
theorem ggX8_move_X8_editOnce : GoodIn wsX8_move wsX8_editOnce := goodIn_r _ [5, 6, 7, 8, 9, 10, 11, 12, 13, 14, 15, 16, 17, 18, 19, 20, 21, 22, 23, 24, 25, 26, 27, 28, 29, 30, 31, 32, 33, 34, 35, 36, 37, 38, 39, 40, 41, 42, 43, 44, 45, 46, 47, 48, 49, 50, 51, 52, 53, 54, 55, 56, 57, 58, 59, 60, 61, 62, 63, 64, 65, 66, 4, 67, 68, 69, 70, 71, 72, 73, 74, 75, 76, 77, 78, 79, 80, 81, 82, 83, 84, 85, 86, 87, 88, 89, 90, 91, 92, 93, 94, 95, 96, 97, 98, 99, 100, 101, 102, 103, 104, 105, 106, 107, 108, 109, 110, 111, 112, 113, 114, 115, 116, 117, 118, 119, 120, 121, 122, 123, 124, 125, 126, 127, 128, 129, 130, 131, 132, 133, 134, 135, 136, 137, 138, 139, 140, 141, 142, 143, 144, 145, 146, 147, 148, 149, 150, 151, 152, 153, 154, 155, 156, 157, 158, 159, 160, 161, 162, 163, 164, 165, 166, 167, 168, 169, 170, 171, 172, 173, 174, 175, 176, 177, 178, 179, 180, 181, 182, 183, 184, 185, 186, 187, 188, 189, 190, 191, 192, 193, 194, 195, 196, 197, 198, 199, 200, 201, 202, 203, 204, 205, 206, 207, 208, 209, 210] (by decide +kernel) (by decide +kernel)
set_option maxRecDepth 20000 in
theorem gX8_move_X8_editOnce : GoodIn wsX8_move (wsV RX8 89 RX8 yX8_editOnce wsX8_editOnce) := goodIn_app (goodIn_of _ (by decide +kernel)) ggX8_move_X8_editOnce
theorem dX8_move_0 : decode cX8_move 0 = .ok (.aload_n 0, 1) := by decide +kernel
theorem dX8_move_1 : decode cX8_move 1 = .ok (.bipush 109, 2) := by decide +kernel
theorem dX8_move_3 : decode cX8_move 3 = .ok (.iload_n 1, 1) := by decide +kernel
theorem dX8_move_4 : decode cX8_move 4 = .ok (.iload_n 2, 1) := by decide +kernel
theorem dX8_move_5 : decode cX8_move 5 = .ok (.invokevirtual 89, 3) := by decide +kernel
theorem dX8_move_8 : decode cX8_move 8 = .ok (.ireturn, 1) := by decide +kernel
set_option maxRecDepth 20000 in
theorem ggX8_tear_X6_hasFrame : GoodIn wsX8_tear wsX6_hasFrame := goodIn_r _ [9, 10, 11, 12, 13, 8, 14, 15, 116, 117, 118, 119, 120] (by decide +kernel) (by decide +kernel)
set_option maxRecDepth 20000 in
theorem gX8_tear_X6_hasFrame : GoodIn wsX8_tear (wsV RX8 93 RX6 yX6_hasFrame wsX6_hasFrame) := goodIn_app (goodIn_of _ (by decide +kernel)) ggX8_tear_X6_hasFrame
set_option maxRecDepth 20000 in
theorem ggX8_tear_X8_isWithin : GoodIn wsX8_tear wsX8_isWithin := goodIn_r _ [19] (by decide +kernel) (by decide +kernel)
set_option maxRecDepth 20000 in
theorem gX8_tear_X8_isWithin : GoodIn wsX8_tear (va_wsS RX8 47 yX8_isWithin wsX8_isWithin) := goodIn_app (goodIn_of _ (by decide +kernel)) ggX8_tear_X8_isWithin
set_option maxRecDepth 20000 in
theorem ggX8_tear_X8_slotOf : GoodIn wsX8_tear wsX8_slotOf := goodIn_r _ [22] (by decide +kernel) (by decide +kernel)
set_option maxRecDepth 20000 in
theorem gX8_tear_X8_slotOf : GoodIn wsX8_tear (va_wsS RX8 97 yX8_slotOf wsX8_slotOf) := goodIn_app (goodIn_of _ (by decide +kernel)) ggX8_tear_X8_slotOf
set_option maxRecDepth 20000 in
theorem ggX8_tear_X3_record : GoodIn wsX8_tear wsX3_record := goodIn_r _ [27, 28, 29, 30, 31, 32, 33, 34, 35, 36, 37, 38, 39, 40, 41, 42, 43, 44, 45, 46, 47, 48, 49, 50, 51, 52, 8, 53, 15, 54, 55, 56, 57, 58, 10, 59, 60, 61, 62, 63, 64, 65, 66, 67, 68, 69, 70, 71, 72, 73, 74, 75, 76, 77, 78, 79, 80, 81, 82, 83, 84, 85, 86, 87, 88, 89, 121, 122, 123, 108, 109, 110, 111, 112, 113, 114, 115, 124, 125, 116, 117, 118, 119, 120, 126, 127, 128, 129, 130, 131, 132, 133, 134, 135, 136] (by decide +kernel) (by decide +kernel)
set_option maxRecDepth 20000 in
theorem gX8_tear_X3_record : GoodIn wsX8_tear (wsV RX8 74 RX3 yX3_record wsX3_record) := goodIn_app (goodIn_of _ (by decide +kernel)) ggX8_tear_X3_record
set_option maxRecDepth 20000 in
theorem ggX8_tear_X6_goodHoles : GoodIn wsX8_tear wsX6_goodHoles := goodIn_r _ [93, 59, 94, 95, 96, 97, 98, 99, 100, 116, 117, 118, 119, 120] (by decide +kernel) (by decide +kernel)
set_option maxRecDepth 20000 in
theorem gX8_tear_X6_goodHoles : GoodIn wsX8_tear (wsV RX8 104 RX6 yX6_goodHoles wsX6_goodHoles) := goodIn_app (goodIn_of _ (by decide +kernel)) ggX8_tear_X6_goodHoles
theorem dX8_tear_0 : decode cX8_tear 0 = .ok (.aload_n 0, 1) := by decide +kernel
theorem dX8_tear_1 : decode cX8_tear 1 = .ok (.getfield 12, 3) := by decide +kernel
theorem dX8_tear_4 : decode cX8_tear 4 = .ok (.getfield 51, 3) := by decide +kernel
theorem dX8_tear_7 : decode cX8_tear 7 = .ok (.astore 4, 2) := by decide +kernel
theorem dX8_tear_9 : decode cX8_tear 9 = .ok (.aload 4, 2) := by decide +kernel
theorem dX8_tear_11 : decode cX8_tear 11 = .ok (.iload_n 1, 1) := by decide +kernel
theorem dX8_tear_12 : decode cX8_tear 12 = .ok (.iload_n 2, 1) := by decide +kernel
theorem dX8_tear_13 : decode cX8_tear 13 = .ok (.invokevirtual 93, 3) := by decide +kernel
theorem dX8_tear_16 : decode cX8_tear 16 = .ok (.ifCond .ne 5, 3) := by decide +kernel
theorem dX8_tear_19 : decode cX8_tear 19 = .ok (.iconst (-1), 1) := by decide +kernel
theorem dX8_tear_20 : decode cX8_tear 20 = .ok (.ireturn, 1) := by decide +kernel
theorem dX8_tear_21 : decode cX8_tear 21 = .ok (.iload_n 3, 1) := by decide +kernel
theorem dX8_tear_22 : decode cX8_tear 22 = .ok (.iconst 0, 1) := by decide +kernel
theorem dX8_tear_23 : decode cX8_tear 23 = .ok (.iconst 3, 1) := by decide +kernel
theorem dX8_tear_24 : decode cX8_tear 24 = .ok (.invokestatic 47, 3) := by decide +kernel
theorem dX8_tear_27 : decode cX8_tear 27 = .ok (.ifCond .ne 6, 3) := by decide +kernel
theorem dX8_tear_30 : decode cX8_tear 30 = .ok (.bipush (-2), 2) := by decide +kernel
theorem dX8_tear_32 : decode cX8_tear 32 = .ok (.ireturn, 1) := by decide +kernel
theorem dX8_tear_33 : decode cX8_tear 33 = .ok (.iload_n 1, 1) := by decide +kernel
theorem dX8_tear_34 : decode cX8_tear 34 = .ok (.iload_n 2, 1) := by decide +kernel
theorem dX8_tear_35 : decode cX8_tear 35 = .ok (.invokestatic 97, 3) := by decide +kernel
theorem dX8_tear_38 : decode cX8_tear 38 = .ok (.istore 5, 2) := by decide +kernel
theorem dX8_tear_40 : decode cX8_tear 40 = .ok (.aload 4, 2) := by decide +kernel
theorem dX8_tear_42 : decode cX8_tear 42 = .ok (.getfield 100, 3) := by decide +kernel
theorem dX8_tear_45 : decode cX8_tear 45 = .ok (.iload 5, 2) := by decide +kernel
theorem dX8_tear_47 : decode cX8_tear 47 = .ok (.iaload, 1) := by decide +kernel
theorem dX8_tear_48 : decode cX8_tear 48 = .ok (.iload_n 3, 1) := by decide +kernel
theorem dX8_tear_49 : decode cX8_tear 49 = .ok (.ishr, 1) := by decide +kernel
theorem dX8_tear_50 : decode cX8_tear 50 = .ok (.iconst 1, 1) := by decide +kernel
theorem dX8_tear_51 : decode cX8_tear 51 = .ok (.iand, 1) := by decide +kernel
theorem dX8_tear_52 : decode cX8_tear 52 = .ok (.iconst 1, 1) := by decide +kernel
theorem dX8_tear_53 : decode cX8_tear 53 = .ok (.if_icmp .ne 6, 3) := by decide +kernel
theorem dX8_tear_56 : decode cX8_tear 56 = .ok (.bipush (-5), 2) := by decide +kernel
theorem dX8_tear_58 : decode cX8_tear 58 = .ok (.ireturn, 1) := by decide +kernel
theorem dX8_tear_59 : decode cX8_tear 59 = .ok (.aload_n 0, 1) := by decide +kernel
theorem dX8_tear_60 : decode cX8_tear 60 = .ok (.getfield 22, 3) := by decide +kernel
theorem dX8_tear_63 : decode cX8_tear 63 = .ok (.aload_n 0, 1) := by decide +kernel
theorem dX8_tear_64 : decode cX8_tear 64 = .ok (.getfield 12, 3) := by decide +kernel
theorem dX8_tear_67 : decode cX8_tear 67 = .ok (.invokevirtual 74, 3) := by decide +kernel
theorem dX8_tear_70 : decode cX8_tear 70 = .ok (.aload 4, 2) := by decide +kernel
theorem dX8_tear_72 : decode cX8_tear 72 = .ok (.getfield 100, 3) := by decide +kernel
theorem dX8_tear_75 : decode cX8_tear 75 = .ok (.iload 5, 2) := by decide +kernel
theorem dX8_tear_77 : decode cX8_tear 77 = .ok (.dup2, 1) := by decide +kernel
theorem dX8_tear_78 : decode cX8_tear 78 = .ok (.iaload, 1) := by decide +kernel
theorem dX8_tear_79 : decode cX8_tear 79 = .ok (.iconst 1, 1) := by decide +kernel
theorem dX8_tear_80 : decode cX8_tear 80 = .ok (.iload_n 3, 1) := by decide +kernel
theorem dX8_tear_81 : decode cX8_tear 81 = .ok (.ishl, 1) := by decide +kernel
theorem dX8_tear_82 : decode cX8_tear 82 = .ok (.ior, 1) := by decide +kernel
theorem dX8_tear_83 : decode cX8_tear 83 = .ok (.iastore, 1) := by decide +kernel
theorem dX8_tear_84 : decode cX8_tear 84 = .ok (.aload 4, 2) := by decide +kernel
theorem dX8_tear_86 : decode cX8_tear 86 = .ok (.iload 5, 2) := by decide +kernel
theorem dX8_tear_88 : decode cX8_tear 88 = .ok (.invokevirtual 104, 3) := by decide +kernel
theorem dX8_tear_91 : decode cX8_tear 91 = .ok (.ireturn, 1) := by decide +kernel
set_option maxRecDepth 20000 in
theorem ggX8_patch_X6_hasFrame : GoodIn wsX8_patch wsX6_hasFrame := goodIn_r _ [9, 10, 11, 12, 13, 8, 14, 15, 109, 110, 111, 112, 113] (by decide +kernel) (by decide +kernel)
set_option maxRecDepth 20000 in
theorem gX8_patch_X6_hasFrame : GoodIn wsX8_patch (wsV RX8 93 RX6 yX6_hasFrame wsX6_hasFrame) := goodIn_app (goodIn_of _ (by decide +kernel)) ggX8_patch_X6_hasFrame
set_option maxRecDepth 20000 in
theorem ggX8_patch_X8_slotOf : GoodIn wsX8_patch wsX8_slotOf := goodIn_r _ [19] (by decide +kernel) (by decide +kernel)
set_option maxRecDepth 20000 in
theorem gX8_patch_X8_slotOf : GoodIn wsX8_patch (va_wsS RX8 97 yX8_slotOf wsX8_slotOf) := goodIn_app (goodIn_of _ (by decide +kernel)) ggX8_patch_X8_slotOf
set_option maxRecDepth 20000 in
theorem ggX8_patch_J6_bitCount_0f7a4 : GoodIn wsX8_patch wsJ6_bitCount_0f7a4 := goodIn_r _ [23, 24, 25, 26] (by decide +kernel) (by decide +kernel)
set_option maxRecDepth 20000 in
theorem gX8_patch_J6_bitCount_0f7a4 : GoodIn wsX8_patch (va_wsS RX8 108 yJ6_bitCount_0f7a4 wsJ6_bitCount_0f7a4) := goodIn_app (goodIn_of _ (by decide +kernel)) ggX8_patch_J6_bitCount_0f7a4
set_option maxRecDepth 20000 in
theorem ggX8_patch_X3_record : GoodIn wsX8_patch wsX3_record := goodIn_r _ [31, 32, 33, 34, 35, 36, 37, 38, 39, 40, 41, 42, 43, 44, 45, 46, 47, 48, 49, 50, 51, 52, 53, 54, 55, 56, 8, 57, 15, 58, 59, 60, 61, 62, 10, 63, 64, 65, 66, 67, 68, 69, 70, 71, 72, 73, 74, 75, 76, 77, 78, 79, 80, 81, 82, 83, 84, 85, 86, 87, 88, 89, 90, 91, 92, 93, 114, 115, 116, 101, 102, 103, 104, 105, 106, 107, 108, 117, 118, 109, 110, 111, 112, 113, 119, 120, 121, 122, 123, 124, 125, 126, 127, 128, 129] (by decide +kernel) (by decide +kernel)
set_option maxRecDepth 20000 in
theorem gX8_patch_X3_record : GoodIn wsX8_patch (wsV RX8 74 RX3 yX3_record wsX3_record) := goodIn_app (goodIn_of _ (by decide +kernel)) ggX8_patch_X3_record
theorem dX8_patch_0 : decode cX8_patch 0 = .ok (.aload_n 0, 1) := by decide +kernel
theorem dX8_patch_1 : decode cX8_patch 1 = .ok (.getfield 12, 3) := by decide +kernel
theorem dX8_patch_4 : decode cX8_patch 4 = .ok (.getfield 51, 3) := by decide +kernel
theorem dX8_patch_7 : decode cX8_patch 7 = .ok (.astore_n 3, 1) := by decide +kernel
theorem dX8_patch_8 : decode cX8_patch 8 = .ok (.aload_n 3, 1) := by decide +kernel
theorem dX8_patch_9 : decode cX8_patch 9 = .ok (.iload_n 1, 1) := by decide +kernel
theorem dX8_patch_10 : decode cX8_patch 10 = .ok (.iload_n 2, 1) := by decide +kernel
theorem dX8_patch_11 : decode cX8_patch 11 = .ok (.invokevirtual 93, 3) := by decide +kernel
theorem dX8_patch_14 : decode cX8_patch 14 = .ok (.ifCond .ne 5, 3) := by decide +kernel
theorem dX8_patch_17 : decode cX8_patch 17 = .ok (.iconst (-1), 1) := by decide +kernel
theorem dX8_patch_18 : decode cX8_patch 18 = .ok (.ireturn, 1) := by decide +kernel
theorem dX8_patch_19 : decode cX8_patch 19 = .ok (.iload_n 1, 1) := by decide +kernel
theorem dX8_patch_20 : decode cX8_patch 20 = .ok (.iload_n 2, 1) := by decide +kernel
theorem dX8_patch_21 : decode cX8_patch 21 = .ok (.invokestatic 97, 3) := by decide +kernel
theorem dX8_patch_24 : decode cX8_patch 24 = .ok (.istore 4, 2) := by decide +kernel
theorem dX8_patch_26 : decode cX8_patch 26 = .ok (.aload_n 3, 1) := by decide +kernel
theorem dX8_patch_27 : decode cX8_patch 27 = .ok (.getfield 100, 3) := by decide +kernel
theorem dX8_patch_30 : decode cX8_patch 30 = .ok (.iload 4, 2) := by decide +kernel
theorem dX8_patch_32 : decode cX8_patch 32 = .ok (.iaload, 1) := by decide +kernel
theorem dX8_patch_33 : decode cX8_patch 33 = .ok (.invokestatic 108, 3) := by decide +kernel
theorem dX8_patch_36 : decode cX8_patch 36 = .ok (.istore 5, 2) := by decide +kernel
theorem dX8_patch_38 : decode cX8_patch 38 = .ok (.iload 5, 2) := by decide +kernel
theorem dX8_patch_40 : decode cX8_patch 40 = .ok (.ifCond .ne 6, 3) := by decide +kernel
theorem dX8_patch_43 : decode cX8_patch 43 = .ok (.bipush (-5), 2) := by decide +kernel
theorem dX8_patch_45 : decode cX8_patch 45 = .ok (.ireturn, 1) := by decide +kernel
theorem dX8_patch_46 : decode cX8_patch 46 = .ok (.aload_n 0, 1) := by decide +kernel
theorem dX8_patch_47 : decode cX8_patch 47 = .ok (.getfield 22, 3) := by decide +kernel
theorem dX8_patch_50 : decode cX8_patch 50 = .ok (.aload_n 0, 1) := by decide +kernel
theorem dX8_patch_51 : decode cX8_patch 51 = .ok (.getfield 12, 3) := by decide +kernel
theorem dX8_patch_54 : decode cX8_patch 54 = .ok (.invokevirtual 74, 3) := by decide +kernel
theorem dX8_patch_57 : decode cX8_patch 57 = .ok (.aload_n 3, 1) := by decide +kernel
theorem dX8_patch_58 : decode cX8_patch 58 = .ok (.getfield 100, 3) := by decide +kernel
theorem dX8_patch_61 : decode cX8_patch 61 = .ok (.iload 4, 2) := by decide +kernel
theorem dX8_patch_63 : decode cX8_patch 63 = .ok (.iconst 0, 1) := by decide +kernel
theorem dX8_patch_64 : decode cX8_patch 64 = .ok (.iastore, 1) := by decide +kernel
theorem dX8_patch_65 : decode cX8_patch 65 = .ok (.iload 5, 2) := by decide +kernel
theorem dX8_patch_67 : decode cX8_patch 67 = .ok (.ireturn, 1) := by decide +kernel
set_option maxRecDepth 20000 in
theorem ggX8_splice_X4_has : GoodIn wsX8_splice wsX4_has := goodIn_r _ [10, 11, 97, 98, 99, 100, 101] (by decide +kernel) (by decide +kernel)
set_option maxRecDepth 20000 in
theorem gX8_splice_X4_has : GoodIn wsX8_splice (wsV RX8 113 RX4 yX4_has wsX4_has) := goodIn_app (goodIn_of _ (by decide +kernel)) ggX8_splice_X4_has
set_option maxRecDepth 20000 in
theorem ggX8_splice_X3_record : GoodIn wsX8_splice wsX3_record := goodIn_r _ [16, 17, 18, 19, 20, 21, 22, 23, 24, 25, 26, 27, 28, 29, 30, 31, 32, 33, 34, 35, 36, 37, 38, 39, 40, 41, 42, 43, 44, 45, 46, 47, 48, 49, 50, 51, 52, 53, 54, 55, 9, 56, 11, 57, 58, 59, 60, 61, 62, 63, 64, 65, 66, 67, 68, 69, 70, 71, 72, 73, 74, 75, 76, 77, 78, 79, 102, 103, 104, 87, 88, 89, 90, 91, 92, 93, 94, 95, 96, 105, 106, 107, 108, 109, 97, 98, 99, 100, 101, 110, 111, 112, 113, 114, 115] (by decide +kernel) (by decide +kernel)
set_option maxRecDepth 20000 in
theorem gX8_splice_X3_record : GoodIn wsX8_splice (wsV RX8 74 RX3 yX3_record wsX3_record) := goodIn_app (goodIn_of _ (by decide +kernel)) ggX8_splice_X3_record
theorem dX8_splice_0 : decode cX8_splice 0 = .ok (.aload_n 0, 1) := by decide +kernel
theorem dX8_splice_1 : decode cX8_splice 1 = .ok (.getfield 12, 3) := by decide +kernel
theorem dX8_splice_4 : decode cX8_splice 4 = .ok (.getfield 61, 3) := by decide +kernel
theorem dX8_splice_7 : decode cX8_splice 7 = .ok (.getfield 64, 3) := by decide +kernel
theorem dX8_splice_10 : decode cX8_splice 10 = .ok (.astore_n 2, 1) := by decide +kernel
theorem dX8_splice_11 : decode cX8_splice 11 = .ok (.aload_n 2, 1) := by decide +kernel
theorem dX8_splice_12 : decode cX8_splice 12 = .ok (.iload_n 1, 1) := by decide +kernel
theorem dX8_splice_13 : decode cX8_splice 13 = .ok (.invokevirtual 113, 3) := by decide +kernel
theorem dX8_splice_16 : decode cX8_splice 16 = .ok (.ifCond .ne 5, 3) := by decide +kernel
theorem dX8_splice_19 : decode cX8_splice 19 = .ok (.iconst (-1), 1) := by decide +kernel
theorem dX8_splice_20 : decode cX8_splice 20 = .ok (.ireturn, 1) := by decide +kernel
theorem dX8_splice_21 : decode cX8_splice 21 = .ok (.aload_n 2, 1) := by decide +kernel
theorem dX8_splice_22 : decode cX8_splice 22 = .ok (.getfield 117, 3) := by decide +kernel
theorem dX8_splice_25 : decode cX8_splice 25 = .ok (.iload_n 1, 1) := by decide +kernel
theorem dX8_splice_26 : decode cX8_splice 26 = .ok (.iaload, 1) := by decide +kernel
theorem dX8_splice_27 : decode cX8_splice 27 = .ok (.istore_n 3, 1) := by decide +kernel
theorem dX8_splice_28 : decode cX8_splice 28 = .ok (.iload_n 3, 1) := by decide +kernel
theorem dX8_splice_29 : decode cX8_splice 29 = .ok (.ifCond .ne 6, 3) := by decide +kernel
theorem dX8_splice_32 : decode cX8_splice 32 = .ok (.bipush (-5), 2) := by decide +kernel
theorem dX8_splice_34 : decode cX8_splice 34 = .ok (.ireturn, 1) := by decide +kernel
theorem dX8_splice_35 : decode cX8_splice 35 = .ok (.aload_n 0, 1) := by decide +kernel
theorem dX8_splice_36 : decode cX8_splice 36 = .ok (.getfield 22, 3) := by decide +kernel
theorem dX8_splice_39 : decode cX8_splice 39 = .ok (.aload_n 0, 1) := by decide +kernel
theorem dX8_splice_40 : decode cX8_splice 40 = .ok (.getfield 12, 3) := by decide +kernel
theorem dX8_splice_43 : decode cX8_splice 43 = .ok (.invokevirtual 74, 3) := by decide +kernel
theorem dX8_splice_46 : decode cX8_splice 46 = .ok (.aload_n 2, 1) := by decide +kernel
theorem dX8_splice_47 : decode cX8_splice 47 = .ok (.getfield 117, 3) := by decide +kernel
theorem dX8_splice_50 : decode cX8_splice 50 = .ok (.iload_n 1, 1) := by decide +kernel
theorem dX8_splice_51 : decode cX8_splice 51 = .ok (.iconst 0, 1) := by decide +kernel
theorem dX8_splice_52 : decode cX8_splice 52 = .ok (.iastore, 1) := by decide +kernel
theorem dX8_splice_53 : decode cX8_splice 53 = .ok (.iload_n 3, 1) := by decide +kernel
theorem dX8_splice_54 : decode cX8_splice 54 = .ok (.ireturn, 1) := by decide +kernel
set_option maxRecDepth 20000 in
theorem ggX8_dislike_X8_isWithin : GoodIn wsX8_dislike wsX8_isWithin := goodIn_r _ [7] (by decide +kernel) (by decide +kernel)
set_option maxRecDepth 20000 in
theorem gX8_dislike_X8_isWithin : GoodIn wsX8_dislike (va_wsS RX8 47 yX8_isWithin wsX8_isWithin) := goodIn_app (goodIn_of _ (by decide +kernel)) ggX8_dislike_X8_isWithin
set_option maxRecDepth 20000 in
theorem ggX8_dislike_X2_dislikes : GoodIn wsX8_dislike wsX2_dislikes := goodIn_r _ [12, 13, 96, 97, 98, 99, 100, 101, 102, 103] (by decide +kernel) (by decide +kernel)
set_option maxRecDepth 20000 in
theorem gX8_dislike_X2_dislikes : GoodIn wsX8_dislike (wsV RX8 120 RX2 yX2_dislikes wsX2_dislikes) := goodIn_app (goodIn_of _ (by decide +kernel)) ggX8_dislike_X2_dislikes
set_option maxRecDepth 20000 in
theorem ggX8_dislike_X3_record : GoodIn wsX8_dislike wsX3_record := goodIn_r _ [18, 19, 20, 21, 22, 23, 24, 25, 26, 27, 28, 11, 29, 30, 31, 32, 33, 34, 35, 13, 36, 37, 38, 39, 40, 41, 42, 43, 44, 45, 46, 47, 48, 49, 50, 51, 52, 53, 54, 55, 56, 57, 58, 59, 60, 61, 62, 63, 64, 65, 66, 67, 68, 69, 70, 71, 72, 73, 74, 75, 76, 77, 78, 79, 80, 81, 104, 105, 106, 96, 97, 98, 99, 100, 101, 102, 103, 107, 108, 109, 110, 111, 112, 113, 114, 115, 116, 117, 118, 119, 120, 121, 122, 123, 124] (by decide +kernel) (by decide +kernel)
set_option maxRecDepth 20000 in
theorem gX8_dislike_X3_record : GoodIn wsX8_dislike (wsV RX8 74 RX3 yX3_record wsX3_record) := goodIn_app (goodIn_of _ (by decide +kernel)) ggX8_dislike_X3_record
set_option maxRecDepth 20000 in
theorem ggX8_dislike_J6_bitCount_0f7a4 : GoodIn wsX8_dislike wsJ6_bitCount_0f7a4 := goodIn_r _ [85, 86, 87, 88] (by decide +kernel) (by decide +kernel)
set_option maxRecDepth 20000 in
theorem gX8_dislike_J6_bitCount_0f7a4 : GoodIn wsX8_dislike (va_wsS RX8 108 yJ6_bitCount_0f7a4 wsJ6_bitCount_0f7a4) := goodIn_app (goodIn_of _ (by decide +kernel)) ggX8_dislike_J6_bitCount_0f7a4
theorem dX8_dislike_0 : decode cX8_dislike 0 = .ok (.iload_n 1, 1) := by decide +kernel
theorem dX8_dislike_1 : decode cX8_dislike 1 = .ok (.iconst 0, 1) := by decide +kernel
theorem dX8_dislike_2 : decode cX8_dislike 2 = .ok (.iconst 5, 1) := by decide +kernel
theorem dX8_dislike_3 : decode cX8_dislike 3 = .ok (.invokestatic 47, 3) := by decide +kernel
theorem dX8_dislike_6 : decode cX8_dislike 6 = .ok (.ifCond .ne 6, 3) := by decide +kernel
theorem dX8_dislike_9 : decode cX8_dislike 9 = .ok (.bipush (-2), 2) := by decide +kernel
theorem dX8_dislike_11 : decode cX8_dislike 11 = .ok (.ireturn, 1) := by decide +kernel
theorem dX8_dislike_12 : decode cX8_dislike 12 = .ok (.aload_n 0, 1) := by decide +kernel
theorem dX8_dislike_13 : decode cX8_dislike 13 = .ok (.getfield 12, 3) := by decide +kernel
theorem dX8_dislike_16 : decode cX8_dislike 16 = .ok (.iload_n 1, 1) := by decide +kernel
theorem dX8_dislike_17 : decode cX8_dislike 17 = .ok (.invokevirtual 120, 3) := by decide +kernel
theorem dX8_dislike_20 : decode cX8_dislike 20 = .ok (.iload_n 2, 1) := by decide +kernel
theorem dX8_dislike_21 : decode cX8_dislike 21 = .ok (.if_icmp .ne 6, 3) := by decide +kernel
theorem dX8_dislike_24 : decode cX8_dislike 24 = .ok (.bipush (-5), 2) := by decide +kernel
theorem dX8_dislike_26 : decode cX8_dislike 26 = .ok (.ireturn, 1) := by decide +kernel
theorem dX8_dislike_27 : decode cX8_dislike 27 = .ok (.aload_n 0, 1) := by decide +kernel
theorem dX8_dislike_28 : decode cX8_dislike 28 = .ok (.getfield 22, 3) := by decide +kernel
theorem dX8_dislike_31 : decode cX8_dislike 31 = .ok (.aload_n 0, 1) := by decide +kernel
theorem dX8_dislike_32 : decode cX8_dislike 32 = .ok (.getfield 12, 3) := by decide +kernel
theorem dX8_dislike_35 : decode cX8_dislike 35 = .ok (.invokevirtual 74, 3) := by decide +kernel
theorem dX8_dislike_38 : decode cX8_dislike 38 = .ok (.aload_n 0, 1) := by decide +kernel
theorem dX8_dislike_39 : decode cX8_dislike 39 = .ok (.getfield 12, 3) := by decide +kernel
theorem dX8_dislike_42 : decode cX8_dislike 42 = .ok (.dup, 1) := by decide +kernel
theorem dX8_dislike_43 : decode cX8_dislike 43 = .ok (.getfield 123, 3) := by decide +kernel
theorem dX8_dislike_46 : decode cX8_dislike 46 = .ok (.iconst 1, 1) := by decide +kernel
theorem dX8_dislike_47 : decode cX8_dislike 47 = .ok (.iload_n 1, 1) := by decide +kernel
theorem dX8_dislike_48 : decode cX8_dislike 48 = .ok (.ishl, 1) := by decide +kernel
theorem dX8_dislike_49 : decode cX8_dislike 49 = .ok (.ixor, 1) := by decide +kernel
theorem dX8_dislike_50 : decode cX8_dislike 50 = .ok (.putfield 123, 3) := by decide +kernel
theorem dX8_dislike_53 : decode cX8_dislike 53 = .ok (.aload_n 0, 1) := by decide +kernel
theorem dX8_dislike_54 : decode cX8_dislike 54 = .ok (.getfield 12, 3) := by decide +kernel
theorem dX8_dislike_57 : decode cX8_dislike 57 = .ok (.getfield 123, 3) := by decide +kernel
theorem dX8_dislike_60 : decode cX8_dislike 60 = .ok (.invokestatic 108, 3) := by decide +kernel
theorem dX8_dislike_63 : decode cX8_dislike 63 = .ok (.ireturn, 1) := by decide +kernel
set_option maxRecDepth 20000 in
theorem ggX8_set_X8_isWithin : GoodIn wsX8_set wsX8_isWithin := goodIn_r _ [8] (by decide +kernel) (by decide +kernel)
set_option maxRecDepth 20000 in
theorem gX8_set_X8_isWithin : GoodIn wsX8_set (va_wsS RX8 47 yX8_isWithin wsX8_isWithin) := goodIn_app (goodIn_of _ (by decide +kernel)) ggX8_set_X8_isWithin
set_option maxRecDepth 20000 in
theorem ggX8_set_X3_record : GoodIn wsX8_set wsX3_record := goodIn_r _ [13, 14, 15, 16, 17, 18, 19, 20, 21, 22, 23, 24, 25, 26, 27, 28, 29, 30, 31, 32, 33, 34, 35, 36, 37, 38, 39, 40, 41, 42, 43, 44, 45, 46, 47, 48, 49, 50, 51, 52, 53, 54, 55, 56, 57, 58, 59, 60, 61, 62, 63, 64, 65, 66, 67, 68, 69, 70, 71, 72, 73, 74, 75, 76, 77, 78, 94, 95, 96, 86, 87, 88, 89, 90, 91, 92, 93, 97, 98, 99, 100, 101, 102, 103, 104, 105, 106, 107, 108, 109, 110, 111, 112, 113, 114] (by decide +kernel) (by decide +kernel)
set_option maxRecDepth 20000 in
theorem gX8_set_X3_record : GoodIn wsX8_set (wsV RX8 74 RX3 yX3_record wsX3_record) := goodIn_app (goodIn_of _ (by decide +kernel)) ggX8_set_X3_record
theorem dX8_set_0 : decode cX8_set 0 = .ok (.iload_n 1, 1) := by decide +kernel
theorem dX8_set_1 : decode cX8_set 1 = .ok (.ifCond .eq 11, 3) := by decide +kernel
theorem dX8_set_4 : decode cX8_set 4 = .ok (.iload_n 1, 1) := by decide +kernel
theorem dX8_set_5 : decode cX8_set 5 = .ok (.iconst 1, 1) := by decide +kernel
theorem dX8_set_6 : decode cX8_set 6 = .ok (.if_icmp .eq 6, 3) := by decide +kernel
theorem dX8_set_9 : decode cX8_set 9 = .ok (.bipush (-2), 2) := by decide +kernel
theorem dX8_set_11 : decode cX8_set 11 = .ok (.ireturn, 1) := by decide +kernel
theorem dX8_set_12 : decode cX8_set 12 = .ok (.iload_n 1, 1) := by decide +kernel
theorem dX8_set_13 : decode cX8_set 13 = .ok (.ifCond .ne 7, 3) := by decide +kernel
theorem dX8_set_16 : decode cX8_set 16 = .ok (.iconst 0, 1) := by decide +kernel
theorem dX8_set_17 : decode cX8_set 17 = .ok (.goto 4, 3) := by decide +kernel
theorem dX8_set_20 : decode cX8_set 20 = .ok (.iconst 1, 1) := by decide +kernel
theorem dX8_set_21 : decode cX8_set 21 = .ok (.istore_n 3, 1) := by decide +kernel
theorem dX8_set_22 : decode cX8_set 22 = .ok (.iload_n 2, 1) := by decide +kernel
theorem dX8_set_23 : decode cX8_set 23 = .ok (.iload_n 3, 1) := by decide +kernel
theorem dX8_set_24 : decode cX8_set 24 = .ok (.bipush 20, 2) := by decide +kernel
theorem dX8_set_26 : decode cX8_set 26 = .ok (.invokestatic 47, 3) := by decide +kernel
theorem dX8_set_29 : decode cX8_set 29 = .ok (.ifCond .ne 6, 3) := by decide +kernel
theorem dX8_set_32 : decode cX8_set 32 = .ok (.bipush (-2), 2) := by decide +kernel
theorem dX8_set_34 : decode cX8_set 34 = .ok (.ireturn, 1) := by decide +kernel
theorem dX8_set_35 : decode cX8_set 35 = .ok (.iload_n 1, 1) := by decide +kernel
theorem dX8_set_36 : decode cX8_set 36 = .ok (.ifCond .ne 13, 3) := by decide +kernel
theorem dX8_set_39 : decode cX8_set 39 = .ok (.aload_n 0, 1) := by decide +kernel
theorem dX8_set_40 : decode cX8_set 40 = .ok (.getfield 12, 3) := by decide +kernel
theorem dX8_set_43 : decode cX8_set 43 = .ok (.getfield 126, 3) := by decide +kernel
theorem dX8_set_46 : decode cX8_set 46 = .ok (.goto 10, 3) := by decide +kernel
theorem dX8_set_49 : decode cX8_set 49 = .ok (.aload_n 0, 1) := by decide +kernel
theorem dX8_set_50 : decode cX8_set 50 = .ok (.getfield 12, 3) := by decide +kernel
theorem dX8_set_53 : decode cX8_set 53 = .ok (.getfield 129, 3) := by decide +kernel
theorem dX8_set_56 : decode cX8_set 56 = .ok (.istore 4, 2) := by decide +kernel
theorem dX8_set_58 : decode cX8_set 58 = .ok (.iload 4, 2) := by decide +kernel
theorem dX8_set_60 : decode cX8_set 60 = .ok (.iload_n 2, 1) := by decide +kernel
theorem dX8_set_61 : decode cX8_set 61 = .ok (.if_icmp .ne 6, 3) := by decide +kernel
theorem dX8_set_64 : decode cX8_set 64 = .ok (.bipush (-5), 2) := by decide +kernel
theorem dX8_set_66 : decode cX8_set 66 = .ok (.ireturn, 1) := by decide +kernel
theorem dX8_set_67 : decode cX8_set 67 = .ok (.aload_n 0, 1) := by decide +kernel
theorem dX8_set_68 : decode cX8_set 68 = .ok (.getfield 22, 3) := by decide +kernel
theorem dX8_set_71 : decode cX8_set 71 = .ok (.aload_n 0, 1) := by decide +kernel
theorem dX8_set_72 : decode cX8_set 72 = .ok (.getfield 12, 3) := by decide +kernel
theorem dX8_set_75 : decode cX8_set 75 = .ok (.invokevirtual 74, 3) := by decide +kernel
theorem dX8_set_78 : decode cX8_set 78 = .ok (.iload_n 1, 1) := by decide +kernel
theorem dX8_set_79 : decode cX8_set 79 = .ok (.ifCond .ne 14, 3) := by decide +kernel
theorem dX8_set_82 : decode cX8_set 82 = .ok (.aload_n 0, 1) := by decide +kernel
theorem dX8_set_83 : decode cX8_set 83 = .ok (.getfield 12, 3) := by decide +kernel
theorem dX8_set_86 : decode cX8_set 86 = .ok (.iload_n 2, 1) := by decide +kernel
theorem dX8_set_87 : decode cX8_set 87 = .ok (.putfield 126, 3) := by decide +kernel
theorem dX8_set_90 : decode cX8_set 90 = .ok (.goto 11, 3) := by decide +kernel
theorem dX8_set_93 : decode cX8_set 93 = .ok (.aload_n 0, 1) := by decide +kernel
theorem dX8_set_94 : decode cX8_set 94 = .ok (.getfield 12, 3) := by decide +kernel
theorem dX8_set_97 : decode cX8_set 97 = .ok (.iload_n 2, 1) := by decide +kernel
theorem dX8_set_98 : decode cX8_set 98 = .ok (.putfield 129, 3) := by decide +kernel
theorem dX8_set_101 : decode cX8_set 101 = .ok (.iload 4, 2) := by decide +kernel
theorem dX8_set_103 : decode cX8_set 103 = .ok (.ireturn, 1) := by decide +kernel
set_option maxRecDepth 20000 in
theorem ggX8_run_X3_record : GoodIn wsX8_run wsX3_record := goodIn_r _ [11, 12, 13, 14, 15, 16, 17, 18, 19, 20, 21, 22, 23, 24, 25, 26, 27, 28, 29, 30, 31, 32, 33, 34, 35, 36, 37, 38, 39, 40, 41, 42, 43, 44, 45, 46, 47, 48, 49, 50, 51, 52, 53, 54, 55, 56, 57, 58, 59, 60, 61, 62, 63, 64, 65, 66, 67, 68, 69, 70, 71, 72, 73, 74, 75, 76, 169, 170, 171, 154, 155, 156, 157, 158, 159, 160, 161, 162, 163, 172, 173, 174, 175, 176, 164, 165, 166, 167, 168, 177, 178, 179, 180, 181, 182] (by decide +kernel) (by decide +kernel)
set_option maxRecDepth 20000 in
theorem gX8_run_X3_record : GoodIn wsX8_run (wsV RX8 74 RX3 yX3_record wsX3_record) := goodIn_app (goodIn_of _ (by decide +kernel)) ggX8_run_X3_record
set_option maxRecDepth 20000 in
theorem ggX8_run_X2_giveShow : GoodIn wsX8_run wsX2_giveShow := goodIn_r _ [80, 29, 33, 81, 82, 83, 84, 22, 85, 31, 25, 26, 86, 87, 32, 24, 88, 89, 90, 91, 92, 72, 93, 74, 94, 95, 96, 97, 30, 98, 99, 100, 101, 102, 103, 104, 105, 106, 107, 108, 109, 37, 110, 46, 111, 112, 113, 114, 115, 116, 117, 118, 119, 120, 121, 122, 123, 124, 51, 125, 57, 56, 126, 127, 128, 129, 76, 130, 131, 132, 133, 134, 135, 136, 137, 138, 139, 140, 141, 142, 143, 47, 144, 145, 146, 154, 155, 156, 157, 158, 159, 160, 161, 181, 182, 162, 163, 164, 165, 166, 167, 168, 172, 173, 174, 175, 176] (by decide +kernel) (by decide +kernel)
set_option maxRecDepth 20000 in
theorem gX8_run_X2_giveShow : GoodIn wsX8_run (wsV RX8 135 RX2 yX2_giveShow wsX2_giveShow) := goodIn_app (goodIn_of _ (by decide +kernel)) ggX8_run_X2_giveShow
theorem dX8_run_0 : decode cX8_run 0 = .ok (.aload_n 0, 1) := by decide +kernel
theorem dX8_run_1 : decode cX8_run 1 = .ok (.getfield 12, 3) := by decide +kernel
theorem dX8_run_4 : decode cX8_run 4 = .ok (.getfield 61, 3) := by decide +kernel
theorem dX8_run_7 : decode cX8_run 7 = .ok (.getfield 64, 3) := by decide +kernel
theorem dX8_run_10 : decode cX8_run 10 = .ok (.getfield 82, 3) := by decide +kernel
theorem dX8_run_13 : decode cX8_run 13 = .ok (.ifCond .ne 6, 3) := by decide +kernel
theorem dX8_run_16 : decode cX8_run 16 = .ok (.bipush (-4), 2) := by decide +kernel
theorem dX8_run_18 : decode cX8_run 18 = .ok (.ireturn, 1) := by decide +kernel
theorem dX8_run_19 : decode cX8_run 19 = .ok (.aload_n 0, 1) := by decide +kernel
theorem dX8_run_20 : decode cX8_run 20 = .ok (.getfield 12, 3) := by decide +kernel
theorem dX8_run_23 : decode cX8_run 23 = .ok (.getfield 132, 3) := by decide +kernel
theorem dX8_run_26 : decode cX8_run 26 = .ok (.bipush 10, 2) := by decide +kernel
theorem dX8_run_28 : decode cX8_run 28 = .ok (.if_icmp .lt 6, 3) := by decide +kernel
theorem dX8_run_31 : decode cX8_run 31 = .ok (.bipush (-3), 2) := by decide +kernel
theorem dX8_run_33 : decode cX8_run 33 = .ok (.ireturn, 1) := by decide +kernel
theorem dX8_run_34 : decode cX8_run 34 = .ok (.aload_n 0, 1) := by decide +kernel
theorem dX8_run_35 : decode cX8_run 35 = .ok (.getfield 22, 3) := by decide +kernel
theorem dX8_run_38 : decode cX8_run 38 = .ok (.aload_n 0, 1) := by decide +kernel
theorem dX8_run_39 : decode cX8_run 39 = .ok (.getfield 12, 3) := by decide +kernel
theorem dX8_run_42 : decode cX8_run 42 = .ok (.invokevirtual 74, 3) := by decide +kernel
theorem dX8_run_45 : decode cX8_run 45 = .ok (.aload_n 0, 1) := by decide +kernel
theorem dX8_run_46 : decode cX8_run 46 = .ok (.getfield 12, 3) := by decide +kernel
theorem dX8_run_49 : decode cX8_run 49 = .ok (.invokevirtual 135, 3) := by decide +kernel
theorem dX8_run_52 : decode cX8_run 52 = .ok (.ireturn, 1) := by decide +kernel
set_option maxRecDepth 20000 in
theorem ggX8_addWitness_X2_hasShow : GoodIn wsX8_addWitness wsX2_hasShow := goodIn_r _ [11, 12, 92, 93, 94, 95, 96, 97, 98, 99] (by decide +kernel) (by decide +kernel)
set_option maxRecDepth 20000 in
theorem gX8_addWitness_X2_hasShow : GoodIn wsX8_addWitness (wsV RX8 139 RX2 yX2_hasShow wsX2_hasShow) := goodIn_app (goodIn_of _ (by decide +kernel)) ggX8_addWitness_X2_hasShow
set_option maxRecDepth 20000 in
theorem ggX8_addWitness_X3_record : GoodIn wsX8_addWitness wsX3_record := goodIn_r _ [17, 18, 19, 20, 21, 22, 23, 24, 25, 26, 27, 10, 28, 29, 30, 31, 32, 33, 12, 34, 35, 36, 37, 38, 39, 40, 41, 42, 43, 44, 45, 46, 47, 48, 49, 50, 51, 52, 53, 54, 55, 56, 57, 58, 59, 60, 61, 62, 63, 64, 65, 66, 67, 68, 69, 70, 71, 72, 73, 74, 75, 76, 77, 78, 79, 80, 106, 107, 108, 92, 93, 94, 95, 96, 97, 98, 99, 109, 110, 111, 112, 113, 114, 115, 116, 117, 118, 119, 120, 102, 103, 104, 105, 100, 101] (by decide +kernel) (by decide +kernel)
set_option maxRecDepth 20000 in
theorem gX8_addWitness_X3_record : GoodIn wsX8_addWitness (wsV RX8 74 RX3 yX3_record wsX3_record) := goodIn_app (goodIn_of _ (by decide +kernel)) ggX8_addWitness_X3_record
set_option maxRecDepth 20000 in
theorem ggX8_addWitness_X7_append : GoodIn wsX8_addWitness wsX7_append := goodIn_r _ [84, 68, 69, 71, 72, 102, 103, 104, 105] (by decide +kernel) (by decide +kernel)
set_option maxRecDepth 20000 in
theorem gX8_addWitness_X7_append : GoodIn wsX8_addWitness (wsV RX8 158 RX7 yX7_append wsX7_append) := goodIn_app (goodIn_of _ (by decide +kernel)) ggX8_addWitness_X7_append
theorem dX8_addWitness_0 : decode cX8_addWitness 0 = .ok (.aload_n 0, 1) := by decide +kernel
theorem dX8_addWitness_1 : decode cX8_addWitness 1 = .ok (.getfield 12, 3) := by decide +kernel
theorem dX8_addWitness_4 : decode cX8_addWitness 4 = .ok (.iload_n 1, 1) := by decide +kernel
theorem dX8_addWitness_5 : decode cX8_addWitness 5 = .ok (.invokevirtual 139, 3) := by decide +kernel
theorem dX8_addWitness_8 : decode cX8_addWitness 8 = .ok (.ifCond .ne 5, 3) := by decide +kernel
theorem dX8_addWitness_11 : decode cX8_addWitness 11 = .ok (.iconst (-1), 1) := by decide +kernel
theorem dX8_addWitness_12 : decode cX8_addWitness 12 = .ok (.ireturn, 1) := by decide +kernel
theorem dX8_addWitness_13 : decode cX8_addWitness 13 = .ok (.iload_n 2, 1) := by decide +kernel
theorem dX8_addWitness_14 : decode cX8_addWitness 14 = .ok (.ifCond .lt 26, 3) := by decide +kernel
theorem dX8_addWitness_17 : decode cX8_addWitness 17 = .ok (.iload_n 3, 1) := by decide +kernel
theorem dX8_addWitness_18 : decode cX8_addWitness 18 = .ok (.iload_n 2, 1) := by decide +kernel
theorem dX8_addWitness_19 : decode cX8_addWitness 19 = .ok (.if_icmp .le 21, 3) := by decide +kernel
theorem dX8_addWitness_22 : decode cX8_addWitness 22 = .ok (.iload_n 3, 1) := by decide +kernel
theorem dX8_addWitness_23 : decode cX8_addWitness 23 = .ok (.aload_n 0, 1) := by decide +kernel
theorem dX8_addWitness_24 : decode cX8_addWitness 24 = .ok (.getfield 12, 3) := by decide +kernel
theorem dX8_addWitness_27 : decode cX8_addWitness 27 = .ok (.getfield 142, 3) := by decide +kernel
theorem dX8_addWitness_30 : decode cX8_addWitness 30 = .ok (.iload_n 1, 1) := by decide +kernel
theorem dX8_addWitness_31 : decode cX8_addWitness 31 = .ok (.aaload, 1) := by decide +kernel
theorem dX8_addWitness_32 : decode cX8_addWitness 32 = .ok (.getfield 146, 3) := by decide +kernel
theorem dX8_addWitness_35 : decode cX8_addWitness 35 = .ok (.iconst 0, 1) := by decide +kernel
theorem dX8_addWitness_36 : decode cX8_addWitness 36 = .ok (.iaload, 1) := by decide +kernel
theorem dX8_addWitness_37 : decode cX8_addWitness 37 = .ok (.if_icmp .le 6, 3) := by decide +kernel
theorem dX8_addWitness_40 : decode cX8_addWitness 40 = .ok (.bipush (-2), 2) := by decide +kernel
theorem dX8_addWitness_42 : decode cX8_addWitness 42 = .ok (.ireturn, 1) := by decide +kernel
theorem dX8_addWitness_43 : decode cX8_addWitness 43 = .ok (.aload_n 0, 1) := by decide +kernel
theorem dX8_addWitness_44 : decode cX8_addWitness 44 = .ok (.getfield 12, 3) := by decide +kernel
theorem dX8_addWitness_47 : decode cX8_addWitness 47 = .ok (.getfield 149, 3) := by decide +kernel
theorem dX8_addWitness_50 : decode cX8_addWitness 50 = .ok (.getfield 153, 3) := by decide +kernel
theorem dX8_addWitness_53 : decode cX8_addWitness 53 = .ok (.bipush 8, 2) := by decide +kernel
theorem dX8_addWitness_55 : decode cX8_addWitness 55 = .ok (.if_icmp .lt 6, 3) := by decide +kernel
theorem dX8_addWitness_58 : decode cX8_addWitness 58 = .ok (.bipush (-3), 2) := by decide +kernel
theorem dX8_addWitness_60 : decode cX8_addWitness 60 = .ok (.ireturn, 1) := by decide +kernel
theorem dX8_addWitness_61 : decode cX8_addWitness 61 = .ok (.aload_n 0, 1) := by decide +kernel
theorem dX8_addWitness_62 : decode cX8_addWitness 62 = .ok (.getfield 22, 3) := by decide +kernel
theorem dX8_addWitness_65 : decode cX8_addWitness 65 = .ok (.aload_n 0, 1) := by decide +kernel
theorem dX8_addWitness_66 : decode cX8_addWitness 66 = .ok (.getfield 12, 3) := by decide +kernel
theorem dX8_addWitness_69 : decode cX8_addWitness 69 = .ok (.invokevirtual 74, 3) := by decide +kernel
theorem dX8_addWitness_72 : decode cX8_addWitness 72 = .ok (.aload_n 0, 1) := by decide +kernel
theorem dX8_addWitness_73 : decode cX8_addWitness 73 = .ok (.getfield 12, 3) := by decide +kernel
theorem dX8_addWitness_76 : decode cX8_addWitness 76 = .ok (.getfield 149, 3) := by decide +kernel
theorem dX8_addWitness_79 : decode cX8_addWitness 79 = .ok (.iload_n 1, 1) := by decide +kernel
theorem dX8_addWitness_80 : decode cX8_addWitness 80 = .ok (.iload_n 2, 1) := by decide +kernel
theorem dX8_addWitness_81 : decode cX8_addWitness 81 = .ok (.iload_n 3, 1) := by decide +kernel
theorem dX8_addWitness_82 : decode cX8_addWitness 82 = .ok (.invokevirtual 158, 3) := by decide +kernel
theorem dX8_addWitness_85 : decode cX8_addWitness 85 = .ok (.ireturn, 1) := by decide +kernel
set_option maxRecDepth 20000 in
theorem ggX8_type_X1_append : GoodIn wsX8_type wsX1_append := goodIn_r _ [7, 8, 9, 17, 18, 19, 20, 21, 22, 23, 24] (by decide +kernel) (by decide +kernel)
set_option maxRecDepth 20000 in
theorem gX8_type_X1_append : GoodIn wsX8_type (wsV RX8 163 RX1 yX1_append wsX1_append) := goodIn_app (goodIn_of _ (by decide +kernel)) ggX8_type_X1_append
theorem dX8_type_0 : decode cX8_type 0 = .ok (.aload_n 0, 1) := by decide +kernel
theorem dX8_type_1 : decode cX8_type 1 = .ok (.getfield 29, 3) := by decide +kernel
theorem dX8_type_4 : decode cX8_type 4 = .ok (.getfield 160, 3) := by decide +kernel
theorem dX8_type_7 : decode cX8_type 7 = .ok (.bipush 60, 2) := by decide +kernel
theorem dX8_type_9 : decode cX8_type 9 = .ok (.if_icmp .lt 6, 3) := by decide +kernel
theorem dX8_type_12 : decode cX8_type 12 = .ok (.bipush (-3), 2) := by decide +kernel
theorem dX8_type_14 : decode cX8_type 14 = .ok (.ireturn, 1) := by decide +kernel
theorem dX8_type_15 : decode cX8_type 15 = .ok (.aload_n 0, 1) := by decide +kernel
theorem dX8_type_16 : decode cX8_type 16 = .ok (.getfield 29, 3) := by decide +kernel
theorem dX8_type_19 : decode cX8_type 19 = .ok (.iload_n 1, 1) := by decide +kernel
theorem dX8_type_20 : decode cX8_type 20 = .ok (.invokevirtual 163, 3) := by decide +kernel
theorem dX8_type_23 : decode cX8_type 23 = .ok (.aload_n 0, 1) := by decide +kernel
theorem dX8_type_24 : decode cX8_type 24 = .ok (.getfield 29, 3) := by decide +kernel
theorem dX8_type_27 : decode cX8_type 27 = .ok (.getfield 160, 3) := by decide +kernel
theorem dX8_type_30 : decode cX8_type 30 = .ok (.ireturn, 1) := by decide +kernel
theorem dX8_clearText_0 : decode cX8_clearText 0 = .ok (.aload_n 0, 1) := by decide +kernel
theorem dX8_clearText_1 : decode cX8_clearText 1 = .ok (.getfield 29, 3) := by decide +kernel
theorem dX8_clearText_4 : decode cX8_clearText 4 = .ok (.getfield 160, 3) := by decide +kernel
theorem dX8_clearText_7 : decode cX8_clearText 7 = .ok (.istore_n 1, 1) := by decide +kernel
theorem dX8_clearText_8 : decode cX8_clearText 8 = .ok (.aload_n 0, 1) := by decide +kernel
theorem dX8_clearText_9 : decode cX8_clearText 9 = .ok (.getfield 29, 3) := by decide +kernel
theorem dX8_clearText_12 : decode cX8_clearText 12 = .ok (.iconst 0, 1) := by decide +kernel
theorem dX8_clearText_13 : decode cX8_clearText 13 = .ok (.putfield 160, 3) := by decide +kernel
theorem dX8_clearText_16 : decode cX8_clearText 16 = .ok (.iload_n 1, 1) := by decide +kernel
theorem dX8_clearText_17 : decode cX8_clearText 17 = .ok (.ireturn, 1) := by decide +kernel
set_option maxRecDepth 20000 in
theorem ggX8_edit_X1_readEdits : GoodIn wsX8_edit wsX1_readEdits := goodIn_r _ [13, 14, 15, 16, 17, 18, 19, 12, 20, 21, 22, 23, 24, 25, 26, 27, 28, 29, 30, 31, 32, 33, 34, 35, 36, 37, 38, 39, 40, 41, 42, 43, 44, 45, 46, 47, 48, 228, 229, 230, 231, 232, 233, 234, 235] (by decide +kernel) (by decide +kernel)
set_option maxRecDepth 20000 in
theorem gX8_edit_X1_readEdits : GoodIn wsX8_edit (wsV RX8 166 RX1 yX1_readEdits wsX1_readEdits) := goodIn_app (goodIn_of _ (by decide +kernel)) ggX8_edit_X1_readEdits
set_option maxRecDepth 20000 in
theorem ggX8_edit_X0_copyFrom : GoodIn wsX8_edit wsX0_copyFrom := goodIn_r _ [53, 54, 55, 56, 57, 58, 59, 60, 61, 62, 63, 64, 65, 66, 67, 68, 69, 236, 237, 238, 239, 240, 241, 242] (by decide +kernel) (by decide +kernel)
set_option maxRecDepth 20000 in
theorem gX8_edit_X0_copyFrom : GoodIn wsX8_edit (wsV RX8 169 RX0 yX0_copyFrom wsX0_copyFrom) := goodIn_app (goodIn_of _ (by decide +kernel)) ggX8_edit_X0_copyFrom
set_option maxRecDepth 20000 in
theorem ggX8_edit_X0_perform : GoodIn wsX8_edit wsX0_perform := goodIn_r _ [73, 74, 75, 76, 52, 77, 54, 78, 79, 80, 81, 82, 83, 59, 84, 61, 85, 86, 87, 88, 68, 67, 89, 90, 91, 92, 93, 94, 95, 96, 97, 98, 99, 100, 101, 102, 103, 104, 62, 69, 105, 35, 36, 37, 106, 107, 108, 109, 110, 111, 112, 113, 114, 115, 116, 117, 118, 119, 120, 121, 122, 123, 124, 125, 126, 127, 55, 128, 129, 130, 131, 132, 133, 134, 135, 136, 137, 138, 139, 140, 141, 142, 143, 144, 145, 146, 147, 148, 149, 150, 236, 237, 238, 239, 240, 241, 242] (by decide +kernel) (by decide +kernel)
set_option maxRecDepth 20000 in
theorem gX8_edit_X0_perform : GoodIn wsX8_edit (wsV RX8 185 RX0 yX0_perform wsX0_perform) := goodIn_app (goodIn_of _ (by decide +kernel)) ggX8_edit_X0_perform
set_option maxRecDepth 20000 in
theorem ggX8_edit_X8_takeOverTrial : GoodIn wsX8_edit wsX8_takeOverTrial := goodIn_r _ [154, 155, 3, 4, 2, 156, 157, 158, 159, 160, 161, 162, 163, 164, 165, 166, 167, 168, 169, 170, 171, 172, 173, 174, 175, 176, 177, 178, 179, 180, 181, 182, 183, 184, 185, 186, 187, 188, 189, 190, 64, 65, 66, 191, 192, 193, 194, 57, 58, 59, 60, 61, 62, 63, 67, 68, 69, 195, 196, 197, 198, 199, 200, 201, 202, 203, 204, 205, 206, 207, 208, 209, 210, 211, 212, 49, 50, 51, 52, 53, 54, 55, 56, 213, 214, 215, 216, 217, 218, 219, 220, 221, 222, 223, 224, 225, 226, 227, 243, 244, 245, 236, 237, 246, 247, 248, 249, 250, 238, 239, 240, 241, 242, 251, 252, 253, 254, 255, 256] (by decide +kernel) (by decide +kernel)
set_option maxRecDepth 20000 in
theorem gX8_edit_X8_takeOverTrial : GoodIn wsX8_edit (wsV RX8 188 RX8 yX8_takeOverTrial wsX8_takeOverTrial) := goodIn_app (goodIn_of _ (by decide +kernel)) ggX8_edit_X8_takeOverTrial
theorem dX8_edit_0 : decode cX8_edit 0 = .ok (.aload_n 0, 1) := by decide +kernel
theorem dX8_edit_1 : decode cX8_edit 1 = .ok (.getfield 29, 3) := by decide +kernel
theorem dX8_edit_4 : decode cX8_edit 4 = .ok (.invokevirtual 166, 3) := by decide +kernel
theorem dX8_edit_7 : decode cX8_edit 7 = .ok (.istore_n 1, 1) := by decide +kernel
theorem dX8_edit_8 : decode cX8_edit 8 = .ok (.iload_n 1, 1) := by decide +kernel
theorem dX8_edit_9 : decode cX8_edit 9 = .ok (.iconst (-1), 1) := by decide +kernel
theorem dX8_edit_10 : decode cX8_edit 10 = .ok (.if_icmp .eq 8, 3) := by decide +kernel
theorem dX8_edit_13 : decode cX8_edit 13 = .ok (.bipush (-100), 2) := by decide +kernel
theorem dX8_edit_15 : decode cX8_edit 15 = .ok (.iload_n 1, 1) := by decide +kernel
theorem dX8_edit_16 : decode cX8_edit 16 = .ok (.isub, 1) := by decide +kernel
theorem dX8_edit_17 : decode cX8_edit 17 = .ok (.ireturn, 1) := by decide +kernel
theorem dX8_edit_18 : decode cX8_edit 18 = .ok (.aload_n 0, 1) := by decide +kernel
theorem dX8_edit_19 : decode cX8_edit 19 = .ok (.getfield 36, 3) := by decide +kernel
theorem dX8_edit_22 : decode cX8_edit 22 = .ok (.aload_n 0, 1) := by decide +kernel
theorem dX8_edit_23 : decode cX8_edit 23 = .ok (.getfield 12, 3) := by decide +kernel
theorem dX8_edit_26 : decode cX8_edit 26 = .ok (.getfield 61, 3) := by decide +kernel
theorem dX8_edit_29 : decode cX8_edit 29 = .ok (.invokevirtual 169, 3) := by decide +kernel
theorem dX8_edit_32 : decode cX8_edit 32 = .ok (.iconst 0, 1) := by decide +kernel
theorem dX8_edit_33 : decode cX8_edit 33 = .ok (.istore_n 2, 1) := by decide +kernel
theorem dX8_edit_34 : decode cX8_edit 34 = .ok (.iload_n 2, 1) := by decide +kernel
theorem dX8_edit_35 : decode cX8_edit 35 = .ok (.aload_n 0, 1) := by decide +kernel
theorem dX8_edit_36 : decode cX8_edit 36 = .ok (.getfield 29, 3) := by decide +kernel
theorem dX8_edit_39 : decode cX8_edit 39 = .ok (.getfield 173, 3) := by decide +kernel
theorem dX8_edit_42 : decode cX8_edit 42 = .ok (.if_icmp .ge 56, 3) := by decide +kernel
theorem dX8_edit_45 : decode cX8_edit 45 = .ok (.aload_n 0, 1) := by decide +kernel
theorem dX8_edit_46 : decode cX8_edit 46 = .ok (.getfield 36, 3) := by decide +kernel
theorem dX8_edit_49 : decode cX8_edit 49 = .ok (.aload_n 0, 1) := by decide +kernel
theorem dX8_edit_50 : decode cX8_edit 50 = .ok (.getfield 29, 3) := by decide +kernel
theorem dX8_edit_53 : decode cX8_edit 53 = .ok (.getfield 176, 3) := by decide +kernel
theorem dX8_edit_56 : decode cX8_edit 56 = .ok (.iload_n 2, 1) := by decide +kernel
theorem dX8_edit_57 : decode cX8_edit 57 = .ok (.iaload, 1) := by decide +kernel
theorem dX8_edit_58 : decode cX8_edit 58 = .ok (.aload_n 0, 1) := by decide +kernel
theorem dX8_edit_59 : decode cX8_edit 59 = .ok (.getfield 29, 3) := by decide +kernel
theorem dX8_edit_62 : decode cX8_edit 62 = .ok (.getfield 179, 3) := by decide +kernel
theorem dX8_edit_65 : decode cX8_edit 65 = .ok (.iload_n 2, 1) := by decide +kernel
theorem dX8_edit_66 : decode cX8_edit 66 = .ok (.iaload, 1) := by decide +kernel
theorem dX8_edit_67 : decode cX8_edit 67 = .ok (.aload_n 0, 1) := by decide +kernel
theorem dX8_edit_68 : decode cX8_edit 68 = .ok (.getfield 29, 3) := by decide +kernel
theorem dX8_edit_71 : decode cX8_edit 71 = .ok (.getfield 182, 3) := by decide +kernel
theorem dX8_edit_74 : decode cX8_edit 74 = .ok (.iload_n 2, 1) := by decide +kernel
theorem dX8_edit_75 : decode cX8_edit 75 = .ok (.iaload, 1) := by decide +kernel
theorem dX8_edit_76 : decode cX8_edit 76 = .ok (.invokevirtual 185, 3) := by decide +kernel
theorem dX8_edit_79 : decode cX8_edit 79 = .ok (.istore_n 3, 1) := by decide +kernel
theorem dX8_edit_80 : decode cX8_edit 80 = .ok (.iload_n 3, 1) := by decide +kernel
theorem dX8_edit_81 : decode cX8_edit 81 = .ok (.ifCond .ge 11, 3) := by decide +kernel
theorem dX8_edit_84 : decode cX8_edit 84 = .ok (.iload_n 3, 1) := by decide +kernel
theorem dX8_edit_85 : decode cX8_edit 85 = .ok (.bipush (-5), 2) := by decide +kernel
theorem dX8_edit_87 : decode cX8_edit 87 = .ok (.if_icmp .eq 5, 3) := by decide +kernel
theorem dX8_edit_90 : decode cX8_edit 90 = .ok (.iload_n 3, 1) := by decide +kernel
theorem dX8_edit_91 : decode cX8_edit 91 = .ok (.ireturn, 1) := by decide +kernel
theorem dX8_edit_92 : decode cX8_edit 92 = .ok (.iinc 2 1, 3) := by decide +kernel
theorem dX8_edit_95 : decode cX8_edit 95 = .ok (.goto (-61), 3) := by decide +kernel
theorem dX8_edit_98 : decode cX8_edit 98 = .ok (.aload_n 0, 1) := by decide +kernel
theorem dX8_edit_99 : decode cX8_edit 99 = .ok (.invokevirtual 188, 3) := by decide +kernel
theorem dX8_edit_102 : decode cX8_edit 102 = .ok (.aload_n 0, 1) := by decide +kernel
theorem dX8_edit_103 : decode cX8_edit 103 = .ok (.getfield 29, 3) := by decide +kernel
theorem dX8_edit_106 : decode cX8_edit 106 = .ok (.getfield 173, 3) := by decide +kernel
theorem dX8_edit_109 : decode cX8_edit 109 = .ok (.ireturn, 1) := by decide +kernel
set_option maxRecDepth 20000 in
theorem ggX8_undo_X3_giveBack : GoodIn wsX8_undo wsX3_giveBack := goodIn_r _ [8, 9, 10, 11, 12, 13, 14, 15, 16, 17, 18, 19, 20, 21, 22, 23, 24, 25, 26, 27, 28, 29, 30, 31, 32, 33, 34, 35, 36, 37, 38, 39, 40, 41, 42, 43, 44, 45, 46, 47, 48, 49, 50, 51, 52, 53, 54, 55, 56, 57, 58, 59, 60, 61, 62, 63, 64, 65, 66, 67, 68, 69, 77, 78, 79, 80, 81, 82, 83, 84, 85, 86, 87, 88, 89, 90, 91, 92, 93, 94, 95, 96, 97, 98, 99, 100, 101, 102, 103, 104, 105] (by decide +kernel) (by decide +kernel)
set_option maxRecDepth 20000 in
theorem gX8_undo_X3_giveBack : GoodIn wsX8_undo (wsV RX8 194 RX3 yX3_giveBack wsX3_giveBack) := goodIn_app (goodIn_of _ (by decide +kernel)) ggX8_undo_X3_giveBack
theorem dX8_undo_0 : decode cX8_undo 0 = .ok (.aload_n 0, 1) := by decide +kernel
theorem dX8_undo_1 : decode cX8_undo 1 = .ok (.getfield 22, 3) := by decide +kernel
theorem dX8_undo_4 : decode cX8_undo 4 = .ok (.getfield 191, 3) := by decide +kernel
theorem dX8_undo_7 : decode cX8_undo 7 = .ok (.ifCond .ne 6, 3) := by decide +kernel
theorem dX8_undo_10 : decode cX8_undo 10 = .ok (.bipush (-5), 2) := by decide +kernel
theorem dX8_undo_12 : decode cX8_undo 12 = .ok (.ireturn, 1) := by decide +kernel
theorem dX8_undo_13 : decode cX8_undo 13 = .ok (.aload_n 0, 1) := by decide +kernel
theorem dX8_undo_14 : decode cX8_undo 14 = .ok (.getfield 22, 3) := by decide +kernel
theorem dX8_undo_17 : decode cX8_undo 17 = .ok (.aload_n 0, 1) := by decide +kernel
theorem dX8_undo_18 : decode cX8_undo 18 = .ok (.getfield 12, 3) := by decide +kernel
theorem dX8_undo_21 : decode cX8_undo 21 = .ok (.invokevirtual 194, 3) := by decide +kernel
theorem dX8_undo_24 : decode cX8_undo 24 = .ok (.aload_n 0, 1) := by decide +kernel
theorem dX8_undo_25 : decode cX8_undo 25 = .ok (.getfield 22, 3) := by decide +kernel
theorem dX8_undo_28 : decode cX8_undo 28 = .ok (.getfield 191, 3) := by decide +kernel
theorem dX8_undo_31 : decode cX8_undo 31 = .ok (.ireturn, 1) := by decide +kernel
set_option maxRecDepth 20000 in
theorem ggX8_keep_X2_copyFrom : GoodIn wsX8_keep wsX2_copyFrom := goodIn_r _ [11, 12, 13, 14, 15, 16, 17, 18, 19, 20, 21, 22, 23, 24, 25, 26, 27, 28, 29, 30, 31, 32, 33, 34, 35, 36, 37, 38, 39, 40, 41, 42, 43, 44, 45, 46, 47, 48, 49, 50, 51, 52, 53, 54, 55, 56, 57, 58, 59, 60, 61, 62, 63, 64, 72, 73, 74, 75, 76, 77, 78, 79, 80, 81, 87, 88, 89, 90, 91, 82, 83, 84, 85, 86, 92, 93, 94, 95, 96, 97] (by decide +kernel) (by decide +kernel)
set_option maxRecDepth 20000 in
theorem gX8_keep_X2_copyFrom : GoodIn wsX8_keep (wsV RX8 197 RX2 yX2_copyFrom wsX2_copyFrom) := goodIn_app (goodIn_of _ (by decide +kernel)) ggX8_keep_X2_copyFrom
theorem dX8_keep_0 : decode cX8_keep 0 = .ok (.aload_n 0, 1) := by decide +kernel
theorem dX8_keep_1 : decode cX8_keep 1 = .ok (.getfield 16, 3) := by decide +kernel
theorem dX8_keep_4 : decode cX8_keep 4 = .ok (.aload_n 0, 1) := by decide +kernel
theorem dX8_keep_5 : decode cX8_keep 5 = .ok (.getfield 12, 3) := by decide +kernel
theorem dX8_keep_8 : decode cX8_keep 8 = .ok (.invokevirtual 197, 3) := by decide +kernel
theorem dX8_keep_11 : decode cX8_keep 11 = .ok (.aload_n 0, 1) := by decide +kernel
theorem dX8_keep_12 : decode cX8_keep 12 = .ok (.iconst 1, 1) := by decide +kernel
theorem dX8_keep_13 : decode cX8_keep 13 = .ok (.putfield 199, 3) := by decide +kernel
theorem dX8_keep_16 : decode cX8_keep 16 = .ok (.aload_n 0, 1) := by decide +kernel
theorem dX8_keep_17 : decode cX8_keep 17 = .ok (.getfield 12, 3) := by decide +kernel
theorem dX8_keep_20 : decode cX8_keep 20 = .ok (.getfield 61, 3) := by decide +kernel
theorem dX8_keep_23 : decode cX8_keep 23 = .ok (.getfield 64, 3) := by decide +kernel
theorem dX8_keep_26 : decode cX8_keep 26 = .ok (.getfield 82, 3) := by decide +kernel
theorem dX8_keep_29 : decode cX8_keep 29 = .ok (.ireturn, 1) := by decide +kernel
set_option maxRecDepth 20000 in
theorem ggX8_restore_X3_record : GoodIn wsX8_restore wsX3_record := goodIn_r _ [12, 13, 14, 15, 16, 17, 18, 19, 20, 21, 22, 23, 24, 25, 26, 27, 28, 29, 30, 31, 32, 33, 34, 35, 36, 37, 38, 39, 40, 41, 42, 43, 44, 45, 46, 47, 48, 49, 50, 51, 52, 53, 54, 55, 56, 57, 58, 59, 60, 61, 62, 63, 64, 65, 66, 67, 68, 69, 70, 71, 72, 73, 74, 75, 76, 77, 101, 102, 103, 86, 87, 88, 89, 90, 91, 92, 93, 94, 95, 104, 105, 106, 107, 108, 96, 97, 98, 99, 100, 109, 110, 111, 112, 113, 114] (by decide +kernel) (by decide +kernel)
set_option maxRecDepth 20000 in
theorem gX8_restore_X3_record : GoodIn wsX8_restore (wsV RX8 74 RX3 yX3_record wsX3_record) := goodIn_app (goodIn_of _ (by decide +kernel)) ggX8_restore_X3_record
set_option maxRecDepth 20000 in
theorem ggX8_restore_X2_copyFrom : GoodIn wsX8_restore wsX2_copyFrom := goodIn_r _ [24, 25, 26, 27, 28, 29, 30, 31, 32, 33, 34, 35, 36, 37, 38, 39, 40, 41, 42, 43, 44, 45, 46, 47, 48, 49, 50, 51, 52, 53, 54, 55, 56, 57, 58, 59, 60, 61, 62, 63, 64, 65, 66, 67, 68, 69, 70, 71, 72, 73, 74, 75, 76, 77, 86, 87, 88, 89, 90, 91, 92, 93, 94, 95, 104, 105, 106, 107, 108, 96, 97, 98, 99, 100, 109, 110, 111, 112, 113, 114] (by decide +kernel) (by decide +kernel)
set_option maxRecDepth 20000 in
theorem gX8_restore_X2_copyFrom : GoodIn wsX8_restore (wsV RX8 197 RX2 yX2_copyFrom wsX2_copyFrom) := goodIn_app (goodIn_of _ (by decide +kernel)) ggX8_restore_X2_copyFrom
theorem dX8_restore_0 : decode cX8_restore 0 = .ok (.aload_n 0, 1) := by decide +kernel
theorem dX8_restore_1 : decode cX8_restore 1 = .ok (.getfield 199, 3) := by decide +kernel
theorem dX8_restore_4 : decode cX8_restore 4 = .ok (.ifCond .ne 6, 3) := by decide +kernel
theorem dX8_restore_7 : decode cX8_restore 7 = .ok (.bipush (-5), 2) := by decide +kernel
theorem dX8_restore_9 : decode cX8_restore 9 = .ok (.ireturn, 1) := by decide +kernel
theorem dX8_restore_10 : decode cX8_restore 10 = .ok (.aload_n 0, 1) := by decide +kernel
theorem dX8_restore_11 : decode cX8_restore 11 = .ok (.getfield 22, 3) := by decide +kernel
theorem dX8_restore_14 : decode cX8_restore 14 = .ok (.aload_n 0, 1) := by decide +kernel
theorem dX8_restore_15 : decode cX8_restore 15 = .ok (.getfield 12, 3) := by decide +kernel
theorem dX8_restore_18 : decode cX8_restore 18 = .ok (.invokevirtual 74, 3) := by decide +kernel
theorem dX8_restore_21 : decode cX8_restore 21 = .ok (.aload_n 0, 1) := by decide +kernel
theorem dX8_restore_22 : decode cX8_restore 22 = .ok (.getfield 12, 3) := by decide +kernel
theorem dX8_restore_25 : decode cX8_restore 25 = .ok (.aload_n 0, 1) := by decide +kernel
theorem dX8_restore_26 : decode cX8_restore 26 = .ok (.getfield 16, 3) := by decide +kernel
theorem dX8_restore_29 : decode cX8_restore 29 = .ok (.invokevirtual 197, 3) := by decide +kernel
theorem dX8_restore_32 : decode cX8_restore 32 = .ok (.aload_n 0, 1) := by decide +kernel
theorem dX8_restore_33 : decode cX8_restore 33 = .ok (.getfield 12, 3) := by decide +kernel
theorem dX8_restore_36 : decode cX8_restore 36 = .ok (.getfield 61, 3) := by decide +kernel
theorem dX8_restore_39 : decode cX8_restore 39 = .ok (.getfield 64, 3) := by decide +kernel
theorem dX8_restore_42 : decode cX8_restore 42 = .ok (.getfield 82, 3) := by decide +kernel
theorem dX8_restore_45 : decode cX8_restore 45 = .ok (.ireturn, 1) := by decide +kernel
set_option maxRecDepth 20000 in
theorem ggX8_scene_X6_hasScene : GoodIn wsX8_scene wsX6_hasScene := goodIn_r _ [12, 13, 69, 70, 71, 72, 73] (by decide +kernel) (by decide +kernel)
set_option maxRecDepth 20000 in
theorem gX8_scene_X6_hasScene : GoodIn wsX8_scene (wsV RX8 203 RX6 yX6_hasScene wsX6_hasScene) := goodIn_app (goodIn_of _ (by decide +kernel)) ggX8_scene_X6_hasScene
set_option maxRecDepth 20000 in
theorem ggX8_scene_X8_isWithin : GoodIn wsX8_scene wsX8_isWithin := goodIn_r _ [17] (by decide +kernel) (by decide +kernel)
set_option maxRecDepth 20000 in
theorem gX8_scene_X8_isWithin : GoodIn wsX8_scene (va_wsS RX8 47 yX8_isWithin wsX8_isWithin) := goodIn_app (goodIn_of _ (by decide +kernel)) ggX8_scene_X8_isWithin
set_option maxRecDepth 20000 in
theorem ggX8_scene_X4_framesOf : GoodIn wsX8_scene wsX4_framesOf := goodIn_r _ [22, 23, 24, 25, 26, 27, 21, 28, 29, 30, 76, 77, 78, 79, 80] (by decide +kernel) (by decide +kernel)
set_option maxRecDepth 20000 in
theorem gX8_scene_X4_framesOf : GoodIn wsX8_scene (wsV RX8 212 RX4 yX4_framesOf wsX4_framesOf) := goodIn_app (goodIn_of _ (by decide +kernel)) ggX8_scene_X4_framesOf
set_option maxRecDepth 20000 in
theorem ggX8_scene_X4_piecesOf : GoodIn wsX8_scene wsX4_piecesOf := goodIn_r _ [34, 23, 24, 76, 77, 78, 79, 80] (by decide +kernel) (by decide +kernel)
set_option maxRecDepth 20000 in
theorem gX8_scene_X4_piecesOf : GoodIn wsX8_scene (wsV RX8 215 RX4 yX4_piecesOf wsX4_piecesOf) := goodIn_app (goodIn_of _ (by decide +kernel)) ggX8_scene_X4_piecesOf
set_option maxRecDepth 20000 in
theorem ggX8_scene_X6_tornHolesOf : GoodIn wsX8_scene wsX6_tornHolesOf := goodIn_r _ [38, 39, 40, 41, 16, 42, 43, 44, 45, 46, 47, 48, 49, 69, 70, 71, 72, 73] (by decide +kernel) (by decide +kernel)
set_option maxRecDepth 20000 in
theorem gX8_scene_X6_tornHolesOf : GoodIn wsX8_scene (wsV RX8 221 RX6 yX6_tornHolesOf wsX6_tornHolesOf) := goodIn_app (goodIn_of _ (by decide +kernel)) ggX8_scene_X6_tornHolesOf
set_option maxRecDepth 20000 in
theorem ggX8_scene_X4_isInOrder : GoodIn wsX8_scene wsX4_isInOrder := goodIn_r _ [53, 23, 24, 30, 29, 76, 77, 78, 79, 80] (by decide +kernel) (by decide +kernel)
set_option maxRecDepth 20000 in
theorem gX8_scene_X4_isInOrder : GoodIn wsX8_scene (wsV RX8 224 RX4 yX4_isInOrder wsX4_isInOrder) := goodIn_app (goodIn_of _ (by decide +kernel)) ggX8_scene_X4_isInOrder
theorem dX8_scene_0 : decode cX8_scene 0 = .ok (.aload_n 0, 1) := by decide +kernel
theorem dX8_scene_1 : decode cX8_scene 1 = .ok (.getfield 12, 3) := by decide +kernel
theorem dX8_scene_4 : decode cX8_scene 4 = .ok (.getfield 51, 3) := by decide +kernel
theorem dX8_scene_7 : decode cX8_scene 7 = .ok (.iload_n 1, 1) := by decide +kernel
theorem dX8_scene_8 : decode cX8_scene 8 = .ok (.invokevirtual 203, 3) := by decide +kernel
theorem dX8_scene_11 : decode cX8_scene 11 = .ok (.ifCond .ne 5, 3) := by decide +kernel
theorem dX8_scene_14 : decode cX8_scene 14 = .ok (.iconst (-1), 1) := by decide +kernel
theorem dX8_scene_15 : decode cX8_scene 15 = .ok (.ireturn, 1) := by decide +kernel
theorem dX8_scene_16 : decode cX8_scene 16 = .ok (.iload_n 2, 1) := by decide +kernel
theorem dX8_scene_17 : decode cX8_scene 17 = .ok (.iconst 0, 1) := by decide +kernel
theorem dX8_scene_18 : decode cX8_scene 18 = .ok (.iconst 5, 1) := by decide +kernel
theorem dX8_scene_19 : decode cX8_scene 19 = .ok (.invokestatic 47, 3) := by decide +kernel
theorem dX8_scene_22 : decode cX8_scene 22 = .ok (.ifCond .ne 6, 3) := by decide +kernel
theorem dX8_scene_25 : decode cX8_scene 25 = .ok (.bipush (-2), 2) := by decide +kernel
theorem dX8_scene_27 : decode cX8_scene 27 = .ok (.ireturn, 1) := by decide +kernel
theorem dX8_scene_28 : decode cX8_scene 28 = .ok (.aload_n 0, 1) := by decide +kernel
theorem dX8_scene_29 : decode cX8_scene 29 = .ok (.getfield 12, 3) := by decide +kernel
theorem dX8_scene_32 : decode cX8_scene 32 = .ok (.getfield 61, 3) := by decide +kernel
theorem dX8_scene_35 : decode cX8_scene 35 = .ok (.astore_n 3, 1) := by decide +kernel
theorem dX8_scene_36 : decode cX8_scene 36 = .ok (.iload_n 2, 1) := by decide +kernel
theorem dX8_scene_37 : decode cX8_scene 37 = .ok (.tableswitch 100 0 4 #[35, 48, 61, 70, 88], 35) := by decide +kernel
theorem dX8_scene_72 : decode cX8_scene 72 = .ok (.aload_n 0, 1) := by decide +kernel
theorem dX8_scene_73 : decode cX8_scene 73 = .ok (.getfield 12, 3) := by decide +kernel
theorem dX8_scene_76 : decode cX8_scene 76 = .ok (.getfield 51, 3) := by decide +kernel
theorem dX8_scene_79 : decode cX8_scene 79 = .ok (.getfield 206, 3) := by decide +kernel
theorem dX8_scene_82 : decode cX8_scene 82 = .ok (.iload_n 1, 1) := by decide +kernel
theorem dX8_scene_83 : decode cX8_scene 83 = .ok (.iaload, 1) := by decide +kernel
theorem dX8_scene_84 : decode cX8_scene 84 = .ok (.ireturn, 1) := by decide +kernel
theorem dX8_scene_85 : decode cX8_scene 85 = .ok (.aload_n 0, 1) := by decide +kernel
theorem dX8_scene_86 : decode cX8_scene 86 = .ok (.getfield 12, 3) := by decide +kernel
theorem dX8_scene_89 : decode cX8_scene 89 = .ok (.getfield 51, 3) := by decide +kernel
theorem dX8_scene_92 : decode cX8_scene 92 = .ok (.getfield 209, 3) := by decide +kernel
theorem dX8_scene_95 : decode cX8_scene 95 = .ok (.iload_n 1, 1) := by decide +kernel
theorem dX8_scene_96 : decode cX8_scene 96 = .ok (.iaload, 1) := by decide +kernel
theorem dX8_scene_97 : decode cX8_scene 97 = .ok (.ireturn, 1) := by decide +kernel
theorem dX8_scene_98 : decode cX8_scene 98 = .ok (.aload_n 3, 1) := by decide +kernel
theorem dX8_scene_99 : decode cX8_scene 99 = .ok (.getfield 64, 3) := by decide +kernel
theorem dX8_scene_102 : decode cX8_scene 102 = .ok (.iload_n 1, 1) := by decide +kernel
theorem dX8_scene_103 : decode cX8_scene 103 = .ok (.invokevirtual 212, 3) := by decide +kernel
theorem dX8_scene_106 : decode cX8_scene 106 = .ok (.ireturn, 1) := by decide +kernel
theorem dX8_scene_107 : decode cX8_scene 107 = .ok (.aload_n 3, 1) := by decide +kernel
theorem dX8_scene_108 : decode cX8_scene 108 = .ok (.getfield 64, 3) := by decide +kernel
theorem dX8_scene_111 : decode cX8_scene 111 = .ok (.iload_n 1, 1) := by decide +kernel
theorem dX8_scene_112 : decode cX8_scene 112 = .ok (.invokevirtual 215, 3) := by decide +kernel
theorem dX8_scene_115 : decode cX8_scene 115 = .ok (.aload_n 3, 1) := by decide +kernel
theorem dX8_scene_116 : decode cX8_scene 116 = .ok (.getfield 218, 3) := by decide +kernel
theorem dX8_scene_119 : decode cX8_scene 119 = .ok (.iload_n 1, 1) := by decide +kernel
theorem dX8_scene_120 : decode cX8_scene 120 = .ok (.invokevirtual 215, 3) := by decide +kernel
theorem dX8_scene_123 : decode cX8_scene 123 = .ok (.iadd, 1) := by decide +kernel
theorem dX8_scene_124 : decode cX8_scene 124 = .ok (.ireturn, 1) := by decide +kernel
theorem dX8_scene_125 : decode cX8_scene 125 = .ok (.aload_n 0, 1) := by decide +kernel
theorem dX8_scene_126 : decode cX8_scene 126 = .ok (.getfield 12, 3) := by decide +kernel
theorem dX8_scene_129 : decode cX8_scene 129 = .ok (.getfield 51, 3) := by decide +kernel
theorem dX8_scene_132 : decode cX8_scene 132 = .ok (.iload_n 1, 1) := by decide +kernel
theorem dX8_scene_133 : decode cX8_scene 133 = .ok (.invokevirtual 221, 3) := by decide +kernel
theorem dX8_scene_136 : decode cX8_scene 136 = .ok (.ireturn, 1) := by decide +kernel
theorem dX8_scene_137 : decode cX8_scene 137 = .ok (.aload_n 3, 1) := by decide +kernel
theorem dX8_scene_138 : decode cX8_scene 138 = .ok (.getfield 64, 3) := by decide +kernel
theorem dX8_scene_141 : decode cX8_scene 141 = .ok (.iload_n 1, 1) := by decide +kernel
theorem dX8_scene_142 : decode cX8_scene 142 = .ok (.invokevirtual 224, 3) := by decide +kernel
theorem dX8_scene_145 : decode cX8_scene 145 = .ok (.ifCond .eq 7, 3) := by decide +kernel
theorem dX8_scene_148 : decode cX8_scene 148 = .ok (.iconst 1, 1) := by decide +kernel
theorem dX8_scene_149 : decode cX8_scene 149 = .ok (.goto 4, 3) := by decide +kernel
theorem dX8_scene_152 : decode cX8_scene 152 = .ok (.iconst 0, 1) := by decide +kernel
theorem dX8_scene_153 : decode cX8_scene 153 = .ok (.ireturn, 1) := by decide +kernel
set_option maxRecDepth 20000 in
theorem ggX8_piece_X4_has : GoodIn wsX8_piece wsX4_has := goodIn_r _ [9, 10, 47, 48, 49, 50, 51] (by decide +kernel) (by decide +kernel)
set_option maxRecDepth 20000 in
theorem gX8_piece_X4_has : GoodIn wsX8_piece (wsV RX8 113 RX4 yX4_has wsX4_has) := goodIn_app (goodIn_of _ (by decide +kernel)) ggX8_piece_X4_has
set_option maxRecDepth 20000 in
theorem ggX8_piece_X8_isWithin : GoodIn wsX8_piece wsX8_isWithin := goodIn_r _ [14] (by decide +kernel) (by decide +kernel)
set_option maxRecDepth 20000 in
theorem gX8_piece_X8_isWithin : GoodIn wsX8_piece (va_wsS RX8 47 yX8_isWithin wsX8_isWithin) := goodIn_app (goodIn_of _ (by decide +kernel)) ggX8_piece_X8_isWithin
set_option maxRecDepth 20000 in
theorem ggX8_piece_X4_startOf : GoodIn wsX8_piece wsX4_startOf := goodIn_r _ [18, 10, 19, 20, 21, 8, 22, 23, 24, 47, 48, 49, 50, 51] (by decide +kernel) (by decide +kernel)
set_option maxRecDepth 20000 in
theorem gX8_piece_X4_startOf : GoodIn wsX8_piece (wsV RX8 227 RX4 yX4_startOf wsX4_startOf) := goodIn_app (goodIn_of _ (by decide +kernel)) ggX8_piece_X4_startOf
set_option maxRecDepth 20000 in
theorem ggX8_piece_X4_tell : GoodIn wsX8_piece wsX4_tell := goodIn_r _ [28, 29, 24, 23, 47, 48, 49, 50, 51] (by decide +kernel) (by decide +kernel)
set_option maxRecDepth 20000 in
theorem gX8_piece_X4_tell : GoodIn wsX8_piece (wsV RX8 230 RX4 yX4_tell wsX4_tell) := goodIn_app (goodIn_of _ (by decide +kernel)) ggX8_piece_X4_tell
theorem dX8_piece_0 : decode cX8_piece 0 = .ok (.aload_n 0, 1) := by decide +kernel
theorem dX8_piece_1 : decode cX8_piece 1 = .ok (.getfield 12, 3) := by decide +kernel
theorem dX8_piece_4 : decode cX8_piece 4 = .ok (.getfield 61, 3) := by decide +kernel
theorem dX8_piece_7 : decode cX8_piece 7 = .ok (.getfield 64, 3) := by decide +kernel
theorem dX8_piece_10 : decode cX8_piece 10 = .ok (.astore_n 3, 1) := by decide +kernel
theorem dX8_piece_11 : decode cX8_piece 11 = .ok (.aload_n 3, 1) := by decide +kernel
theorem dX8_piece_12 : decode cX8_piece 12 = .ok (.iload_n 1, 1) := by decide +kernel
theorem dX8_piece_13 : decode cX8_piece 13 = .ok (.invokevirtual 113, 3) := by decide +kernel
theorem dX8_piece_16 : decode cX8_piece 16 = .ok (.ifCond .ne 5, 3) := by decide +kernel
theorem dX8_piece_19 : decode cX8_piece 19 = .ok (.iconst (-1), 1) := by decide +kernel
theorem dX8_piece_20 : decode cX8_piece 20 = .ok (.ireturn, 1) := by decide +kernel
theorem dX8_piece_21 : decode cX8_piece 21 = .ok (.iload_n 2, 1) := by decide +kernel
theorem dX8_piece_22 : decode cX8_piece 22 = .ok (.iconst 0, 1) := by decide +kernel
theorem dX8_piece_23 : decode cX8_piece 23 = .ok (.iconst 4, 1) := by decide +kernel
theorem dX8_piece_24 : decode cX8_piece 24 = .ok (.invokestatic 47, 3) := by decide +kernel
theorem dX8_piece_27 : decode cX8_piece 27 = .ok (.ifCond .ne 6, 3) := by decide +kernel
theorem dX8_piece_30 : decode cX8_piece 30 = .ok (.bipush (-2), 2) := by decide +kernel
theorem dX8_piece_32 : decode cX8_piece 32 = .ok (.ireturn, 1) := by decide +kernel
theorem dX8_piece_33 : decode cX8_piece 33 = .ok (.iload_n 2, 1) := by decide +kernel
theorem dX8_piece_34 : decode cX8_piece 34 = .ok (.lookupswitch 39 #[(3, 26), (4, 32)], 26) := by decide +kernel
theorem dX8_piece_60 : decode cX8_piece 60 = .ok (.aload_n 3, 1) := by decide +kernel
theorem dX8_piece_61 : decode cX8_piece 61 = .ok (.iload_n 1, 1) := by decide +kernel
theorem dX8_piece_62 : decode cX8_piece 62 = .ok (.invokevirtual 227, 3) := by decide +kernel
theorem dX8_piece_65 : decode cX8_piece 65 = .ok (.ireturn, 1) := by decide +kernel
theorem dX8_piece_66 : decode cX8_piece 66 = .ok (.aload_n 3, 1) := by decide +kernel
theorem dX8_piece_67 : decode cX8_piece 67 = .ok (.getfield 117, 3) := by decide +kernel
theorem dX8_piece_70 : decode cX8_piece 70 = .ok (.iload_n 1, 1) := by decide +kernel
theorem dX8_piece_71 : decode cX8_piece 71 = .ok (.iaload, 1) := by decide +kernel
theorem dX8_piece_72 : decode cX8_piece 72 = .ok (.ireturn, 1) := by decide +kernel
theorem dX8_piece_73 : decode cX8_piece 73 = .ok (.aload_n 3, 1) := by decide +kernel
theorem dX8_piece_74 : decode cX8_piece 74 = .ok (.iload_n 1, 1) := by decide +kernel
theorem dX8_piece_75 : decode cX8_piece 75 = .ok (.iload_n 2, 1) := by decide +kernel
theorem dX8_piece_76 : decode cX8_piece 76 = .ok (.invokevirtual 230, 3) := by decide +kernel
theorem dX8_piece_79 : decode cX8_piece 79 = .ok (.ireturn, 1) := by decide +kernel
set_option maxRecDepth 20000 in
theorem ggX8_canned_X4_has : GoodIn wsX8_canned wsX4_has := goodIn_r _ [8, 9, 38, 39, 40, 41, 42] (by decide +kernel) (by decide +kernel)
set_option maxRecDepth 20000 in
theorem gX8_canned_X4_has : GoodIn wsX8_canned (wsV RX8 113 RX4 yX4_has wsX4_has) := goodIn_app (goodIn_of _ (by decide +kernel)) ggX8_canned_X4_has
set_option maxRecDepth 20000 in
theorem ggX8_canned_X8_isWithin : GoodIn wsX8_canned wsX8_isWithin := goodIn_r _ [13] (by decide +kernel) (by decide +kernel)
set_option maxRecDepth 20000 in
theorem gX8_canned_X8_isWithin : GoodIn wsX8_canned (va_wsS RX8 47 yX8_isWithin wsX8_isWithin) := goodIn_app (goodIn_of _ (by decide +kernel)) ggX8_canned_X8_isWithin
set_option maxRecDepth 20000 in
theorem ggX8_canned_X4_tell : GoodIn wsX8_canned wsX4_tell := goodIn_r _ [17, 18, 19, 20, 38, 39, 40, 41, 42] (by decide +kernel) (by decide +kernel)
set_option maxRecDepth 20000 in
theorem gX8_canned_X4_tell : GoodIn wsX8_canned (wsV RX8 230 RX4 yX4_tell wsX4_tell) := goodIn_app (goodIn_of _ (by decide +kernel)) ggX8_canned_X4_tell
theorem dX8_canned_0 : decode cX8_canned 0 = .ok (.aload_n 0, 1) := by decide +kernel
theorem dX8_canned_1 : decode cX8_canned 1 = .ok (.getfield 12, 3) := by decide +kernel
theorem dX8_canned_4 : decode cX8_canned 4 = .ok (.getfield 61, 3) := by decide +kernel
theorem dX8_canned_7 : decode cX8_canned 7 = .ok (.getfield 218, 3) := by decide +kernel
theorem dX8_canned_10 : decode cX8_canned 10 = .ok (.astore_n 3, 1) := by decide +kernel
theorem dX8_canned_11 : decode cX8_canned 11 = .ok (.aload_n 3, 1) := by decide +kernel
theorem dX8_canned_12 : decode cX8_canned 12 = .ok (.iload_n 1, 1) := by decide +kernel
theorem dX8_canned_13 : decode cX8_canned 13 = .ok (.invokevirtual 113, 3) := by decide +kernel
theorem dX8_canned_16 : decode cX8_canned 16 = .ok (.ifCond .ne 5, 3) := by decide +kernel
theorem dX8_canned_19 : decode cX8_canned 19 = .ok (.iconst (-1), 1) := by decide +kernel
theorem dX8_canned_20 : decode cX8_canned 20 = .ok (.ireturn, 1) := by decide +kernel
theorem dX8_canned_21 : decode cX8_canned 21 = .ok (.iload_n 2, 1) := by decide +kernel
theorem dX8_canned_22 : decode cX8_canned 22 = .ok (.iconst 0, 1) := by decide +kernel
theorem dX8_canned_23 : decode cX8_canned 23 = .ok (.iconst 2, 1) := by decide +kernel
theorem dX8_canned_24 : decode cX8_canned 24 = .ok (.invokestatic 47, 3) := by decide +kernel
theorem dX8_canned_27 : decode cX8_canned 27 = .ok (.ifCond .ne 6, 3) := by decide +kernel
theorem dX8_canned_30 : decode cX8_canned 30 = .ok (.bipush (-2), 2) := by decide +kernel
theorem dX8_canned_32 : decode cX8_canned 32 = .ok (.ireturn, 1) := by decide +kernel
theorem dX8_canned_33 : decode cX8_canned 33 = .ok (.aload_n 3, 1) := by decide +kernel
theorem dX8_canned_34 : decode cX8_canned 34 = .ok (.iload_n 1, 1) := by decide +kernel
theorem dX8_canned_35 : decode cX8_canned 35 = .ok (.iload_n 2, 1) := by decide +kernel
theorem dX8_canned_36 : decode cX8_canned 36 = .ok (.invokevirtual 230, 3) := by decide +kernel
theorem dX8_canned_39 : decode cX8_canned 39 = .ok (.ireturn, 1) := by decide +kernel
set_option maxRecDepth 20000 in
theorem ggX8_frameAt_X4_pieceAt : GoodIn wsX8_frameAt wsX4_pieceAt := goodIn_r _ [10, 11, 12, 13, 14, 9, 15, 16, 17, 47, 48, 49, 50, 51] (by decide +kernel) (by decide +kernel)
set_option maxRecDepth 20000 in
theorem gX8_frameAt_X4_pieceAt : GoodIn wsX8_frameAt (wsV RX8 233 RX4 yX4_pieceAt wsX4_pieceAt) := goodIn_app (goodIn_of _ (by decide +kernel)) ggX8_frameAt_X4_pieceAt
set_option maxRecDepth 20000 in
theorem ggX8_frameAt_X4_has : GoodIn wsX8_frameAt wsX4_has := goodIn_r _ [21, 11, 47, 48, 49, 50, 51] (by decide +kernel) (by decide +kernel)
set_option maxRecDepth 20000 in
theorem gX8_frameAt_X4_has : GoodIn wsX8_frameAt (wsV RX8 113 RX4 yX4_has wsX4_has) := goodIn_app (goodIn_of _ (by decide +kernel)) ggX8_frameAt_X4_has
set_option maxRecDepth 20000 in
theorem ggX8_frameAt_X4_startOf : GoodIn wsX8_frameAt wsX4_startOf := goodIn_r _ [25, 11, 12, 13, 14, 9, 15, 16, 17, 47, 48, 49, 50, 51] (by decide +kernel) (by decide +kernel)
set_option maxRecDepth 20000 in
theorem gX8_frameAt_X4_startOf : GoodIn wsX8_frameAt (wsV RX8 227 RX4 yX4_startOf wsX4_startOf) := goodIn_app (goodIn_of _ (by decide +kernel)) ggX8_frameAt_X4_startOf
set_option maxRecDepth 20000 in
theorem ggX8_frameAt_X8_codeOf : GoodIn wsX8_frameAt wsX8_codeOf := goodIn_r _ [29] (by decide +kernel) (by decide +kernel)
set_option maxRecDepth 20000 in
theorem gX8_frameAt_X8_codeOf : GoodIn wsX8_frameAt (va_wsS RX8 239 yX8_codeOf wsX8_codeOf) := goodIn_app (goodIn_of _ (by decide +kernel)) ggX8_frameAt_X8_codeOf
theorem dX8_frameAt_0 : decode cX8_frameAt 0 = .ok (.aload_n 0, 1) := by decide +kernel
theorem dX8_frameAt_1 : decode cX8_frameAt 1 = .ok (.getfield 12, 3) := by decide +kernel
theorem dX8_frameAt_4 : decode cX8_frameAt 4 = .ok (.getfield 61, 3) := by decide +kernel
theorem dX8_frameAt_7 : decode cX8_frameAt 7 = .ok (.getfield 64, 3) := by decide +kernel
theorem dX8_frameAt_10 : decode cX8_frameAt 10 = .ok (.astore_n 2, 1) := by decide +kernel
theorem dX8_frameAt_11 : decode cX8_frameAt 11 = .ok (.iload_n 1, 1) := by decide +kernel
theorem dX8_frameAt_12 : decode cX8_frameAt 12 = .ok (.ifCond .ge 6, 3) := by decide +kernel
theorem dX8_frameAt_15 : decode cX8_frameAt 15 = .ok (.bipush (-2), 2) := by decide +kernel
theorem dX8_frameAt_17 : decode cX8_frameAt 17 = .ok (.ireturn, 1) := by decide +kernel
theorem dX8_frameAt_18 : decode cX8_frameAt 18 = .ok (.aload_n 2, 1) := by decide +kernel
theorem dX8_frameAt_19 : decode cX8_frameAt 19 = .ok (.iload_n 1, 1) := by decide +kernel
theorem dX8_frameAt_20 : decode cX8_frameAt 20 = .ok (.invokevirtual 233, 3) := by decide +kernel
theorem dX8_frameAt_23 : decode cX8_frameAt 23 = .ok (.istore_n 3, 1) := by decide +kernel
theorem dX8_frameAt_24 : decode cX8_frameAt 24 = .ok (.aload_n 2, 1) := by decide +kernel
theorem dX8_frameAt_25 : decode cX8_frameAt 25 = .ok (.iload_n 3, 1) := by decide +kernel
theorem dX8_frameAt_26 : decode cX8_frameAt 26 = .ok (.invokevirtual 113, 3) := by decide +kernel
theorem dX8_frameAt_29 : decode cX8_frameAt 29 = .ok (.ifCond .ne 6, 3) := by decide +kernel
theorem dX8_frameAt_32 : decode cX8_frameAt 32 = .ok (.bipush (-5), 2) := by decide +kernel
theorem dX8_frameAt_34 : decode cX8_frameAt 34 = .ok (.ireturn, 1) := by decide +kernel
theorem dX8_frameAt_35 : decode cX8_frameAt 35 = .ok (.aload_n 2, 1) := by decide +kernel
theorem dX8_frameAt_36 : decode cX8_frameAt 36 = .ok (.getfield 236, 3) := by decide +kernel
theorem dX8_frameAt_39 : decode cX8_frameAt 39 = .ok (.iload_n 3, 1) := by decide +kernel
theorem dX8_frameAt_40 : decode cX8_frameAt 40 = .ok (.iaload, 1) := by decide +kernel
theorem dX8_frameAt_41 : decode cX8_frameAt 41 = .ok (.aload_n 2, 1) := by decide +kernel
theorem dX8_frameAt_42 : decode cX8_frameAt 42 = .ok (.getfield 238, 3) := by decide +kernel
theorem dX8_frameAt_45 : decode cX8_frameAt 45 = .ok (.iload_n 3, 1) := by decide +kernel
theorem dX8_frameAt_46 : decode cX8_frameAt 46 = .ok (.iaload, 1) := by decide +kernel
theorem dX8_frameAt_47 : decode cX8_frameAt 47 = .ok (.iload_n 1, 1) := by decide +kernel
theorem dX8_frameAt_48 : decode cX8_frameAt 48 = .ok (.iadd, 1) := by decide +kernel
theorem dX8_frameAt_49 : decode cX8_frameAt 49 = .ok (.aload_n 2, 1) := by decide +kernel
theorem dX8_frameAt_50 : decode cX8_frameAt 50 = .ok (.iload_n 3, 1) := by decide +kernel
theorem dX8_frameAt_51 : decode cX8_frameAt 51 = .ok (.invokevirtual 227, 3) := by decide +kernel
theorem dX8_frameAt_54 : decode cX8_frameAt 54 = .ok (.isub, 1) := by decide +kernel
theorem dX8_frameAt_55 : decode cX8_frameAt 55 = .ok (.invokestatic 239, 3) := by decide +kernel
theorem dX8_frameAt_58 : decode cX8_frameAt 58 = .ok (.ireturn, 1) := by decide +kernel
set_option maxRecDepth 20000 in
theorem ggX8_frame_X6_hasFrame : GoodIn wsX8_frame wsX6_hasFrame := goodIn_r _ [11, 12, 13, 14, 15, 10, 16, 17, 67, 68, 69, 70, 71] (by decide +kernel) (by decide +kernel)
set_option maxRecDepth 20000 in
theorem gX8_frame_X6_hasFrame : GoodIn wsX8_frame (wsV RX8 93 RX6 yX6_hasFrame wsX6_hasFrame) := goodIn_app (goodIn_of _ (by decide +kernel)) ggX8_frame_X6_hasFrame
set_option maxRecDepth 20000 in
theorem ggX8_frame_X8_isWithin : GoodIn wsX8_frame wsX8_isWithin := goodIn_r _ [21] (by decide +kernel) (by decide +kernel)
set_option maxRecDepth 20000 in
theorem gX8_frame_X8_isWithin : GoodIn wsX8_frame (va_wsS RX8 47 yX8_isWithin wsX8_isWithin) := goodIn_app (goodIn_of _ (by decide +kernel)) ggX8_frame_X8_isWithin
set_option maxRecDepth 20000 in
theorem ggX8_frame_X8_slotOf : GoodIn wsX8_frame wsX8_slotOf := goodIn_r _ [24] (by decide +kernel) (by decide +kernel)
set_option maxRecDepth 20000 in
theorem gX8_frame_X8_slotOf : GoodIn wsX8_frame (va_wsS RX8 97 yX8_slotOf wsX8_slotOf) := goodIn_app (goodIn_of _ (by decide +kernel)) ggX8_frame_X8_slotOf
set_option maxRecDepth 20000 in
theorem ggX8_frame_X4_positionOf : GoodIn wsX8_frame wsX4_positionOf := goodIn_r _ [29, 30, 31, 32, 33, 19, 20, 21, 34, 35, 36, 28, 37, 72, 73, 74, 75, 76] (by decide +kernel) (by decide +kernel)
set_option maxRecDepth 20000 in
theorem gX8_frame_X4_positionOf : GoodIn wsX8_frame (wsV RX8 242 RX4 yX4_positionOf wsX4_positionOf) := goodIn_app (goodIn_of _ (by decide +kernel)) ggX8_frame_X4_positionOf
set_option maxRecDepth 20000 in
theorem ggX8_frame_X6_goodHoles : GoodIn wsX8_frame wsX6_goodHoles := goodIn_r _ [41, 42, 43, 44, 45, 46, 47, 48, 49, 67, 68, 69, 70, 71] (by decide +kernel) (by decide +kernel)
set_option maxRecDepth 20000 in
theorem gX8_frame_X6_goodHoles : GoodIn wsX8_frame (wsV RX8 104 RX6 yX6_goodHoles wsX6_goodHoles) := goodIn_app (goodIn_of _ (by decide +kernel)) ggX8_frame_X6_goodHoles
theorem dX8_frame_0 : decode cX8_frame 0 = .ok (.aload_n 0, 1) := by decide +kernel
theorem dX8_frame_1 : decode cX8_frame 1 = .ok (.getfield 12, 3) := by decide +kernel
theorem dX8_frame_4 : decode cX8_frame 4 = .ok (.getfield 51, 3) := by decide +kernel
theorem dX8_frame_7 : decode cX8_frame 7 = .ok (.astore 4, 2) := by decide +kernel
theorem dX8_frame_9 : decode cX8_frame 9 = .ok (.aload 4, 2) := by decide +kernel
theorem dX8_frame_11 : decode cX8_frame 11 = .ok (.iload_n 1, 1) := by decide +kernel
theorem dX8_frame_12 : decode cX8_frame 12 = .ok (.iload_n 2, 1) := by decide +kernel
theorem dX8_frame_13 : decode cX8_frame 13 = .ok (.invokevirtual 93, 3) := by decide +kernel
theorem dX8_frame_16 : decode cX8_frame 16 = .ok (.ifCond .ne 5, 3) := by decide +kernel
theorem dX8_frame_19 : decode cX8_frame 19 = .ok (.iconst (-1), 1) := by decide +kernel
theorem dX8_frame_20 : decode cX8_frame 20 = .ok (.ireturn, 1) := by decide +kernel
theorem dX8_frame_21 : decode cX8_frame 21 = .ok (.iload_n 3, 1) := by decide +kernel
theorem dX8_frame_22 : decode cX8_frame 22 = .ok (.iconst 0, 1) := by decide +kernel
theorem dX8_frame_23 : decode cX8_frame 23 = .ok (.iconst 3, 1) := by decide +kernel
theorem dX8_frame_24 : decode cX8_frame 24 = .ok (.invokestatic 47, 3) := by decide +kernel
theorem dX8_frame_27 : decode cX8_frame 27 = .ok (.ifCond .ne 6, 3) := by decide +kernel
theorem dX8_frame_30 : decode cX8_frame 30 = .ok (.bipush (-2), 2) := by decide +kernel
theorem dX8_frame_32 : decode cX8_frame 32 = .ok (.ireturn, 1) := by decide +kernel
theorem dX8_frame_33 : decode cX8_frame 33 = .ok (.iload_n 1, 1) := by decide +kernel
theorem dX8_frame_34 : decode cX8_frame 34 = .ok (.iload_n 2, 1) := by decide +kernel
theorem dX8_frame_35 : decode cX8_frame 35 = .ok (.invokestatic 97, 3) := by decide +kernel
theorem dX8_frame_38 : decode cX8_frame 38 = .ok (.istore 5, 2) := by decide +kernel
theorem dX8_frame_40 : decode cX8_frame 40 = .ok (.iload_n 3, 1) := by decide +kernel
theorem dX8_frame_41 : decode cX8_frame 41 = .ok (.tableswitch 61 0 2 #[27, 43, 52], 27) := by decide +kernel
theorem dX8_frame_68 : decode cX8_frame 68 = .ok (.aload_n 0, 1) := by decide +kernel
theorem dX8_frame_69 : decode cX8_frame 69 = .ok (.getfield 12, 3) := by decide +kernel
theorem dX8_frame_72 : decode cX8_frame 72 = .ok (.getfield 61, 3) := by decide +kernel
theorem dX8_frame_75 : decode cX8_frame 75 = .ok (.getfield 64, 3) := by decide +kernel
theorem dX8_frame_78 : decode cX8_frame 78 = .ok (.iload_n 1, 1) := by decide +kernel
theorem dX8_frame_79 : decode cX8_frame 79 = .ok (.iload_n 2, 1) := by decide +kernel
theorem dX8_frame_80 : decode cX8_frame 80 = .ok (.invokevirtual 242, 3) := by decide +kernel
theorem dX8_frame_83 : decode cX8_frame 83 = .ok (.ireturn, 1) := by decide +kernel
theorem dX8_frame_84 : decode cX8_frame 84 = .ok (.aload 4, 2) := by decide +kernel
theorem dX8_frame_86 : decode cX8_frame 86 = .ok (.getfield 100, 3) := by decide +kernel
theorem dX8_frame_89 : decode cX8_frame 89 = .ok (.iload 5, 2) := by decide +kernel
theorem dX8_frame_91 : decode cX8_frame 91 = .ok (.iaload, 1) := by decide +kernel
theorem dX8_frame_92 : decode cX8_frame 92 = .ok (.ireturn, 1) := by decide +kernel
theorem dX8_frame_93 : decode cX8_frame 93 = .ok (.aload 4, 2) := by decide +kernel
theorem dX8_frame_95 : decode cX8_frame 95 = .ok (.getfield 245, 3) := by decide +kernel
theorem dX8_frame_98 : decode cX8_frame 98 = .ok (.iload 5, 2) := by decide +kernel
theorem dX8_frame_100 : decode cX8_frame 100 = .ok (.iaload, 1) := by decide +kernel
theorem dX8_frame_101 : decode cX8_frame 101 = .ok (.ireturn, 1) := by decide +kernel
theorem dX8_frame_102 : decode cX8_frame 102 = .ok (.aload 4, 2) := by decide +kernel
theorem dX8_frame_104 : decode cX8_frame 104 = .ok (.iload 5, 2) := by decide +kernel
theorem dX8_frame_106 : decode cX8_frame 106 = .ok (.invokevirtual 104, 3) := by decide +kernel
theorem dX8_frame_109 : decode cX8_frame 109 = .ok (.iconst 2, 1) := by decide +kernel
theorem dX8_frame_110 : decode cX8_frame 110 = .ok (.if_icmp .lt 7, 3) := by decide +kernel
theorem dX8_frame_113 : decode cX8_frame 113 = .ok (.iconst 1, 1) := by decide +kernel
theorem dX8_frame_114 : decode cX8_frame 114 = .ok (.goto 4, 3) := by decide +kernel
theorem dX8_frame_117 : decode cX8_frame 117 = .ok (.iconst 0, 1) := by decide +kernel
theorem dX8_frame_118 : decode cX8_frame 118 = .ok (.ireturn, 1) := by decide +kernel
set_option maxRecDepth 20000 in
theorem ggX8_show_X2_hasShow : GoodIn wsX8_show wsX2_hasShow := goodIn_r _ [8, 9, 21, 22, 23, 24, 25, 26, 27, 28] (by decide +kernel) (by decide +kernel)
set_option maxRecDepth 20000 in
theorem gX8_show_X2_hasShow : GoodIn wsX8_show (wsV RX8 139 RX2 yX2_hasShow wsX2_hasShow) := goodIn_app (goodIn_of _ (by decide +kernel)) ggX8_show_X2_hasShow
set_option maxRecDepth 20000 in
theorem ggX8_show_X8_isWithin : GoodIn wsX8_show wsX8_isWithin := goodIn_r _ [13] (by decide +kernel) (by decide +kernel)
set_option maxRecDepth 20000 in
theorem gX8_show_X8_isWithin : GoodIn wsX8_show (va_wsS RX8 47 yX8_isWithin wsX8_isWithin) := goodIn_app (goodIn_of _ (by decide +kernel)) ggX8_show_X8_isWithin
theorem dX8_show_0 : decode cX8_show 0 = .ok (.aload_n 0, 1) := by decide +kernel
theorem dX8_show_1 : decode cX8_show 1 = .ok (.getfield 12, 3) := by decide +kernel
theorem dX8_show_4 : decode cX8_show 4 = .ok (.iload_n 1, 1) := by decide +kernel
theorem dX8_show_5 : decode cX8_show 5 = .ok (.invokevirtual 139, 3) := by decide +kernel
theorem dX8_show_8 : decode cX8_show 8 = .ok (.ifCond .ne 5, 3) := by decide +kernel
theorem dX8_show_11 : decode cX8_show 11 = .ok (.iconst (-1), 1) := by decide +kernel
theorem dX8_show_12 : decode cX8_show 12 = .ok (.ireturn, 1) := by decide +kernel
theorem dX8_show_13 : decode cX8_show 13 = .ok (.iload_n 2, 1) := by decide +kernel
theorem dX8_show_14 : decode cX8_show 14 = .ok (.iconst 0, 1) := by decide +kernel
theorem dX8_show_15 : decode cX8_show 15 = .ok (.bipush 7, 2) := by decide +kernel
theorem dX8_show_17 : decode cX8_show 17 = .ok (.invokestatic 47, 3) := by decide +kernel
theorem dX8_show_20 : decode cX8_show 20 = .ok (.ifCond .ne 6, 3) := by decide +kernel
theorem dX8_show_23 : decode cX8_show 23 = .ok (.bipush (-2), 2) := by decide +kernel
theorem dX8_show_25 : decode cX8_show 25 = .ok (.ireturn, 1) := by decide +kernel
theorem dX8_show_26 : decode cX8_show 26 = .ok (.aload_n 0, 1) := by decide +kernel
theorem dX8_show_27 : decode cX8_show 27 = .ok (.getfield 12, 3) := by decide +kernel
theorem dX8_show_30 : decode cX8_show 30 = .ok (.getfield 142, 3) := by decide +kernel
theorem dX8_show_33 : decode cX8_show 33 = .ok (.iload_n 1, 1) := by decide +kernel
theorem dX8_show_34 : decode cX8_show 34 = .ok (.aaload, 1) := by decide +kernel
theorem dX8_show_35 : decode cX8_show 35 = .ok (.getfield 146, 3) := by decide +kernel
theorem dX8_show_38 : decode cX8_show 38 = .ok (.iload_n 2, 1) := by decide +kernel
theorem dX8_show_39 : decode cX8_show 39 = .ok (.iaload, 1) := by decide +kernel
theorem dX8_show_40 : decode cX8_show 40 = .ok (.ireturn, 1) := by decide +kernel
set_option maxRecDepth 20000 in
theorem ggX8_seen_X2_hasShow : GoodIn wsX8_seen wsX2_hasShow := goodIn_r _ [8, 9, 23, 24, 25, 26, 27, 28, 29, 30] (by decide +kernel) (by decide +kernel)
set_option maxRecDepth 20000 in
theorem gX8_seen_X2_hasShow : GoodIn wsX8_seen (wsV RX8 139 RX2 yX2_hasShow wsX2_hasShow) := goodIn_app (goodIn_of _ (by decide +kernel)) ggX8_seen_X2_hasShow
set_option maxRecDepth 20000 in
theorem ggX8_seen_X5_hasUnit : GoodIn wsX8_seen wsX5_hasUnit := goodIn_r _ [14, 15, 31, 32] (by decide +kernel) (by decide +kernel)
set_option maxRecDepth 20000 in
theorem gX8_seen_X5_hasUnit : GoodIn wsX8_seen (wsV RX8 248 RX5 yX5_hasUnit wsX5_hasUnit) := goodIn_app (goodIn_of _ (by decide +kernel)) ggX8_seen_X5_hasUnit
theorem dX8_seen_0 : decode cX8_seen 0 = .ok (.aload_n 0, 1) := by decide +kernel
theorem dX8_seen_1 : decode cX8_seen 1 = .ok (.getfield 12, 3) := by decide +kernel
theorem dX8_seen_4 : decode cX8_seen 4 = .ok (.iload_n 1, 1) := by decide +kernel
theorem dX8_seen_5 : decode cX8_seen 5 = .ok (.invokevirtual 139, 3) := by decide +kernel
theorem dX8_seen_8 : decode cX8_seen 8 = .ok (.ifCond .ne 5, 3) := by decide +kernel
theorem dX8_seen_11 : decode cX8_seen 11 = .ok (.iconst (-1), 1) := by decide +kernel
theorem dX8_seen_12 : decode cX8_seen 12 = .ok (.ireturn, 1) := by decide +kernel
theorem dX8_seen_13 : decode cX8_seen 13 = .ok (.aload_n 0, 1) := by decide +kernel
theorem dX8_seen_14 : decode cX8_seen 14 = .ok (.getfield 12, 3) := by decide +kernel
theorem dX8_seen_17 : decode cX8_seen 17 = .ok (.getfield 142, 3) := by decide +kernel
theorem dX8_seen_20 : decode cX8_seen 20 = .ok (.iload_n 1, 1) := by decide +kernel
theorem dX8_seen_21 : decode cX8_seen 21 = .ok (.aaload, 1) := by decide +kernel
theorem dX8_seen_22 : decode cX8_seen 22 = .ok (.iload_n 2, 1) := by decide +kernel
theorem dX8_seen_23 : decode cX8_seen 23 = .ok (.invokevirtual 248, 3) := by decide +kernel
theorem dX8_seen_26 : decode cX8_seen 26 = .ok (.ifCond .ne 6, 3) := by decide +kernel
theorem dX8_seen_29 : decode cX8_seen 29 = .ok (.bipush (-2), 2) := by decide +kernel
theorem dX8_seen_31 : decode cX8_seen 31 = .ok (.ireturn, 1) := by decide +kernel
theorem dX8_seen_32 : decode cX8_seen 32 = .ok (.aload_n 0, 1) := by decide +kernel
theorem dX8_seen_33 : decode cX8_seen 33 = .ok (.getfield 12, 3) := by decide +kernel
theorem dX8_seen_36 : decode cX8_seen 36 = .ok (.getfield 142, 3) := by decide +kernel
theorem dX8_seen_39 : decode cX8_seen 39 = .ok (.iload_n 1, 1) := by decide +kernel
theorem dX8_seen_40 : decode cX8_seen 40 = .ok (.aaload, 1) := by decide +kernel
theorem dX8_seen_41 : decode cX8_seen 41 = .ok (.getfield 251, 3) := by decide +kernel
theorem dX8_seen_44 : decode cX8_seen 44 = .ok (.iload_n 2, 1) := by decide +kernel
theorem dX8_seen_45 : decode cX8_seen 45 = .ok (.iaload, 1) := by decide +kernel
theorem dX8_seen_46 : decode cX8_seen 46 = .ok (.ireturn, 1) := by decide +kernel
set_option maxRecDepth 20000 in
theorem ggX8_witness_X7_has : GoodIn wsX8_witness wsX7_has := goodIn_r _ [11, 12, 47, 48, 49, 50] (by decide +kernel) (by decide +kernel)
set_option maxRecDepth 20000 in
theorem gX8_witness_X7_has : GoodIn wsX8_witness (wsV RX8 254 RX7 yX7_has wsX7_has) := goodIn_app (goodIn_of _ (by decide +kernel)) ggX8_witness_X7_has
set_option maxRecDepth 20000 in
theorem ggX8_witness_X8_isWithin : GoodIn wsX8_witness wsX8_isWithin := goodIn_r _ [16] (by decide +kernel) (by decide +kernel)
set_option maxRecDepth 20000 in
theorem gX8_witness_X8_isWithin : GoodIn wsX8_witness (va_wsS RX8 47 yX8_isWithin wsX8_isWithin) := goodIn_app (goodIn_of _ (by decide +kernel)) ggX8_witness_X8_isWithin
set_option maxRecDepth 20000 in
theorem ggX8_witness_X5_shownWithin : GoodIn wsX8_witness wsX5_shownWithin := goodIn_r _ [21, 22, 23, 24, 25, 20, 26, 27, 51, 52] (by decide +kernel) (by decide +kernel)
set_option maxRecDepth 20000 in
theorem gX8_witness_X5_shownWithin : GoodIn wsX8_witness (wsV RX8 264 RX5 yX5_shownWithin wsX5_shownWithin) := goodIn_app (goodIn_of _ (by decide +kernel)) ggX8_witness_X5_shownWithin
set_option maxRecDepth 20000 in
theorem ggX8_witness_X5_scenesWithin : GoodIn wsX8_witness wsX5_scenesWithin := goodIn_r _ [31, 22, 23, 24, 25, 20, 26, 27, 51, 52] (by decide +kernel) (by decide +kernel)
set_option maxRecDepth 20000 in
theorem gX8_witness_X5_scenesWithin : GoodIn wsX8_witness (wsV RX8 267 RX5 yX5_scenesWithin wsX5_scenesWithin) := goodIn_app (goodIn_of _ (by decide +kernel)) ggX8_witness_X5_scenesWithin
theorem dX8_witness_0 : decode cX8_witness 0 = .ok (.aload_n 0, 1) := by decide +kernel
theorem dX8_witness_1 : decode cX8_witness 1 = .ok (.getfield 12, 3) := by decide +kernel
theorem dX8_witness_4 : decode cX8_witness 4 = .ok (.getfield 149, 3) := by decide +kernel
theorem dX8_witness_7 : decode cX8_witness 7 = .ok (.astore_n 3, 1) := by decide +kernel
theorem dX8_witness_8 : decode cX8_witness 8 = .ok (.aload_n 3, 1) := by decide +kernel
theorem dX8_witness_9 : decode cX8_witness 9 = .ok (.iload_n 1, 1) := by decide +kernel
theorem dX8_witness_10 : decode cX8_witness 10 = .ok (.invokevirtual 254, 3) := by decide +kernel
theorem dX8_witness_13 : decode cX8_witness 13 = .ok (.ifCond .ne 5, 3) := by decide +kernel
theorem dX8_witness_16 : decode cX8_witness 16 = .ok (.iconst (-1), 1) := by decide +kernel
theorem dX8_witness_17 : decode cX8_witness 17 = .ok (.ireturn, 1) := by decide +kernel
theorem dX8_witness_18 : decode cX8_witness 18 = .ok (.iload_n 2, 1) := by decide +kernel
theorem dX8_witness_19 : decode cX8_witness 19 = .ok (.iconst 0, 1) := by decide +kernel
theorem dX8_witness_20 : decode cX8_witness 20 = .ok (.iconst 5, 1) := by decide +kernel
theorem dX8_witness_21 : decode cX8_witness 21 = .ok (.invokestatic 47, 3) := by decide +kernel
theorem dX8_witness_24 : decode cX8_witness 24 = .ok (.ifCond .ne 6, 3) := by decide +kernel
theorem dX8_witness_27 : decode cX8_witness 27 = .ok (.bipush (-2), 2) := by decide +kernel
theorem dX8_witness_29 : decode cX8_witness 29 = .ok (.ireturn, 1) := by decide +kernel
theorem dX8_witness_30 : decode cX8_witness 30 = .ok (.aload_n 3, 1) := by decide +kernel
theorem dX8_witness_31 : decode cX8_witness 31 = .ok (.getfield 255, 3) := by decide +kernel
theorem dX8_witness_34 : decode cX8_witness 34 = .ok (.iload_n 1, 1) := by decide +kernel
theorem dX8_witness_35 : decode cX8_witness 35 = .ok (.iaload, 1) := by decide +kernel
theorem dX8_witness_36 : decode cX8_witness 36 = .ok (.istore 4, 2) := by decide +kernel
theorem dX8_witness_38 : decode cX8_witness 38 = .ok (.aload_n 3, 1) := by decide +kernel
theorem dX8_witness_39 : decode cX8_witness 39 = .ok (.getfield 258, 3) := by decide +kernel
theorem dX8_witness_42 : decode cX8_witness 42 = .ok (.iload_n 1, 1) := by decide +kernel
theorem dX8_witness_43 : decode cX8_witness 43 = .ok (.iaload, 1) := by decide +kernel
theorem dX8_witness_44 : decode cX8_witness 44 = .ok (.istore 5, 2) := by decide +kernel
theorem dX8_witness_46 : decode cX8_witness 46 = .ok (.aload_n 0, 1) := by decide +kernel
theorem dX8_witness_47 : decode cX8_witness 47 = .ok (.getfield 12, 3) := by decide +kernel
theorem dX8_witness_50 : decode cX8_witness 50 = .ok (.getfield 142, 3) := by decide +kernel
theorem dX8_witness_53 : decode cX8_witness 53 = .ok (.aload_n 3, 1) := by decide +kernel
theorem dX8_witness_54 : decode cX8_witness 54 = .ok (.getfield 261, 3) := by decide +kernel
theorem dX8_witness_57 : decode cX8_witness 57 = .ok (.iload_n 1, 1) := by decide +kernel
theorem dX8_witness_58 : decode cX8_witness 58 = .ok (.iaload, 1) := by decide +kernel
theorem dX8_witness_59 : decode cX8_witness 59 = .ok (.aaload, 1) := by decide +kernel
theorem dX8_witness_60 : decode cX8_witness 60 = .ok (.astore 6, 2) := by decide +kernel
theorem dX8_witness_62 : decode cX8_witness 62 = .ok (.iload_n 2, 1) := by decide +kernel
theorem dX8_witness_63 : decode cX8_witness 63 = .ok (.tableswitch 72 0 4 #[33, 40, 43, 46, 56], 33) := by decide +kernel
theorem dX8_witness_96 : decode cX8_witness 96 = .ok (.aload_n 3, 1) := by decide +kernel
theorem dX8_witness_97 : decode cX8_witness 97 = .ok (.getfield 261, 3) := by decide +kernel
theorem dX8_witness_100 : decode cX8_witness 100 = .ok (.iload_n 1, 1) := by decide +kernel
theorem dX8_witness_101 : decode cX8_witness 101 = .ok (.iaload, 1) := by decide +kernel
theorem dX8_witness_102 : decode cX8_witness 102 = .ok (.ireturn, 1) := by decide +kernel
theorem dX8_witness_103 : decode cX8_witness 103 = .ok (.iload 4, 2) := by decide +kernel
theorem dX8_witness_105 : decode cX8_witness 105 = .ok (.ireturn, 1) := by decide +kernel
theorem dX8_witness_106 : decode cX8_witness 106 = .ok (.iload 5, 2) := by decide +kernel
theorem dX8_witness_108 : decode cX8_witness 108 = .ok (.ireturn, 1) := by decide +kernel
theorem dX8_witness_109 : decode cX8_witness 109 = .ok (.aload 6, 2) := by decide +kernel
theorem dX8_witness_111 : decode cX8_witness 111 = .ok (.iload 4, 2) := by decide +kernel
theorem dX8_witness_113 : decode cX8_witness 113 = .ok (.iload 5, 2) := by decide +kernel
theorem dX8_witness_115 : decode cX8_witness 115 = .ok (.invokevirtual 264, 3) := by decide +kernel
theorem dX8_witness_118 : decode cX8_witness 118 = .ok (.ireturn, 1) := by decide +kernel
theorem dX8_witness_119 : decode cX8_witness 119 = .ok (.iload 5, 2) := by decide +kernel
theorem dX8_witness_121 : decode cX8_witness 121 = .ok (.iload 4, 2) := by decide +kernel
theorem dX8_witness_123 : decode cX8_witness 123 = .ok (.isub, 1) := by decide +kernel
theorem dX8_witness_124 : decode cX8_witness 124 = .ok (.aload 6, 2) := by decide +kernel
theorem dX8_witness_126 : decode cX8_witness 126 = .ok (.iload 4, 2) := by decide +kernel
theorem dX8_witness_128 : decode cX8_witness 128 = .ok (.iload 5, 2) := by decide +kernel
theorem dX8_witness_130 : decode cX8_witness 130 = .ok (.invokevirtual 264, 3) := by decide +kernel
theorem dX8_witness_133 : decode cX8_witness 133 = .ok (.isub, 1) := by decide +kernel
theorem dX8_witness_134 : decode cX8_witness 134 = .ok (.ireturn, 1) := by decide +kernel
theorem dX8_witness_135 : decode cX8_witness 135 = .ok (.aload 6, 2) := by decide +kernel
theorem dX8_witness_137 : decode cX8_witness 137 = .ok (.iload 4, 2) := by decide +kernel
theorem dX8_witness_139 : decode cX8_witness 139 = .ok (.iload 5, 2) := by decide +kernel
theorem dX8_witness_141 : decode cX8_witness 141 = .ok (.invokevirtual 267, 3) := by decide +kernel
theorem dX8_witness_144 : decode cX8_witness 144 = .ok (.ireturn, 1) := by decide +kernel
set_option maxRecDepth 20000 in
theorem ggX8_saw_X7_has : GoodIn wsX8_saw wsX7_has := goodIn_r _ [12, 13, 46, 47, 48, 49] (by decide +kernel) (by decide +kernel)
set_option maxRecDepth 20000 in
theorem gX8_saw_X7_has : GoodIn wsX8_saw (wsV RX8 254 RX7 yX7_has wsX7_has) := goodIn_app (goodIn_of _ (by decide +kernel)) ggX8_saw_X7_has
set_option maxRecDepth 20000 in
theorem ggX8_saw_X6_hasScene : GoodIn wsX8_saw wsX6_hasScene := goodIn_r _ [18, 19, 50, 51, 52, 53, 54] (by decide +kernel) (by decide +kernel)
set_option maxRecDepth 20000 in
theorem gX8_saw_X6_hasScene : GoodIn wsX8_saw (wsV RX8 203 RX6 yX6_hasScene wsX6_hasScene) := goodIn_app (goodIn_of _ (by decide +kernel)) ggX8_saw_X6_hasScene
set_option maxRecDepth 20000 in
theorem ggX8_saw_X5_framesWithin : GoodIn wsX8_saw wsX5_framesWithin := goodIn_r _ [24, 25, 26, 27, 28, 23, 29, 30, 55, 56] (by decide +kernel) (by decide +kernel)
set_option maxRecDepth 20000 in
theorem gX8_saw_X5_framesWithin : GoodIn wsX8_saw (wsV RX8 270 RX5 yX5_framesWithin wsX5_framesWithin) := goodIn_app (goodIn_of _ (by decide +kernel)) ggX8_saw_X5_framesWithin
theorem dX8_saw_0 : decode cX8_saw 0 = .ok (.aload_n 0, 1) := by decide +kernel
theorem dX8_saw_1 : decode cX8_saw 1 = .ok (.getfield 12, 3) := by decide +kernel
theorem dX8_saw_4 : decode cX8_saw 4 = .ok (.getfield 149, 3) := by decide +kernel
theorem dX8_saw_7 : decode cX8_saw 7 = .ok (.astore_n 3, 1) := by decide +kernel
theorem dX8_saw_8 : decode cX8_saw 8 = .ok (.aload_n 3, 1) := by decide +kernel
theorem dX8_saw_9 : decode cX8_saw 9 = .ok (.iload_n 1, 1) := by decide +kernel
theorem dX8_saw_10 : decode cX8_saw 10 = .ok (.invokevirtual 254, 3) := by decide +kernel
theorem dX8_saw_13 : decode cX8_saw 13 = .ok (.ifCond .eq 17, 3) := by decide +kernel
theorem dX8_saw_16 : decode cX8_saw 16 = .ok (.aload_n 0, 1) := by decide +kernel
theorem dX8_saw_17 : decode cX8_saw 17 = .ok (.getfield 12, 3) := by decide +kernel
theorem dX8_saw_20 : decode cX8_saw 20 = .ok (.getfield 51, 3) := by decide +kernel
theorem dX8_saw_23 : decode cX8_saw 23 = .ok (.iload_n 2, 1) := by decide +kernel
theorem dX8_saw_24 : decode cX8_saw 24 = .ok (.invokevirtual 203, 3) := by decide +kernel
theorem dX8_saw_27 : decode cX8_saw 27 = .ok (.ifCond .ne 5, 3) := by decide +kernel
theorem dX8_saw_30 : decode cX8_saw 30 = .ok (.iconst (-1), 1) := by decide +kernel
theorem dX8_saw_31 : decode cX8_saw 31 = .ok (.ireturn, 1) := by decide +kernel
theorem dX8_saw_32 : decode cX8_saw 32 = .ok (.aload_n 0, 1) := by decide +kernel
theorem dX8_saw_33 : decode cX8_saw 33 = .ok (.getfield 12, 3) := by decide +kernel
theorem dX8_saw_36 : decode cX8_saw 36 = .ok (.getfield 142, 3) := by decide +kernel
theorem dX8_saw_39 : decode cX8_saw 39 = .ok (.aload_n 3, 1) := by decide +kernel
theorem dX8_saw_40 : decode cX8_saw 40 = .ok (.getfield 261, 3) := by decide +kernel
theorem dX8_saw_43 : decode cX8_saw 43 = .ok (.iload_n 1, 1) := by decide +kernel
theorem dX8_saw_44 : decode cX8_saw 44 = .ok (.iaload, 1) := by decide +kernel
theorem dX8_saw_45 : decode cX8_saw 45 = .ok (.aaload, 1) := by decide +kernel
theorem dX8_saw_46 : decode cX8_saw 46 = .ok (.astore 4, 2) := by decide +kernel
theorem dX8_saw_48 : decode cX8_saw 48 = .ok (.aload 4, 2) := by decide +kernel
theorem dX8_saw_50 : decode cX8_saw 50 = .ok (.iload_n 2, 1) := by decide +kernel
theorem dX8_saw_51 : decode cX8_saw 51 = .ok (.aload_n 3, 1) := by decide +kernel
theorem dX8_saw_52 : decode cX8_saw 52 = .ok (.getfield 255, 3) := by decide +kernel
theorem dX8_saw_55 : decode cX8_saw 55 = .ok (.iload_n 1, 1) := by decide +kernel
theorem dX8_saw_56 : decode cX8_saw 56 = .ok (.iaload, 1) := by decide +kernel
theorem dX8_saw_57 : decode cX8_saw 57 = .ok (.aload_n 3, 1) := by decide +kernel
theorem dX8_saw_58 : decode cX8_saw 58 = .ok (.getfield 258, 3) := by decide +kernel
theorem dX8_saw_61 : decode cX8_saw 61 = .ok (.iload_n 1, 1) := by decide +kernel
theorem dX8_saw_62 : decode cX8_saw 62 = .ok (.iaload, 1) := by decide +kernel
theorem dX8_saw_63 : decode cX8_saw 63 = .ok (.invokevirtual 270, 3) := by decide +kernel
theorem dX8_saw_66 : decode cX8_saw 66 = .ok (.ireturn, 1) := by decide +kernel
set_option maxRecDepth 20000 in
theorem ggX8_differ_X7_has : GoodIn wsX8_differ wsX7_has := goodIn_r _ [11, 12, 46, 47, 48, 49] (by decide +kernel) (by decide +kernel)
set_option maxRecDepth 20000 in
theorem gX8_differ_X7_has : GoodIn wsX8_differ (wsV RX8 254 RX7 yX7_has wsX7_has) := goodIn_app (goodIn_of _ (by decide +kernel)) ggX8_differ_X7_has
set_option maxRecDepth 20000 in
theorem ggX8_differ_X5_scenesWithin : GoodIn wsX8_differ wsX5_scenesWithin := goodIn_r _ [17, 18, 19, 20, 21, 16, 22, 23, 50, 51] (by decide +kernel) (by decide +kernel)
set_option maxRecDepth 20000 in
theorem gX8_differ_X5_scenesWithin : GoodIn wsX8_differ (wsV RX8 267 RX5 yX5_scenesWithin wsX5_scenesWithin) := goodIn_app (goodIn_of _ (by decide +kernel)) ggX8_differ_X5_scenesWithin
set_option maxRecDepth 20000 in
theorem ggX8_differ_J6_bitCount_0f7a4 : GoodIn wsX8_differ wsJ6_bitCount_0f7a4 := goodIn_r _ [27, 28, 29, 30] (by decide +kernel) (by decide +kernel)
set_option maxRecDepth 20000 in
theorem gX8_differ_J6_bitCount_0f7a4 : GoodIn wsX8_differ (va_wsS RX8 108 yJ6_bitCount_0f7a4 wsJ6_bitCount_0f7a4) := goodIn_app (goodIn_of _ (by decide +kernel)) ggX8_differ_J6_bitCount_0f7a4
theorem dX8_differ_0 : decode cX8_differ 0 = .ok (.aload_n 0, 1) := by decide +kernel
theorem dX8_differ_1 : decode cX8_differ 1 = .ok (.getfield 12, 3) := by decide +kernel
theorem dX8_differ_4 : decode cX8_differ 4 = .ok (.getfield 149, 3) := by decide +kernel
theorem dX8_differ_7 : decode cX8_differ 7 = .ok (.astore_n 3, 1) := by decide +kernel
theorem dX8_differ_8 : decode cX8_differ 8 = .ok (.aload_n 3, 1) := by decide +kernel
theorem dX8_differ_9 : decode cX8_differ 9 = .ok (.iload_n 1, 1) := by decide +kernel
theorem dX8_differ_10 : decode cX8_differ 10 = .ok (.invokevirtual 254, 3) := by decide +kernel
theorem dX8_differ_13 : decode cX8_differ 13 = .ok (.ifCond .eq 11, 3) := by decide +kernel
theorem dX8_differ_16 : decode cX8_differ 16 = .ok (.aload_n 3, 1) := by decide +kernel
theorem dX8_differ_17 : decode cX8_differ 17 = .ok (.iload_n 2, 1) := by decide +kernel
theorem dX8_differ_18 : decode cX8_differ 18 = .ok (.invokevirtual 254, 3) := by decide +kernel
theorem dX8_differ_21 : decode cX8_differ 21 = .ok (.ifCond .ne 5, 3) := by decide +kernel
theorem dX8_differ_24 : decode cX8_differ 24 = .ok (.iconst (-1), 1) := by decide +kernel
theorem dX8_differ_25 : decode cX8_differ 25 = .ok (.ireturn, 1) := by decide +kernel
theorem dX8_differ_26 : decode cX8_differ 26 = .ok (.aload_n 3, 1) := by decide +kernel
theorem dX8_differ_27 : decode cX8_differ 27 = .ok (.getfield 261, 3) := by decide +kernel
theorem dX8_differ_30 : decode cX8_differ 30 = .ok (.iload_n 1, 1) := by decide +kernel
theorem dX8_differ_31 : decode cX8_differ 31 = .ok (.iaload, 1) := by decide +kernel
theorem dX8_differ_32 : decode cX8_differ 32 = .ok (.aload_n 3, 1) := by decide +kernel
theorem dX8_differ_33 : decode cX8_differ 33 = .ok (.getfield 261, 3) := by decide +kernel
theorem dX8_differ_36 : decode cX8_differ 36 = .ok (.iload_n 2, 1) := by decide +kernel
theorem dX8_differ_37 : decode cX8_differ 37 = .ok (.iaload, 1) := by decide +kernel
theorem dX8_differ_38 : decode cX8_differ 38 = .ok (.if_icmp .eq 6, 3) := by decide +kernel
theorem dX8_differ_41 : decode cX8_differ 41 = .ok (.bipush (-4), 2) := by decide +kernel
theorem dX8_differ_43 : decode cX8_differ 43 = .ok (.ireturn, 1) := by decide +kernel
theorem dX8_differ_44 : decode cX8_differ 44 = .ok (.aload_n 0, 1) := by decide +kernel
theorem dX8_differ_45 : decode cX8_differ 45 = .ok (.getfield 12, 3) := by decide +kernel
theorem dX8_differ_48 : decode cX8_differ 48 = .ok (.getfield 142, 3) := by decide +kernel
theorem dX8_differ_51 : decode cX8_differ 51 = .ok (.aload_n 3, 1) := by decide +kernel
theorem dX8_differ_52 : decode cX8_differ 52 = .ok (.getfield 261, 3) := by decide +kernel
theorem dX8_differ_55 : decode cX8_differ 55 = .ok (.iload_n 1, 1) := by decide +kernel
theorem dX8_differ_56 : decode cX8_differ 56 = .ok (.iaload, 1) := by decide +kernel
theorem dX8_differ_57 : decode cX8_differ 57 = .ok (.aaload, 1) := by decide +kernel
theorem dX8_differ_58 : decode cX8_differ 58 = .ok (.astore 4, 2) := by decide +kernel
theorem dX8_differ_60 : decode cX8_differ 60 = .ok (.aload 4, 2) := by decide +kernel
theorem dX8_differ_62 : decode cX8_differ 62 = .ok (.aload_n 3, 1) := by decide +kernel
theorem dX8_differ_63 : decode cX8_differ 63 = .ok (.getfield 255, 3) := by decide +kernel
theorem dX8_differ_66 : decode cX8_differ 66 = .ok (.iload_n 1, 1) := by decide +kernel
theorem dX8_differ_67 : decode cX8_differ 67 = .ok (.iaload, 1) := by decide +kernel
theorem dX8_differ_68 : decode cX8_differ 68 = .ok (.aload_n 3, 1) := by decide +kernel
theorem dX8_differ_69 : decode cX8_differ 69 = .ok (.getfield 258, 3) := by decide +kernel
theorem dX8_differ_72 : decode cX8_differ 72 = .ok (.iload_n 1, 1) := by decide +kernel
theorem dX8_differ_73 : decode cX8_differ 73 = .ok (.iaload, 1) := by decide +kernel
theorem dX8_differ_74 : decode cX8_differ 74 = .ok (.invokevirtual 267, 3) := by decide +kernel
theorem dX8_differ_77 : decode cX8_differ 77 = .ok (.istore 5, 2) := by decide +kernel
theorem dX8_differ_79 : decode cX8_differ 79 = .ok (.aload 4, 2) := by decide +kernel
theorem dX8_differ_81 : decode cX8_differ 81 = .ok (.aload_n 3, 1) := by decide +kernel
theorem dX8_differ_82 : decode cX8_differ 82 = .ok (.getfield 255, 3) := by decide +kernel
theorem dX8_differ_85 : decode cX8_differ 85 = .ok (.iload_n 2, 1) := by decide +kernel
theorem dX8_differ_86 : decode cX8_differ 86 = .ok (.iaload, 1) := by decide +kernel
theorem dX8_differ_87 : decode cX8_differ 87 = .ok (.aload_n 3, 1) := by decide +kernel
theorem dX8_differ_88 : decode cX8_differ 88 = .ok (.getfield 258, 3) := by decide +kernel
theorem dX8_differ_91 : decode cX8_differ 91 = .ok (.iload_n 2, 1) := by decide +kernel
theorem dX8_differ_92 : decode cX8_differ 92 = .ok (.iaload, 1) := by decide +kernel
theorem dX8_differ_93 : decode cX8_differ 93 = .ok (.invokevirtual 267, 3) := by decide +kernel
theorem dX8_differ_96 : decode cX8_differ 96 = .ok (.istore 6, 2) := by decide +kernel
theorem dX8_differ_98 : decode cX8_differ 98 = .ok (.iload 5, 2) := by decide +kernel
theorem dX8_differ_100 : decode cX8_differ 100 = .ok (.iload 6, 2) := by decide +kernel
theorem dX8_differ_102 : decode cX8_differ 102 = .ok (.ixor, 1) := by decide +kernel
theorem dX8_differ_103 : decode cX8_differ 103 = .ok (.invokestatic 108, 3) := by decide +kernel
theorem dX8_differ_106 : decode cX8_differ 106 = .ok (.ireturn, 1) := by decide +kernel
set_option maxRecDepth 20000 in
theorem ggX8_next_X8_isWithin : GoodIn wsX8_next wsX8_isWithin := goodIn_r _ [10] (by decide +kernel) (by decide +kernel)
set_option maxRecDepth 20000 in
theorem gX8_next_X8_isWithin : GoodIn wsX8_next (va_wsS RX8 47 yX8_isWithin wsX8_isWithin) := goodIn_app (goodIn_of _ (by decide +kernel)) ggX8_next_X8_isWithin
set_option maxRecDepth 20000 in
theorem ggX8_next_X2_project : GoodIn wsX8_next wsX2_project := goodIn_r _ [15, 16, 17, 18, 19, 20, 21, 22, 23, 24, 25, 26, 27, 28, 29, 30, 31, 32, 33, 34, 14, 35, 36, 37, 38, 39, 40, 41, 42, 43, 9, 44, 45, 46, 47, 48, 49, 50, 51, 52, 53, 54, 55, 56, 57, 58, 59, 60, 61, 62, 63, 64, 65, 66, 67, 68, 69, 70, 71, 72, 73, 74, 75, 76, 77, 78, 79, 87, 88, 89, 90, 91, 92, 93, 94, 95, 96, 97, 98, 99, 100, 101, 102, 103, 104, 105, 106, 107, 108] (by decide +kernel) (by decide +kernel)
set_option maxRecDepth 20000 in
theorem gX8_next_X2_project : GoodIn wsX8_next (wsV RX8 273 RX2 yX2_project wsX2_project) := goodIn_app (goodIn_of _ (by decide +kernel)) ggX8_next_X2_project
theorem dX8_next_0 : decode cX8_next 0 = .ok (.iload_n 1, 1) := by decide +kernel
theorem dX8_next_1 : decode cX8_next 1 = .ok (.iconst 0, 1) := by decide +kernel
theorem dX8_next_2 : decode cX8_next 2 = .ok (.bipush 7, 2) := by decide +kernel
theorem dX8_next_4 : decode cX8_next 4 = .ok (.invokestatic 47, 3) := by decide +kernel
theorem dX8_next_7 : decode cX8_next 7 = .ok (.ifCond .ne 6, 3) := by decide +kernel
theorem dX8_next_10 : decode cX8_next 10 = .ok (.bipush (-2), 2) := by decide +kernel
theorem dX8_next_12 : decode cX8_next 12 = .ok (.ireturn, 1) := by decide +kernel
theorem dX8_next_13 : decode cX8_next 13 = .ok (.aload_n 0, 1) := by decide +kernel
theorem dX8_next_14 : decode cX8_next 14 = .ok (.getfield 12, 3) := by decide +kernel
theorem dX8_next_17 : decode cX8_next 17 = .ok (.getfield 61, 3) := by decide +kernel
theorem dX8_next_20 : decode cX8_next 20 = .ok (.getfield 64, 3) := by decide +kernel
theorem dX8_next_23 : decode cX8_next 23 = .ok (.getfield 82, 3) := by decide +kernel
theorem dX8_next_26 : decode cX8_next 26 = .ok (.ifCond .ne 6, 3) := by decide +kernel
theorem dX8_next_29 : decode cX8_next 29 = .ok (.bipush (-4), 2) := by decide +kernel
theorem dX8_next_31 : decode cX8_next 31 = .ok (.ireturn, 1) := by decide +kernel
theorem dX8_next_32 : decode cX8_next 32 = .ok (.aload_n 0, 1) := by decide +kernel
theorem dX8_next_33 : decode cX8_next 33 = .ok (.getfield 12, 3) := by decide +kernel
theorem dX8_next_36 : decode cX8_next 36 = .ok (.aload_n 0, 1) := by decide +kernel
theorem dX8_next_37 : decode cX8_next 37 = .ok (.getfield 43, 3) := by decide +kernel
theorem dX8_next_40 : decode cX8_next 40 = .ok (.invokevirtual 273, 3) := by decide +kernel
theorem dX8_next_43 : decode cX8_next 43 = .ok (.aload_n 0, 1) := by decide +kernel
theorem dX8_next_44 : decode cX8_next 44 = .ok (.getfield 43, 3) := by decide +kernel
theorem dX8_next_47 : decode cX8_next 47 = .ok (.getfield 146, 3) := by decide +kernel
theorem dX8_next_50 : decode cX8_next 50 = .ok (.iload_n 1, 1) := by decide +kernel
theorem dX8_next_51 : decode cX8_next 51 = .ok (.iaload, 1) := by decide +kernel
theorem dX8_next_52 : decode cX8_next 52 = .ok (.ireturn, 1) := by decide +kernel
set_option maxRecDepth 20000 in
theorem ggX8_count_X4_allFrames : GoodIn wsX8_count wsX4_allFrames := goodIn_r _ [22, 23, 24, 25, 26, 21, 27, 28, 29, 30, 31, 32, 33, 83, 84, 85, 86, 87] (by decide +kernel) (by decide +kernel)
set_option maxRecDepth 20000 in
theorem gX8_count_X4_allFrames : GoodIn wsX8_count (wsV RX8 277 RX4 yX4_allFrames wsX4_allFrames) := goodIn_app (goodIn_of _ (by decide +kernel)) ggX8_count_X4_allFrames
set_option maxRecDepth 20000 in
theorem ggX8_count_X6_allTornHoles : GoodIn wsX8_count wsX6_allTornHoles := goodIn_r _ [38, 39, 40, 41, 42, 37, 43, 44, 45, 46, 47, 48, 49, 50, 51, 52, 53, 54, 55, 76, 77, 78, 79, 80] (by decide +kernel) (by decide +kernel)
set_option maxRecDepth 20000 in
theorem gX8_count_X6_allTornHoles : GoodIn wsX8_count (wsV RX8 280 RX6 yX6_allTornHoles wsX6_allTornHoles) := goodIn_app (goodIn_of _ (by decide +kernel)) ggX8_count_X6_allTornHoles
set_option maxRecDepth 20000 in
theorem ggX8_count_X4_splicesFrom : GoodIn wsX8_count wsX4_splicesFrom := goodIn_r _ [59, 23, 60, 83, 84, 85, 86, 87] (by decide +kernel) (by decide +kernel)
set_option maxRecDepth 20000 in
theorem gX8_count_X4_splicesFrom : GoodIn wsX8_count (wsV RX8 283 RX4 yX4_splicesFrom wsX4_splicesFrom) := goodIn_app (goodIn_of _ (by decide +kernel)) ggX8_count_X4_splicesFrom
theorem dX8_count_0 : decode cX8_count 0 = .ok (.aload_n 0, 1) := by decide +kernel
theorem dX8_count_1 : decode cX8_count 1 = .ok (.getfield 12, 3) := by decide +kernel
theorem dX8_count_4 : decode cX8_count 4 = .ok (.getfield 61, 3) := by decide +kernel
theorem dX8_count_7 : decode cX8_count 7 = .ok (.astore_n 2, 1) := by decide +kernel
theorem dX8_count_8 : decode cX8_count 8 = .ok (.iload_n 1, 1) := by decide +kernel
theorem dX8_count_9 : decode cX8_count 9 = .ok (.tableswitch 199 0 13 #[71, 82, 90, 98, 106, 114, 122, 133, 141, 149, 157, 168, 183, 191], 71) := by decide +kernel
theorem dX8_count_80 : decode cX8_count 80 = .ok (.aload_n 0, 1) := by decide +kernel
theorem dX8_count_81 : decode cX8_count 81 = .ok (.getfield 12, 3) := by decide +kernel
theorem dX8_count_84 : decode cX8_count 84 = .ok (.getfield 51, 3) := by decide +kernel
theorem dX8_count_87 : decode cX8_count 87 = .ok (.getfield 55, 3) := by decide +kernel
theorem dX8_count_90 : decode cX8_count 90 = .ok (.ireturn, 1) := by decide +kernel
theorem dX8_count_91 : decode cX8_count 91 = .ok (.aload_n 2, 1) := by decide +kernel
theorem dX8_count_92 : decode cX8_count 92 = .ok (.getfield 64, 3) := by decide +kernel
theorem dX8_count_95 : decode cX8_count 95 = .ok (.getfield 82, 3) := by decide +kernel
theorem dX8_count_98 : decode cX8_count 98 = .ok (.ireturn, 1) := by decide +kernel
theorem dX8_count_99 : decode cX8_count 99 = .ok (.aload_n 2, 1) := by decide +kernel
theorem dX8_count_100 : decode cX8_count 100 = .ok (.getfield 218, 3) := by decide +kernel
theorem dX8_count_103 : decode cX8_count 103 = .ok (.getfield 82, 3) := by decide +kernel
theorem dX8_count_106 : decode cX8_count 106 = .ok (.ireturn, 1) := by decide +kernel
theorem dX8_count_107 : decode cX8_count 107 = .ok (.aload_n 2, 1) := by decide +kernel
theorem dX8_count_108 : decode cX8_count 108 = .ok (.getfield 64, 3) := by decide +kernel
theorem dX8_count_111 : decode cX8_count 111 = .ok (.invokevirtual 277, 3) := by decide +kernel
theorem dX8_count_114 : decode cX8_count 114 = .ok (.ireturn, 1) := by decide +kernel
theorem dX8_count_115 : decode cX8_count 115 = .ok (.aload_n 2, 1) := by decide +kernel
theorem dX8_count_116 : decode cX8_count 116 = .ok (.getfield 218, 3) := by decide +kernel
theorem dX8_count_119 : decode cX8_count 119 = .ok (.invokevirtual 277, 3) := by decide +kernel
theorem dX8_count_122 : decode cX8_count 122 = .ok (.ireturn, 1) := by decide +kernel
theorem dX8_count_123 : decode cX8_count 123 = .ok (.aload_n 0, 1) := by decide +kernel
theorem dX8_count_124 : decode cX8_count 124 = .ok (.getfield 12, 3) := by decide +kernel
theorem dX8_count_127 : decode cX8_count 127 = .ok (.getfield 132, 3) := by decide +kernel
theorem dX8_count_130 : decode cX8_count 130 = .ok (.ireturn, 1) := by decide +kernel
theorem dX8_count_131 : decode cX8_count 131 = .ok (.aload_n 0, 1) := by decide +kernel
theorem dX8_count_132 : decode cX8_count 132 = .ok (.getfield 12, 3) := by decide +kernel
theorem dX8_count_135 : decode cX8_count 135 = .ok (.getfield 149, 3) := by decide +kernel
theorem dX8_count_138 : decode cX8_count 138 = .ok (.getfield 153, 3) := by decide +kernel
theorem dX8_count_141 : decode cX8_count 141 = .ok (.ireturn, 1) := by decide +kernel
theorem dX8_count_142 : decode cX8_count 142 = .ok (.aload_n 0, 1) := by decide +kernel
theorem dX8_count_143 : decode cX8_count 143 = .ok (.getfield 12, 3) := by decide +kernel
theorem dX8_count_146 : decode cX8_count 146 = .ok (.getfield 123, 3) := by decide +kernel
theorem dX8_count_149 : decode cX8_count 149 = .ok (.ireturn, 1) := by decide +kernel
theorem dX8_count_150 : decode cX8_count 150 = .ok (.aload_n 0, 1) := by decide +kernel
theorem dX8_count_151 : decode cX8_count 151 = .ok (.getfield 12, 3) := by decide +kernel
theorem dX8_count_154 : decode cX8_count 154 = .ok (.getfield 126, 3) := by decide +kernel
theorem dX8_count_157 : decode cX8_count 157 = .ok (.ireturn, 1) := by decide +kernel
theorem dX8_count_158 : decode cX8_count 158 = .ok (.aload_n 0, 1) := by decide +kernel
theorem dX8_count_159 : decode cX8_count 159 = .ok (.getfield 12, 3) := by decide +kernel
theorem dX8_count_162 : decode cX8_count 162 = .ok (.getfield 129, 3) := by decide +kernel
theorem dX8_count_165 : decode cX8_count 165 = .ok (.ireturn, 1) := by decide +kernel
theorem dX8_count_166 : decode cX8_count 166 = .ok (.aload_n 0, 1) := by decide +kernel
theorem dX8_count_167 : decode cX8_count 167 = .ok (.getfield 12, 3) := by decide +kernel
theorem dX8_count_170 : decode cX8_count 170 = .ok (.getfield 51, 3) := by decide +kernel
theorem dX8_count_173 : decode cX8_count 173 = .ok (.invokevirtual 280, 3) := by decide +kernel
theorem dX8_count_176 : decode cX8_count 176 = .ok (.ireturn, 1) := by decide +kernel
theorem dX8_count_177 : decode cX8_count 177 = .ok (.aload_n 2, 1) := by decide +kernel
theorem dX8_count_178 : decode cX8_count 178 = .ok (.getfield 64, 3) := by decide +kernel
theorem dX8_count_181 : decode cX8_count 181 = .ok (.aload_n 0, 1) := by decide +kernel
theorem dX8_count_182 : decode cX8_count 182 = .ok (.getfield 12, 3) := by decide +kernel
theorem dX8_count_185 : decode cX8_count 185 = .ok (.getfield 129, 3) := by decide +kernel
theorem dX8_count_188 : decode cX8_count 188 = .ok (.invokevirtual 283, 3) := by decide +kernel
theorem dX8_count_191 : decode cX8_count 191 = .ok (.ireturn, 1) := by decide +kernel
theorem dX8_count_192 : decode cX8_count 192 = .ok (.aload_n 0, 1) := by decide +kernel
theorem dX8_count_193 : decode cX8_count 193 = .ok (.getfield 22, 3) := by decide +kernel
theorem dX8_count_196 : decode cX8_count 196 = .ok (.getfield 191, 3) := by decide +kernel
theorem dX8_count_199 : decode cX8_count 199 = .ok (.ireturn, 1) := by decide +kernel
theorem dX8_count_200 : decode cX8_count 200 = .ok (.aload_n 0, 1) := by decide +kernel
theorem dX8_count_201 : decode cX8_count 201 = .ok (.getfield 29, 3) := by decide +kernel
theorem dX8_count_204 : decode cX8_count 204 = .ok (.getfield 160, 3) := by decide +kernel
theorem dX8_count_207 : decode cX8_count 207 = .ok (.ireturn, 1) := by decide +kernel
theorem dX8_count_208 : decode cX8_count 208 = .ok (.bipush (-2), 2) := by decide +kernel
theorem dX8_count_210 : decode cX8_count 210 = .ok (.ireturn, 1) := by decide +kernel
set_option maxRecDepth 20000 in
theorem ggX8_editOnce_X0_copyFrom : GoodIn wsX8_editOnce wsX0_copyFrom := goodIn_r _ [8, 9, 10, 11, 12, 13, 14, 15, 16, 17, 18, 19, 20, 21, 22, 23, 24, 186, 187, 188, 189, 190, 191, 192] (by decide +kernel) (by decide +kernel)
set_option maxRecDepth 20000 in
theorem gX8_editOnce_X0_copyFrom : GoodIn wsX8_editOnce (wsV RX8 169 RX0 yX0_copyFrom wsX0_copyFrom) := goodIn_app (goodIn_of _ (by decide +kernel)) ggX8_editOnce_X0_copyFrom
set_option maxRecDepth 20000 in
theorem ggX8_editOnce_X0_perform : GoodIn wsX8_editOnce wsX0_perform := goodIn_r _ [28, 29, 30, 31, 7, 32, 9, 33, 34, 35, 36, 37, 38, 14, 39, 16, 40, 41, 42, 43, 23, 22, 44, 45, 46, 47, 48, 49, 50, 51, 52, 53, 54, 55, 56, 57, 58, 59, 17, 24, 60, 61, 62, 63, 64, 65, 66, 67, 68, 69, 70, 71, 72, 73, 74, 75, 76, 77, 78, 79, 80, 81, 82, 83, 84, 85, 10, 86, 87, 88, 89, 90, 91, 92, 93, 94, 95, 96, 97, 98, 99, 100, 101, 102, 103, 104, 105, 106, 107, 108, 186, 187, 188, 189, 190, 191, 192] (by decide +kernel) (by decide +kernel)
set_option maxRecDepth 20000 in
theorem gX8_editOnce_X0_perform : GoodIn wsX8_editOnce (wsV RX8 185 RX0 yX0_perform wsX0_perform) := goodIn_app (goodIn_of _ (by decide +kernel)) ggX8_editOnce_X0_perform
set_option maxRecDepth 20000 in
theorem ggX8_editOnce_X8_takeOverTrial : GoodIn wsX8_editOnce wsX8_takeOverTrial := goodIn_r _ [112, 113, 2, 3, 1, 114, 115, 116, 117, 118, 119, 120, 121, 122, 123, 124, 125, 126, 127, 128, 129, 130, 131, 132, 133, 134, 135, 136, 137, 138, 139, 140, 141, 142, 143, 144, 145, 146, 147, 148, 19, 20, 21, 149, 150, 151, 152, 12, 13, 14, 15, 16, 17, 18, 22, 23, 24, 153, 154, 155, 156, 157, 158, 159, 160, 161, 162, 163, 164, 165, 166, 167, 168, 169, 170, 4, 5, 6, 7, 8, 9, 10, 11, 171, 172, 173, 174, 175, 176, 177, 178, 179, 180, 181, 182, 183, 184, 185, 193, 194, 195, 186, 187, 196, 197, 198, 199, 200, 188, 189, 190, 191, 192, 201, 202, 203, 204, 205, 206] (by decide +kernel) (by decide +kernel)
set_option maxRecDepth 20000 in
theorem gX8_editOnce_X8_takeOverTrial : GoodIn wsX8_editOnce (wsV RX8 188 RX8 yX8_takeOverTrial wsX8_takeOverTrial) := goodIn_app (goodIn_of _ (by decide +kernel)) ggX8_editOnce_X8_takeOverTrial
theorem dX8_editOnce_0 : decode cX8_editOnce 0 = .ok (.aload_n 0, 1) := by decide +kernel
theorem dX8_editOnce_1 : decode cX8_editOnce 1 = .ok (.getfield 36, 3) := by decide +kernel
theorem dX8_editOnce_4 : decode cX8_editOnce 4 = .ok (.aload_n 0, 1) := by decide +kernel
theorem dX8_editOnce_5 : decode cX8_editOnce 5 = .ok (.getfield 12, 3) := by decide +kernel
theorem dX8_editOnce_8 : decode cX8_editOnce 8 = .ok (.getfield 61, 3) := by decide +kernel
theorem dX8_editOnce_11 : decode cX8_editOnce 11 = .ok (.invokevirtual 169, 3) := by decide +kernel
theorem dX8_editOnce_14 : decode cX8_editOnce 14 = .ok (.aload_n 0, 1) := by decide +kernel
theorem dX8_editOnce_15 : decode cX8_editOnce 15 = .ok (.getfield 36, 3) := by decide +kernel
theorem dX8_editOnce_18 : decode cX8_editOnce 18 = .ok (.iload_n 1, 1) := by decide +kernel
theorem dX8_editOnce_19 : decode cX8_editOnce 19 = .ok (.iload_n 2, 1) := by decide +kernel
theorem dX8_editOnce_20 : decode cX8_editOnce 20 = .ok (.iload_n 3, 1) := by decide +kernel
theorem dX8_editOnce_21 : decode cX8_editOnce 21 = .ok (.invokevirtual 185, 3) := by decide +kernel
theorem dX8_editOnce_24 : decode cX8_editOnce 24 = .ok (.istore 4, 2) := by decide +kernel
theorem dX8_editOnce_26 : decode cX8_editOnce 26 = .ok (.iload 4, 2) := by decide +kernel
theorem dX8_editOnce_28 : decode cX8_editOnce 28 = .ok (.ifCond .lt 7, 3) := by decide +kernel
theorem dX8_editOnce_31 : decode cX8_editOnce 31 = .ok (.aload_n 0, 1) := by decide +kernel
theorem dX8_editOnce_32 : decode cX8_editOnce 32 = .ok (.invokevirtual 188, 3) := by decide +kernel
theorem dX8_editOnce_35 : decode cX8_editOnce 35 = .ok (.iload 4, 2) := by decide +kernel
theorem dX8_editOnce_37 : decode cX8_editOnce 37 = .ok (.ireturn, 1) := by decide +kernel
set_option maxRecDepth 20000 in
theorem ggX8_takeOverTrial_X3_record : GoodIn wsX8_takeOverTrial wsX3_record := goodIn_r _ [9, 10, 11, 12, 13, 14, 15, 16, 17, 18, 19, 20, 21, 22, 23, 24, 25, 26, 27, 28, 29, 30, 31, 32, 33, 34, 35, 36, 37, 38, 39, 40, 41, 42, 43, 44, 45, 46, 47, 48, 49, 50, 51, 52, 53, 54, 55, 56, 57, 58, 59, 60, 61, 62, 63, 64, 65, 66, 67, 68, 69, 70, 71, 72, 73, 74, 98, 99, 100, 90, 91, 92, 93, 94, 95, 96, 97, 101, 102, 103, 104, 105, 106, 107, 108, 109, 110, 111, 112, 113, 114, 115, 116, 117, 118] (by decide +kernel) (by decide +kernel)
set_option maxRecDepth 20000 in
theorem gX8_takeOverTrial_X3_record : GoodIn wsX8_takeOverTrial (wsV RX8 74 RX3 yX3_record wsX3_record) := goodIn_app (goodIn_of _ (by decide +kernel)) ggX8_takeOverTrial_X3_record
set_option maxRecDepth 20000 in
theorem ggX8_takeOverTrial_X0_copyFrom : GoodIn wsX8_takeOverTrial wsX0_copyFrom := goodIn_r _ [79, 80, 81, 82, 47, 48, 49, 50, 51, 52, 53, 40, 41, 42, 54, 55, 56, 101, 102, 108, 109, 110, 111, 112] (by decide +kernel) (by decide +kernel)
set_option maxRecDepth 20000 in
theorem gX8_takeOverTrial_X0_copyFrom : GoodIn wsX8_takeOverTrial (wsV RX8 169 RX0 yX0_copyFrom wsX0_copyFrom) := goodIn_app (goodIn_of _ (by decide +kernel)) ggX8_takeOverTrial_X0_copyFrom
theorem dX8_takeOverTrial_0 : decode cX8_takeOverTrial 0 = .ok (.aload_n 0, 1) := by decide +kernel
theorem dX8_takeOverTrial_1 : decode cX8_takeOverTrial 1 = .ok (.getfield 22, 3) := by decide +kernel
theorem dX8_takeOverTrial_4 : decode cX8_takeOverTrial 4 = .ok (.aload_n 0, 1) := by decide +kernel
theorem dX8_takeOverTrial_5 : decode cX8_takeOverTrial 5 = .ok (.getfield 12, 3) := by decide +kernel
theorem dX8_takeOverTrial_8 : decode cX8_takeOverTrial 8 = .ok (.invokevirtual 74, 3) := by decide +kernel
theorem dX8_takeOverTrial_11 : decode cX8_takeOverTrial 11 = .ok (.aload_n 0, 1) := by decide +kernel
theorem dX8_takeOverTrial_12 : decode cX8_takeOverTrial 12 = .ok (.getfield 12, 3) := by decide +kernel
theorem dX8_takeOverTrial_15 : decode cX8_takeOverTrial 15 = .ok (.getfield 61, 3) := by decide +kernel
theorem dX8_takeOverTrial_18 : decode cX8_takeOverTrial 18 = .ok (.aload_n 0, 1) := by decide +kernel
theorem dX8_takeOverTrial_19 : decode cX8_takeOverTrial 19 = .ok (.getfield 36, 3) := by decide +kernel
theorem dX8_takeOverTrial_22 : decode cX8_takeOverTrial 22 = .ok (.invokevirtual 169, 3) := by decide +kernel
theorem dX8_takeOverTrial_25 : decode cX8_takeOverTrial 25 = .ok (.return_, 1) := by decide +kernel
theorem dX8_isWithin_0 : decode cX8_isWithin 0 = .ok (.iload_n 0, 1) := by decide +kernel
theorem dX8_isWithin_1 : decode cX8_isWithin 1 = .ok (.iload_n 1, 1) := by decide +kernel
theorem dX8_isWithin_2 : decode cX8_isWithin 2 = .ok (.if_icmp .lt 12, 3) := by decide +kernel
theorem dX8_isWithin_5 : decode cX8_isWithin 5 = .ok (.iload_n 0, 1) := by decide +kernel
theorem dX8_isWithin_6 : decode cX8_isWithin 6 = .ok (.iload_n 2, 1) := by decide +kernel
theorem dX8_isWithin_7 : decode cX8_isWithin 7 = .ok (.if_icmp .gt 7, 3) := by decide +kernel
theorem dX8_isWithin_10 : decode cX8_isWithin 10 = .ok (.iconst 1, 1) := by decide +kernel
theorem dX8_isWithin_11 : decode cX8_isWithin 11 = .ok (.goto 4, 3) := by decide +kernel
theorem dX8_isWithin_14 : decode cX8_isWithin 14 = .ok (.iconst 0, 1) := by decide +kernel
theorem dX8_isWithin_15 : decode cX8_isWithin 15 = .ok (.ireturn, 1) := by decide +kernel
theorem dX8_slotOf_0 : decode cX8_slotOf 0 = .ok (.iload_n 0, 1) := by decide +kernel
theorem dX8_slotOf_1 : decode cX8_slotOf 1 = .ok (.bipush 40, 2) := by decide +kernel
theorem dX8_slotOf_3 : decode cX8_slotOf 3 = .ok (.imul, 1) := by decide +kernel
theorem dX8_slotOf_4 : decode cX8_slotOf 4 = .ok (.iload_n 1, 1) := by decide +kernel
theorem dX8_slotOf_5 : decode cX8_slotOf 5 = .ok (.iadd, 1) := by decide +kernel
theorem dX8_slotOf_6 : decode cX8_slotOf 6 = .ok (.ireturn, 1) := by decide +kernel
theorem dX8_codeOf_0 : decode cX8_codeOf 0 = .ok (.bipush 100, 2) := by decide +kernel
theorem dX8_codeOf_2 : decode cX8_codeOf 2 = .ok (.iload_n 0, 1) := by decide +kernel
theorem dX8_codeOf_3 : decode cX8_codeOf 3 = .ok (.imul, 1) := by decide +kernel
theorem dX8_codeOf_4 : decode cX8_codeOf 4 = .ok (.iload_n 1, 1) := by decide +kernel
theorem dX8_codeOf_5 : decode cX8_codeOf 5 = .ok (.iadd, 1) := by decide +kernel
theorem dX8_codeOf_6 : decode cX8_codeOf 6 = .ok (.ireturn, 1) := by decide +kernel
