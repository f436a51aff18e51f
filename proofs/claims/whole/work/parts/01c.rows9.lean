theorem dX9_init_0 : decode cX9_init 0 = .ok (.aload_n 0, 1) := by decide +kernel
theorem dX9_init_1 : decode cX9_init 1 = .ok (.invokespecial 1, 3) := by decide +kernel
theorem dX9_init_4 : decode cX9_init 4 = .ok (.aload_n 0, 1) := by decide +kernel
theorem dX9_init_5 : decode cX9_init 5 = .ok (.sipush 6036, 3) := by decide +kernel
theorem dX9_init_8 : decode cX9_init 8 = .ok (.newarray .int, 2) := by decide +kernel
theorem dX9_init_10 : decode cX9_init 10 = .ok (.putfield 7, 3) := by decide +kernel
theorem dX9_init_13 : decode cX9_init 13 = .ok (.aload_n 0, 1) := by decide +kernel
theorem dX9_init_14 : decode cX9_init 14 = .ok (.ldc 13, 2) := by decide +kernel
theorem dX9_init_16 : decode cX9_init 16 = .ok (.newarray .int, 2) := by decide +kernel
theorem dX9_init_18 : decode cX9_init 18 = .ok (.putfield 14, 3) := by decide +kernel
theorem dX9_init_21 : decode cX9_init 21 = .ok (.aload_n 0, 1) := by decide +kernel
theorem dX9_init_22 : decode cX9_init 22 = .ok (.sipush 488, 3) := by decide +kernel
theorem dX9_init_25 : decode cX9_init 25 = .ok (.newarray .int, 2) := by decide +kernel
theorem dX9_init_27 : decode cX9_init 27 = .ok (.putfield 17, 3) := by decide +kernel
theorem dX9_init_30 : decode cX9_init 30 = .ok (.aload_n 0, 1) := by decide +kernel
theorem dX9_init_31 : decode cX9_init 31 = .ok (.bipush 60, 2) := by decide +kernel
theorem dX9_init_33 : decode cX9_init 33 = .ok (.newarray .int, 2) := by decide +kernel
theorem dX9_init_35 : decode cX9_init 35 = .ok (.putfield 20, 3) := by decide +kernel
theorem dX9_init_38 : decode cX9_init 38 = .ok (.aload_n 0, 1) := by decide +kernel
theorem dX9_init_39 : decode cX9_init 39 = .ok (.getfield 7, 3) := by decide +kernel
theorem dX9_init_42 : decode cX9_init 42 = .ok (.bipush 6, 2) := by decide +kernel
theorem dX9_init_44 : decode cX9_init 44 = .ok (.iconst 3, 1) := by decide +kernel
theorem dX9_init_45 : decode cX9_init 45 = .ok (.iastore, 1) := by decide +kernel
theorem dX9_init_46 : decode cX9_init 46 = .ok (.aload_n 0, 1) := by decide +kernel
theorem dX9_init_47 : decode cX9_init 47 = .ok (.getfield 7, 3) := by decide +kernel
theorem dX9_init_50 : decode cX9_init 50 = .ok (.bipush 7, 2) := by decide +kernel
theorem dX9_init_52 : decode cX9_init 52 = .ok (.iconst 5, 1) := by decide +kernel
theorem dX9_init_53 : decode cX9_init 53 = .ok (.iastore, 1) := by decide +kernel
theorem dX9_init_54 : decode cX9_init 54 = .ok (.return_, 1) := by decide +kernel
theorem dX9_isIn_0 : decode cX9_isIn 0 = .ok (.iload_n 0, 1) := by decide +kernel
theorem dX9_isIn_1 : decode cX9_isIn 1 = .ok (.iload_n 1, 1) := by decide +kernel
theorem dX9_isIn_2 : decode cX9_isIn 2 = .ok (.if_icmp .lt 12, 3) := by decide +kernel
theorem dX9_isIn_5 : decode cX9_isIn 5 = .ok (.iload_n 0, 1) := by decide +kernel
theorem dX9_isIn_6 : decode cX9_isIn 6 = .ok (.iload_n 2, 1) := by decide +kernel
theorem dX9_isIn_7 : decode cX9_isIn 7 = .ok (.if_icmp .gt 7, 3) := by decide +kernel
theorem dX9_isIn_10 : decode cX9_isIn 10 = .ok (.iconst 1, 1) := by decide +kernel
theorem dX9_isIn_11 : decode cX9_isIn 11 = .ok (.goto 4, 3) := by decide +kernel
theorem dX9_isIn_14 : decode cX9_isIn 14 = .ok (.iconst 0, 1) := by decide +kernel
theorem dX9_isIn_15 : decode cX9_isIn 15 = .ok (.ireturn, 1) := by decide +kernel
theorem dX9_ones_0 : decode cX9_ones 0 = .ok (.iconst 0, 1) := by decide +kernel
theorem dX9_ones_1 : decode cX9_ones 1 = .ok (.istore_n 1, 1) := by decide +kernel
theorem dX9_ones_2 : decode cX9_ones 2 = .ok (.iconst 0, 1) := by decide +kernel
theorem dX9_ones_3 : decode cX9_ones 3 = .ok (.istore_n 2, 1) := by decide +kernel
theorem dX9_ones_4 : decode cX9_ones 4 = .ok (.iload_n 2, 1) := by decide +kernel
theorem dX9_ones_5 : decode cX9_ones 5 = .ok (.bipush 12, 2) := by decide +kernel
theorem dX9_ones_7 : decode cX9_ones 7 = .ok (.if_icmp .ge 17, 3) := by decide +kernel
theorem dX9_ones_10 : decode cX9_ones 10 = .ok (.iload_n 1, 1) := by decide +kernel
theorem dX9_ones_11 : decode cX9_ones 11 = .ok (.iload_n 0, 1) := by decide +kernel
theorem dX9_ones_12 : decode cX9_ones 12 = .ok (.iload_n 2, 1) := by decide +kernel
theorem dX9_ones_13 : decode cX9_ones 13 = .ok (.ishr, 1) := by decide +kernel
theorem dX9_ones_14 : decode cX9_ones 14 = .ok (.iconst 1, 1) := by decide +kernel
theorem dX9_ones_15 : decode cX9_ones 15 = .ok (.iand, 1) := by decide +kernel
theorem dX9_ones_16 : decode cX9_ones 16 = .ok (.iadd, 1) := by decide +kernel
theorem dX9_ones_17 : decode cX9_ones 17 = .ok (.istore_n 1, 1) := by decide +kernel
theorem dX9_ones_18 : decode cX9_ones 18 = .ok (.iinc 2 1, 3) := by decide +kernel
theorem dX9_ones_21 : decode cX9_ones 21 = .ok (.goto (-17), 3) := by decide +kernel
theorem dX9_ones_24 : decode cX9_ones 24 = .ok (.iload_n 1, 1) := by decide +kernel
theorem dX9_ones_25 : decode cX9_ones 25 = .ok (.ireturn, 1) := by decide +kernel
theorem dX9_keeps_0 : decode cX9_keeps 0 = .ok (.iconst 0, 1) := by decide +kernel
theorem dX9_keeps_1 : decode cX9_keeps 1 = .ok (.istore_n 2, 1) := by decide +kernel
theorem dX9_keeps_2 : decode cX9_keeps 2 = .ok (.iload_n 2, 1) := by decide +kernel
theorem dX9_keeps_3 : decode cX9_keeps 3 = .ok (.sipush 6036, 3) := by decide +kernel
theorem dX9_keeps_6 : decode cX9_keeps 6 = .ok (.if_icmp .ge 27, 3) := by decide +kernel
theorem dX9_keeps_9 : decode cX9_keeps 9 = .ok (.aload_n 0, 1) := by decide +kernel
theorem dX9_keeps_10 : decode cX9_keeps 10 = .ok (.getfield 14, 3) := by decide +kernel
theorem dX9_keeps_13 : decode cX9_keeps 13 = .ok (.iload_n 1, 1) := by decide +kernel
theorem dX9_keeps_14 : decode cX9_keeps 14 = .ok (.sipush 6036, 3) := by decide +kernel
theorem dX9_keeps_17 : decode cX9_keeps 17 = .ok (.imul, 1) := by decide +kernel
theorem dX9_keeps_18 : decode cX9_keeps 18 = .ok (.iload_n 2, 1) := by decide +kernel
theorem dX9_keeps_19 : decode cX9_keeps 19 = .ok (.iadd, 1) := by decide +kernel
theorem dX9_keeps_20 : decode cX9_keeps 20 = .ok (.aload_n 0, 1) := by decide +kernel
theorem dX9_keeps_21 : decode cX9_keeps 21 = .ok (.getfield 7, 3) := by decide +kernel
theorem dX9_keeps_24 : decode cX9_keeps 24 = .ok (.iload_n 2, 1) := by decide +kernel
theorem dX9_keeps_25 : decode cX9_keeps 25 = .ok (.iaload, 1) := by decide +kernel
theorem dX9_keeps_26 : decode cX9_keeps 26 = .ok (.iastore, 1) := by decide +kernel
theorem dX9_keeps_27 : decode cX9_keeps 27 = .ok (.iinc 2 1, 3) := by decide +kernel
theorem dX9_keeps_30 : decode cX9_keeps 30 = .ok (.goto (-28), 3) := by decide +kernel
theorem dX9_keeps_33 : decode cX9_keeps 33 = .ok (.return_, 1) := by decide +kernel
theorem dX9_brings_0 : decode cX9_brings 0 = .ok (.iconst 0, 1) := by decide +kernel
theorem dX9_brings_1 : decode cX9_brings 1 = .ok (.istore_n 2, 1) := by decide +kernel
theorem dX9_brings_2 : decode cX9_brings 2 = .ok (.iload_n 2, 1) := by decide +kernel
theorem dX9_brings_3 : decode cX9_brings 3 = .ok (.sipush 6036, 3) := by decide +kernel
theorem dX9_brings_6 : decode cX9_brings 6 = .ok (.if_icmp .ge 27, 3) := by decide +kernel
theorem dX9_brings_9 : decode cX9_brings 9 = .ok (.aload_n 0, 1) := by decide +kernel
theorem dX9_brings_10 : decode cX9_brings 10 = .ok (.getfield 7, 3) := by decide +kernel
theorem dX9_brings_13 : decode cX9_brings 13 = .ok (.iload_n 2, 1) := by decide +kernel
theorem dX9_brings_14 : decode cX9_brings 14 = .ok (.aload_n 0, 1) := by decide +kernel
theorem dX9_brings_15 : decode cX9_brings 15 = .ok (.getfield 14, 3) := by decide +kernel
theorem dX9_brings_18 : decode cX9_brings 18 = .ok (.iload_n 1, 1) := by decide +kernel
theorem dX9_brings_19 : decode cX9_brings 19 = .ok (.sipush 6036, 3) := by decide +kernel
theorem dX9_brings_22 : decode cX9_brings 22 = .ok (.imul, 1) := by decide +kernel
theorem dX9_brings_23 : decode cX9_brings 23 = .ok (.iload_n 2, 1) := by decide +kernel
theorem dX9_brings_24 : decode cX9_brings 24 = .ok (.iadd, 1) := by decide +kernel
theorem dX9_brings_25 : decode cX9_brings 25 = .ok (.iaload, 1) := by decide +kernel
theorem dX9_brings_26 : decode cX9_brings 26 = .ok (.iastore, 1) := by decide +kernel
theorem dX9_brings_27 : decode cX9_brings 27 = .ok (.iinc 2 1, 3) := by decide +kernel
theorem dX9_brings_30 : decode cX9_brings 30 = .ok (.goto (-28), 3) := by decide +kernel
theorem dX9_brings_33 : decode cX9_brings 33 = .ok (.return_, 1) := by decide +kernel
theorem dX9_records_0 : decode cX9_records 0 = .ok (.aload_n 0, 1) := by decide +kernel
theorem dX9_records_1 : decode cX9_records 1 = .ok (.getfield 23, 3) := by decide +kernel
theorem dX9_records_4 : decode cX9_records 4 = .ok (.iconst 4, 1) := by decide +kernel
theorem dX9_records_5 : decode cX9_records 5 = .ok (.if_icmp .ne 44, 3) := by decide +kernel
theorem dX9_records_8 : decode cX9_records 8 = .ok (.iconst 0, 1) := by decide +kernel
theorem dX9_records_9 : decode cX9_records 9 = .ok (.istore_n 2, 1) := by decide +kernel
theorem dX9_records_10 : decode cX9_records 10 = .ok (.iload_n 2, 1) := by decide +kernel
theorem dX9_records_11 : decode cX9_records 11 = .ok (.sipush 18108, 3) := by decide +kernel
theorem dX9_records_14 : decode cX9_records 14 = .ok (.if_icmp .ge 25, 3) := by decide +kernel
theorem dX9_records_17 : decode cX9_records 17 = .ok (.aload_n 0, 1) := by decide +kernel
theorem dX9_records_18 : decode cX9_records 18 = .ok (.getfield 14, 3) := by decide +kernel
theorem dX9_records_21 : decode cX9_records 21 = .ok (.iload_n 2, 1) := by decide +kernel
theorem dX9_records_22 : decode cX9_records 22 = .ok (.aload_n 0, 1) := by decide +kernel
theorem dX9_records_23 : decode cX9_records 23 = .ok (.getfield 14, 3) := by decide +kernel
theorem dX9_records_26 : decode cX9_records 26 = .ok (.iload_n 2, 1) := by decide +kernel
theorem dX9_records_27 : decode cX9_records 27 = .ok (.sipush 6036, 3) := by decide +kernel
theorem dX9_records_30 : decode cX9_records 30 = .ok (.iadd, 1) := by decide +kernel
theorem dX9_records_31 : decode cX9_records 31 = .ok (.iaload, 1) := by decide +kernel
theorem dX9_records_32 : decode cX9_records 32 = .ok (.iastore, 1) := by decide +kernel
theorem dX9_records_33 : decode cX9_records 33 = .ok (.iinc 2 1, 3) := by decide +kernel
theorem dX9_records_36 : decode cX9_records 36 = .ok (.goto (-26), 3) := by decide +kernel
theorem dX9_records_39 : decode cX9_records 39 = .ok (.aload_n 0, 1) := by decide +kernel
theorem dX9_records_40 : decode cX9_records 40 = .ok (.dup, 1) := by decide +kernel
theorem dX9_records_41 : decode cX9_records 41 = .ok (.getfield 23, 3) := by decide +kernel
theorem dX9_records_44 : decode cX9_records 44 = .ok (.iconst 1, 1) := by decide +kernel
theorem dX9_records_45 : decode cX9_records 45 = .ok (.isub, 1) := by decide +kernel
theorem dX9_records_46 : decode cX9_records 46 = .ok (.putfield 23, 3) := by decide +kernel
theorem dX9_records_49 : decode cX9_records 49 = .ok (.iconst 0, 1) := by decide +kernel
theorem dX9_records_50 : decode cX9_records 50 = .ok (.istore_n 2, 1) := by decide +kernel
theorem dX9_records_51 : decode cX9_records 51 = .ok (.iload_n 2, 1) := by decide +kernel
theorem dX9_records_52 : decode cX9_records 52 = .ok (.sipush 6036, 3) := by decide +kernel
theorem dX9_records_55 : decode cX9_records 55 = .ok (.if_icmp .ge 47, 3) := by decide +kernel
theorem dX9_records_58 : decode cX9_records 58 = .ok (.aload_n 0, 1) := by decide +kernel
theorem dX9_records_59 : decode cX9_records 59 = .ok (.getfield 14, 3) := by decide +kernel
theorem dX9_records_62 : decode cX9_records 62 = .ok (.aload_n 0, 1) := by decide +kernel
theorem dX9_records_63 : decode cX9_records 63 = .ok (.getfield 23, 3) := by decide +kernel
theorem dX9_records_66 : decode cX9_records 66 = .ok (.sipush 6036, 3) := by decide +kernel
theorem dX9_records_69 : decode cX9_records 69 = .ok (.imul, 1) := by decide +kernel
theorem dX9_records_70 : decode cX9_records 70 = .ok (.iload_n 2, 1) := by decide +kernel
theorem dX9_records_71 : decode cX9_records 71 = .ok (.iadd, 1) := by decide +kernel
theorem dX9_records_72 : decode cX9_records 72 = .ok (.iload_n 1, 1) := by decide +kernel
theorem dX9_records_73 : decode cX9_records 73 = .ok (.ifCond .eq 16, 3) := by decide +kernel
theorem dX9_records_76 : decode cX9_records 76 = .ok (.aload_n 0, 1) := by decide +kernel
theorem dX9_records_77 : decode cX9_records 77 = .ok (.getfield 14, 3) := by decide +kernel
theorem dX9_records_80 : decode cX9_records 80 = .ok (.sipush 30180, 3) := by decide +kernel
theorem dX9_records_83 : decode cX9_records 83 = .ok (.iload_n 2, 1) := by decide +kernel
theorem dX9_records_84 : decode cX9_records 84 = .ok (.iadd, 1) := by decide +kernel
theorem dX9_records_85 : decode cX9_records 85 = .ok (.iaload, 1) := by decide +kernel
theorem dX9_records_86 : decode cX9_records 86 = .ok (.goto 9, 3) := by decide +kernel
theorem dX9_records_89 : decode cX9_records 89 = .ok (.aload_n 0, 1) := by decide +kernel
theorem dX9_records_90 : decode cX9_records 90 = .ok (.getfield 7, 3) := by decide +kernel
theorem dX9_records_93 : decode cX9_records 93 = .ok (.iload_n 2, 1) := by decide +kernel
theorem dX9_records_94 : decode cX9_records 94 = .ok (.iaload, 1) := by decide +kernel
theorem dX9_records_95 : decode cX9_records 95 = .ok (.iastore, 1) := by decide +kernel
theorem dX9_records_96 : decode cX9_records 96 = .ok (.iinc 2 1, 3) := by decide +kernel
theorem dX9_records_99 : decode cX9_records 99 = .ok (.goto (-48), 3) := by decide +kernel
theorem dX9_records_102 : decode cX9_records 102 = .ok (.aload_n 0, 1) := by decide +kernel
theorem dX9_records_103 : decode cX9_records 103 = .ok (.dup, 1) := by decide +kernel
theorem dX9_records_104 : decode cX9_records 104 = .ok (.getfield 23, 3) := by decide +kernel
theorem dX9_records_107 : decode cX9_records 107 = .ok (.iconst 1, 1) := by decide +kernel
theorem dX9_records_108 : decode cX9_records 108 = .ok (.iadd, 1) := by decide +kernel
theorem dX9_records_109 : decode cX9_records 109 = .ok (.putfield 23, 3) := by decide +kernel
theorem dX9_records_112 : decode cX9_records 112 = .ok (.return_, 1) := by decide +kernel
set_option maxRecDepth 20000 in
theorem ggX9_undo_X9_brings : GoodIn wsX9_undo wsX9_brings := goodIn_r _ [6, 7, 8, 9, 10, 11, 12, 13, 14, 15, 16, 17, 18, 19, 20] (by decide +kernel) (by decide +kernel)
set_option maxRecDepth 20000 in
theorem gX9_undo_X9_brings : GoodIn wsX9_undo (wsV RX9 27 RX9 yX9_brings wsX9_brings) := goodIn_app (goodIn_of _ (by decide +kernel)) ggX9_undo_X9_brings
theorem dX9_undo_0 : decode cX9_undo 0 = .ok (.aload_n 0, 1) := by decide +kernel
theorem dX9_undo_1 : decode cX9_undo 1 = .ok (.getfield 23, 3) := by decide +kernel
theorem dX9_undo_4 : decode cX9_undo 4 = .ok (.ifCond .ne 6, 3) := by decide +kernel
theorem dX9_undo_7 : decode cX9_undo 7 = .ok (.bipush (-5), 2) := by decide +kernel
theorem dX9_undo_9 : decode cX9_undo 9 = .ok (.ireturn, 1) := by decide +kernel
theorem dX9_undo_10 : decode cX9_undo 10 = .ok (.aload_n 0, 1) := by decide +kernel
theorem dX9_undo_11 : decode cX9_undo 11 = .ok (.dup, 1) := by decide +kernel
theorem dX9_undo_12 : decode cX9_undo 12 = .ok (.getfield 23, 3) := by decide +kernel
theorem dX9_undo_15 : decode cX9_undo 15 = .ok (.iconst 1, 1) := by decide +kernel
theorem dX9_undo_16 : decode cX9_undo 16 = .ok (.isub, 1) := by decide +kernel
theorem dX9_undo_17 : decode cX9_undo 17 = .ok (.putfield 23, 3) := by decide +kernel
theorem dX9_undo_20 : decode cX9_undo 20 = .ok (.aload_n 0, 1) := by decide +kernel
theorem dX9_undo_21 : decode cX9_undo 21 = .ok (.aload_n 0, 1) := by decide +kernel
theorem dX9_undo_22 : decode cX9_undo 22 = .ok (.getfield 23, 3) := by decide +kernel
theorem dX9_undo_25 : decode cX9_undo 25 = .ok (.invokevirtual 27, 3) := by decide +kernel
theorem dX9_undo_28 : decode cX9_undo 28 = .ok (.aload_n 0, 1) := by decide +kernel
theorem dX9_undo_29 : decode cX9_undo 29 = .ok (.getfield 23, 3) := by decide +kernel
theorem dX9_undo_32 : decode cX9_undo 32 = .ok (.ireturn, 1) := by decide +kernel
set_option maxRecDepth 20000 in
theorem ggX9_keep_X9_keeps : GoodIn wsX9_keep wsX9_keeps := goodIn_r _ [7, 8, 2, 9, 10, 11, 12, 13, 14, 15, 16, 17, 18, 19, 20] (by decide +kernel) (by decide +kernel)
set_option maxRecDepth 20000 in
theorem gX9_keep_X9_keeps : GoodIn wsX9_keep (wsV RX9 31 RX9 yX9_keeps wsX9_keeps) := goodIn_app (goodIn_of _ (by decide +kernel)) ggX9_keep_X9_keeps
theorem dX9_keep_0 : decode cX9_keep 0 = .ok (.aload_n 0, 1) := by decide +kernel
theorem dX9_keep_1 : decode cX9_keep 1 = .ok (.iconst 4, 1) := by decide +kernel
theorem dX9_keep_2 : decode cX9_keep 2 = .ok (.invokevirtual 31, 3) := by decide +kernel
theorem dX9_keep_5 : decode cX9_keep 5 = .ok (.aload_n 0, 1) := by decide +kernel
theorem dX9_keep_6 : decode cX9_keep 6 = .ok (.iconst 1, 1) := by decide +kernel
theorem dX9_keep_7 : decode cX9_keep 7 = .ok (.putfield 34, 3) := by decide +kernel
theorem dX9_keep_10 : decode cX9_keep 10 = .ok (.aload_n 0, 1) := by decide +kernel
theorem dX9_keep_11 : decode cX9_keep 11 = .ok (.getfield 7, 3) := by decide +kernel
theorem dX9_keep_14 : decode cX9_keep 14 = .ok (.iconst 1, 1) := by decide +kernel
theorem dX9_keep_15 : decode cX9_keep 15 = .ok (.iaload, 1) := by decide +kernel
theorem dX9_keep_16 : decode cX9_keep 16 = .ok (.ireturn, 1) := by decide +kernel
set_option maxRecDepth 20000 in
theorem ggX9_restore_X9_records : GoodIn wsX9_restore wsX9_records := goodIn_r _ [7, 8, 9, 2, 14, 15, 16, 17, 18, 19, 20, 21, 22, 23, 24, 25] (by decide +kernel) (by decide +kernel)
set_option maxRecDepth 20000 in
theorem gX9_restore_X9_records : GoodIn wsX9_restore (wsV RX9 38 RX9 yX9_records wsX9_records) := goodIn_app (goodIn_of _ (by decide +kernel)) ggX9_restore_X9_records
set_option maxRecDepth 20000 in
theorem ggX9_restore_X9_brings : GoodIn wsX9_restore wsX9_brings := goodIn_r _ [13, 2, 9, 14, 15, 16, 17, 18, 19, 20, 21, 22, 23, 24, 25] (by decide +kernel) (by decide +kernel)
set_option maxRecDepth 20000 in
theorem gX9_restore_X9_brings : GoodIn wsX9_restore (wsV RX9 27 RX9 yX9_brings wsX9_brings) := goodIn_app (goodIn_of _ (by decide +kernel)) ggX9_restore_X9_brings
theorem dX9_restore_0 : decode cX9_restore 0 = .ok (.aload_n 0, 1) := by decide +kernel
theorem dX9_restore_1 : decode cX9_restore 1 = .ok (.getfield 34, 3) := by decide +kernel
theorem dX9_restore_4 : decode cX9_restore 4 = .ok (.ifCond .ne 6, 3) := by decide +kernel
theorem dX9_restore_7 : decode cX9_restore 7 = .ok (.bipush (-5), 2) := by decide +kernel
theorem dX9_restore_9 : decode cX9_restore 9 = .ok (.ireturn, 1) := by decide +kernel
theorem dX9_restore_10 : decode cX9_restore 10 = .ok (.aload_n 0, 1) := by decide +kernel
theorem dX9_restore_11 : decode cX9_restore 11 = .ok (.iconst 0, 1) := by decide +kernel
theorem dX9_restore_12 : decode cX9_restore 12 = .ok (.invokevirtual 38, 3) := by decide +kernel
theorem dX9_restore_15 : decode cX9_restore 15 = .ok (.aload_n 0, 1) := by decide +kernel
theorem dX9_restore_16 : decode cX9_restore 16 = .ok (.iconst 4, 1) := by decide +kernel
theorem dX9_restore_17 : decode cX9_restore 17 = .ok (.invokevirtual 27, 3) := by decide +kernel
theorem dX9_restore_20 : decode cX9_restore 20 = .ok (.aload_n 0, 1) := by decide +kernel
theorem dX9_restore_21 : decode cX9_restore 21 = .ok (.getfield 7, 3) := by decide +kernel
theorem dX9_restore_24 : decode cX9_restore 24 = .ok (.iconst 1, 1) := by decide +kernel
theorem dX9_restore_25 : decode cX9_restore 25 = .ok (.iaload, 1) := by decide +kernel
theorem dX9_restore_26 : decode cX9_restore 26 = .ok (.ireturn, 1) := by decide +kernel
set_option maxRecDepth 20000 in
theorem ggX9_isScene_X9_isIn : GoodIn wsX9_isScene wsX9_isIn := goodIn_r _ [5] (by decide +kernel) (by decide +kernel)
set_option maxRecDepth 20000 in
theorem gX9_isScene_X9_isIn : GoodIn wsX9_isScene (va_wsS RX9 42 yX9_isIn wsX9_isIn) := goodIn_app (goodIn_of _ (by decide +kernel)) ggX9_isScene_X9_isIn
theorem dX9_isScene_0 : decode cX9_isScene 0 = .ok (.iload_n 1, 1) := by decide +kernel
theorem dX9_isScene_1 : decode cX9_isScene 1 = .ok (.iconst 0, 1) := by decide +kernel
theorem dX9_isScene_2 : decode cX9_isScene 2 = .ok (.aload_n 0, 1) := by decide +kernel
theorem dX9_isScene_3 : decode cX9_isScene 3 = .ok (.getfield 7, 3) := by decide +kernel
theorem dX9_isScene_6 : decode cX9_isScene 6 = .ok (.iconst 0, 1) := by decide +kernel
theorem dX9_isScene_7 : decode cX9_isScene 7 = .ok (.iaload, 1) := by decide +kernel
theorem dX9_isScene_8 : decode cX9_isScene 8 = .ok (.iconst 1, 1) := by decide +kernel
theorem dX9_isScene_9 : decode cX9_isScene 9 = .ok (.isub, 1) := by decide +kernel
theorem dX9_isScene_10 : decode cX9_isScene 10 = .ok (.invokestatic 42, 3) := by decide +kernel
theorem dX9_isScene_13 : decode cX9_isScene 13 = .ok (.ireturn, 1) := by decide +kernel
theorem dX9_framesOf_0 : decode cX9_framesOf 0 = .ok (.aload_n 0, 1) := by decide +kernel
theorem dX9_framesOf_1 : decode cX9_framesOf 1 = .ok (.getfield 7, 3) := by decide +kernel
theorem dX9_framesOf_4 : decode cX9_framesOf 4 = .ok (.bipush 8, 2) := by decide +kernel
theorem dX9_framesOf_6 : decode cX9_framesOf 6 = .ok (.iconst 2, 1) := by decide +kernel
theorem dX9_framesOf_7 : decode cX9_framesOf 7 = .ok (.iload_n 1, 1) := by decide +kernel
theorem dX9_framesOf_8 : decode cX9_framesOf 8 = .ok (.imul, 1) := by decide +kernel
theorem dX9_framesOf_9 : decode cX9_framesOf 9 = .ok (.iadd, 1) := by decide +kernel
theorem dX9_framesOf_10 : decode cX9_framesOf 10 = .ok (.iconst 1, 1) := by decide +kernel
theorem dX9_framesOf_11 : decode cX9_framesOf 11 = .ok (.iadd, 1) := by decide +kernel
theorem dX9_framesOf_12 : decode cX9_framesOf 12 = .ok (.iaload, 1) := by decide +kernel
theorem dX9_framesOf_13 : decode cX9_framesOf 13 = .ok (.ireturn, 1) := by decide +kernel
set_option maxRecDepth 20000 in
theorem ggX9_isFrame_X9_isScene : GoodIn wsX9_isFrame wsX9_isScene := goodIn_r _ [5, 6, 7, 8, 4, 9, 14, 15, 16, 17, 18, 19, 20, 21, 22, 23, 24, 25] (by decide +kernel) (by decide +kernel)
set_option maxRecDepth 20000 in
theorem gX9_isFrame_X9_isScene : GoodIn wsX9_isFrame (wsV RX9 46 RX9 yX9_isScene wsX9_isScene) := goodIn_app (goodIn_of _ (by decide +kernel)) ggX9_isFrame_X9_isScene
set_option maxRecDepth 20000 in
theorem ggX9_isFrame_X9_framesOf : GoodIn wsX9_isFrame wsX9_framesOf := goodIn_r _ [13, 6, 14, 15, 16, 17, 18, 19, 20, 21, 22, 23, 24, 25] (by decide +kernel) (by decide +kernel)
set_option maxRecDepth 20000 in
theorem gX9_isFrame_X9_framesOf : GoodIn wsX9_isFrame (wsV RX9 50 RX9 yX9_framesOf wsX9_framesOf) := goodIn_app (goodIn_of _ (by decide +kernel)) ggX9_isFrame_X9_framesOf
set_option maxRecDepth 20000 in
theorem ggX9_isFrame_X9_isIn : GoodIn wsX9_isFrame wsX9_isIn := goodIn_r _ [9] (by decide +kernel) (by decide +kernel)
set_option maxRecDepth 20000 in
theorem gX9_isFrame_X9_isIn : GoodIn wsX9_isFrame (va_wsS RX9 42 yX9_isIn wsX9_isIn) := goodIn_app (goodIn_of _ (by decide +kernel)) ggX9_isFrame_X9_isIn
theorem dX9_isFrame_0 : decode cX9_isFrame 0 = .ok (.aload_n 0, 1) := by decide +kernel
theorem dX9_isFrame_1 : decode cX9_isFrame 1 = .ok (.iload_n 1, 1) := by decide +kernel
theorem dX9_isFrame_2 : decode cX9_isFrame 2 = .ok (.invokevirtual 46, 3) := by decide +kernel
theorem dX9_isFrame_5 : decode cX9_isFrame 5 = .ok (.ifCond .eq 22, 3) := by decide +kernel
theorem dX9_isFrame_8 : decode cX9_isFrame 8 = .ok (.iload_n 2, 1) := by decide +kernel
theorem dX9_isFrame_9 : decode cX9_isFrame 9 = .ok (.iconst 0, 1) := by decide +kernel
theorem dX9_isFrame_10 : decode cX9_isFrame 10 = .ok (.aload_n 0, 1) := by decide +kernel
theorem dX9_isFrame_11 : decode cX9_isFrame 11 = .ok (.iload_n 1, 1) := by decide +kernel
theorem dX9_isFrame_12 : decode cX9_isFrame 12 = .ok (.invokevirtual 50, 3) := by decide +kernel
theorem dX9_isFrame_15 : decode cX9_isFrame 15 = .ok (.iconst 1, 1) := by decide +kernel
theorem dX9_isFrame_16 : decode cX9_isFrame 16 = .ok (.isub, 1) := by decide +kernel
theorem dX9_isFrame_17 : decode cX9_isFrame 17 = .ok (.invokestatic 42, 3) := by decide +kernel
theorem dX9_isFrame_20 : decode cX9_isFrame 20 = .ok (.ifCond .eq 7, 3) := by decide +kernel
theorem dX9_isFrame_23 : decode cX9_isFrame 23 = .ok (.iconst 1, 1) := by decide +kernel
theorem dX9_isFrame_24 : decode cX9_isFrame 24 = .ok (.goto 4, 3) := by decide +kernel
theorem dX9_isFrame_27 : decode cX9_isFrame 27 = .ok (.iconst 0, 1) := by decide +kernel
theorem dX9_isFrame_28 : decode cX9_isFrame 28 = .ok (.ireturn, 1) := by decide +kernel
set_option maxRecDepth 20000 in
theorem ggX9_isPiece_X9_isIn : GoodIn wsX9_isPiece wsX9_isIn := goodIn_r _ [5] (by decide +kernel) (by decide +kernel)
set_option maxRecDepth 20000 in
theorem gX9_isPiece_X9_isIn : GoodIn wsX9_isPiece (va_wsS RX9 42 yX9_isIn wsX9_isIn) := goodIn_app (goodIn_of _ (by decide +kernel)) ggX9_isPiece_X9_isIn
theorem dX9_isPiece_0 : decode cX9_isPiece 0 = .ok (.iload_n 1, 1) := by decide +kernel
theorem dX9_isPiece_1 : decode cX9_isPiece 1 = .ok (.iconst 0, 1) := by decide +kernel
theorem dX9_isPiece_2 : decode cX9_isPiece 2 = .ok (.aload_n 0, 1) := by decide +kernel
theorem dX9_isPiece_3 : decode cX9_isPiece 3 = .ok (.getfield 7, 3) := by decide +kernel
theorem dX9_isPiece_6 : decode cX9_isPiece 6 = .ok (.iconst 1, 1) := by decide +kernel
theorem dX9_isPiece_7 : decode cX9_isPiece 7 = .ok (.iaload, 1) := by decide +kernel
theorem dX9_isPiece_8 : decode cX9_isPiece 8 = .ok (.iconst 1, 1) := by decide +kernel
theorem dX9_isPiece_9 : decode cX9_isPiece 9 = .ok (.isub, 1) := by decide +kernel
theorem dX9_isPiece_10 : decode cX9_isPiece 10 = .ok (.invokestatic 42, 3) := by decide +kernel
theorem dX9_isPiece_13 : decode cX9_isPiece 13 = .ok (.ireturn, 1) := by decide +kernel
theorem dX9_ofP_0 : decode cX9_ofP 0 = .ok (.aload_n 0, 1) := by decide +kernel
theorem dX9_ofP_1 : decode cX9_ofP 1 = .ok (.getfield 7, 3) := by decide +kernel
theorem dX9_ofP_4 : decode cX9_ofP 4 = .ok (.sipush 992, 3) := by decide +kernel
theorem dX9_ofP_7 : decode cX9_ofP 7 = .ok (.iconst 4, 1) := by decide +kernel
theorem dX9_ofP_8 : decode cX9_ofP 8 = .ok (.iload_n 1, 1) := by decide +kernel
theorem dX9_ofP_9 : decode cX9_ofP 9 = .ok (.imul, 1) := by decide +kernel
theorem dX9_ofP_10 : decode cX9_ofP 10 = .ok (.iadd, 1) := by decide +kernel
theorem dX9_ofP_11 : decode cX9_ofP 11 = .ok (.iload_n 2, 1) := by decide +kernel
theorem dX9_ofP_12 : decode cX9_ofP 12 = .ok (.iadd, 1) := by decide +kernel
theorem dX9_ofP_13 : decode cX9_ofP 13 = .ok (.iaload, 1) := by decide +kernel
theorem dX9_ofP_14 : decode cX9_ofP 14 = .ok (.ireturn, 1) := by decide +kernel
theorem dX9_setsP_0 : decode cX9_setsP 0 = .ok (.aload_n 0, 1) := by decide +kernel
theorem dX9_setsP_1 : decode cX9_setsP 1 = .ok (.getfield 7, 3) := by decide +kernel
theorem dX9_setsP_4 : decode cX9_setsP 4 = .ok (.sipush 992, 3) := by decide +kernel
theorem dX9_setsP_7 : decode cX9_setsP 7 = .ok (.iconst 4, 1) := by decide +kernel
theorem dX9_setsP_8 : decode cX9_setsP 8 = .ok (.iload_n 1, 1) := by decide +kernel
theorem dX9_setsP_9 : decode cX9_setsP 9 = .ok (.imul, 1) := by decide +kernel
theorem dX9_setsP_10 : decode cX9_setsP 10 = .ok (.iadd, 1) := by decide +kernel
theorem dX9_setsP_11 : decode cX9_setsP 11 = .ok (.iload_n 2, 1) := by decide +kernel
theorem dX9_setsP_12 : decode cX9_setsP 12 = .ok (.iadd, 1) := by decide +kernel
theorem dX9_setsP_13 : decode cX9_setsP 13 = .ok (.iload_n 3, 1) := by decide +kernel
theorem dX9_setsP_14 : decode cX9_setsP 14 = .ok (.iastore, 1) := by decide +kernel
theorem dX9_setsP_15 : decode cX9_setsP 15 = .ok (.return_, 1) := by decide +kernel
theorem dX9_ofC_0 : decode cX9_ofC 0 = .ok (.aload_n 0, 1) := by decide +kernel
theorem dX9_ofC_1 : decode cX9_ofC 1 = .ok (.getfield 7, 3) := by decide +kernel
theorem dX9_ofC_4 : decode cX9_ofC 4 = .ok (.sipush 1072, 3) := by decide +kernel
theorem dX9_ofC_7 : decode cX9_ofC 7 = .ok (.iconst 3, 1) := by decide +kernel
theorem dX9_ofC_8 : decode cX9_ofC 8 = .ok (.iload_n 1, 1) := by decide +kernel
theorem dX9_ofC_9 : decode cX9_ofC 9 = .ok (.imul, 1) := by decide +kernel
theorem dX9_ofC_10 : decode cX9_ofC 10 = .ok (.iadd, 1) := by decide +kernel
theorem dX9_ofC_11 : decode cX9_ofC 11 = .ok (.iload_n 2, 1) := by decide +kernel
theorem dX9_ofC_12 : decode cX9_ofC 12 = .ok (.iadd, 1) := by decide +kernel
theorem dX9_ofC_13 : decode cX9_ofC 13 = .ok (.iaload, 1) := by decide +kernel
theorem dX9_ofC_14 : decode cX9_ofC 14 = .ok (.ireturn, 1) := by decide +kernel
set_option maxRecDepth 20000 in
theorem ggX9_framesIn_X9_ofP : GoodIn wsX9_framesIn wsX9_ofP := goodIn_r _ [5, 6, 7, 8, 9, 10, 11, 12, 13, 14, 15, 16, 17, 18] (by decide +kernel) (by decide +kernel)
set_option maxRecDepth 20000 in
theorem gX9_framesIn_X9_ofP : GoodIn wsX9_framesIn (wsV RX9 54 RX9 yX9_ofP wsX9_ofP) := goodIn_app (goodIn_of _ (by decide +kernel)) ggX9_framesIn_X9_ofP
theorem dX9_framesIn_0 : decode cX9_framesIn 0 = .ok (.aload_n 0, 1) := by decide +kernel
theorem dX9_framesIn_1 : decode cX9_framesIn 1 = .ok (.iload_n 1, 1) := by decide +kernel
theorem dX9_framesIn_2 : decode cX9_framesIn 2 = .ok (.iconst 2, 1) := by decide +kernel
theorem dX9_framesIn_3 : decode cX9_framesIn 3 = .ok (.invokevirtual 54, 3) := by decide +kernel
theorem dX9_framesIn_6 : decode cX9_framesIn 6 = .ok (.aload_n 0, 1) := by decide +kernel
theorem dX9_framesIn_7 : decode cX9_framesIn 7 = .ok (.iload_n 1, 1) := by decide +kernel
theorem dX9_framesIn_8 : decode cX9_framesIn 8 = .ok (.iconst 1, 1) := by decide +kernel
theorem dX9_framesIn_9 : decode cX9_framesIn 9 = .ok (.invokevirtual 54, 3) := by decide +kernel
theorem dX9_framesIn_12 : decode cX9_framesIn 12 = .ok (.isub, 1) := by decide +kernel
theorem dX9_framesIn_13 : decode cX9_framesIn 13 = .ok (.iconst 1, 1) := by decide +kernel
theorem dX9_framesIn_14 : decode cX9_framesIn 14 = .ok (.iadd, 1) := by decide +kernel
theorem dX9_framesIn_15 : decode cX9_framesIn 15 = .ok (.ireturn, 1) := by decide +kernel
set_option maxRecDepth 20000 in
theorem ggX9_positionOf_X9_framesIn : GoodIn wsX9_positionOf wsX9_framesIn := goodIn_r _ [5, 6, 7, 8, 4, 9, 10, 11, 12, 13, 14, 15, 16, 17, 18, 19, 20, 21, 22] (by decide +kernel) (by decide +kernel)
set_option maxRecDepth 20000 in
theorem gX9_positionOf_X9_framesIn : GoodIn wsX9_positionOf (wsV RX9 58 RX9 yX9_framesIn wsX9_framesIn) := goodIn_app (goodIn_of _ (by decide +kernel)) ggX9_positionOf_X9_framesIn
theorem dX9_positionOf_0 : decode cX9_positionOf 0 = .ok (.iconst 0, 1) := by decide +kernel
theorem dX9_positionOf_1 : decode cX9_positionOf 1 = .ok (.istore_n 2, 1) := by decide +kernel
theorem dX9_positionOf_2 : decode cX9_positionOf 2 = .ok (.iconst 0, 1) := by decide +kernel
theorem dX9_positionOf_3 : decode cX9_positionOf 3 = .ok (.istore_n 3, 1) := by decide +kernel
theorem dX9_positionOf_4 : decode cX9_positionOf 4 = .ok (.iload_n 3, 1) := by decide +kernel
theorem dX9_positionOf_5 : decode cX9_positionOf 5 = .ok (.iload_n 1, 1) := by decide +kernel
theorem dX9_positionOf_6 : decode cX9_positionOf 6 = .ok (.if_icmp .ge 17, 3) := by decide +kernel
theorem dX9_positionOf_9 : decode cX9_positionOf 9 = .ok (.iload_n 2, 1) := by decide +kernel
theorem dX9_positionOf_10 : decode cX9_positionOf 10 = .ok (.aload_n 0, 1) := by decide +kernel
theorem dX9_positionOf_11 : decode cX9_positionOf 11 = .ok (.iload_n 3, 1) := by decide +kernel
theorem dX9_positionOf_12 : decode cX9_positionOf 12 = .ok (.invokevirtual 58, 3) := by decide +kernel
theorem dX9_positionOf_15 : decode cX9_positionOf 15 = .ok (.iadd, 1) := by decide +kernel
theorem dX9_positionOf_16 : decode cX9_positionOf 16 = .ok (.istore_n 2, 1) := by decide +kernel
theorem dX9_positionOf_17 : decode cX9_positionOf 17 = .ok (.iinc 3 1, 3) := by decide +kernel
theorem dX9_positionOf_20 : decode cX9_positionOf 20 = .ok (.goto (-16), 3) := by decide +kernel
theorem dX9_positionOf_23 : decode cX9_positionOf 23 = .ok (.iload_n 2, 1) := by decide +kernel
theorem dX9_positionOf_24 : decode cX9_positionOf 24 = .ok (.ireturn, 1) := by decide +kernel
set_option maxRecDepth 20000 in
theorem ggX9_pieceAt_X9_positionOf : GoodIn wsX9_pieceAt wsX9_positionOf := goodIn_r _ [5, 6, 7, 8, 4, 9, 10, 11, 12, 13, 14, 15, 16, 17, 18, 19, 20, 21, 22, 23, 24, 25, 26] (by decide +kernel) (by decide +kernel)
set_option maxRecDepth 20000 in
theorem gX9_pieceAt_X9_positionOf : GoodIn wsX9_pieceAt (wsV RX9 61 RX9 yX9_positionOf wsX9_positionOf) := goodIn_app (goodIn_of _ (by decide +kernel)) ggX9_pieceAt_X9_positionOf
set_option maxRecDepth 20000 in
theorem ggX9_pieceAt_X9_framesIn : GoodIn wsX9_pieceAt wsX9_framesIn := goodIn_r _ [9, 10, 11, 12, 4, 13, 14, 15, 16, 17, 18, 19, 20, 21, 22, 23, 24, 25, 26] (by decide +kernel) (by decide +kernel)
set_option maxRecDepth 20000 in
theorem gX9_pieceAt_X9_framesIn : GoodIn wsX9_pieceAt (wsV RX9 58 RX9 yX9_framesIn wsX9_framesIn) := goodIn_app (goodIn_of _ (by decide +kernel)) ggX9_pieceAt_X9_framesIn
theorem dX9_pieceAt_0 : decode cX9_pieceAt 0 = .ok (.iconst 0, 1) := by decide +kernel
theorem dX9_pieceAt_1 : decode cX9_pieceAt 1 = .ok (.istore_n 2, 1) := by decide +kernel
theorem dX9_pieceAt_2 : decode cX9_pieceAt 2 = .ok (.iload_n 1, 1) := by decide +kernel
theorem dX9_pieceAt_3 : decode cX9_pieceAt 3 = .ok (.aload_n 0, 1) := by decide +kernel
theorem dX9_pieceAt_4 : decode cX9_pieceAt 4 = .ok (.iload_n 2, 1) := by decide +kernel
theorem dX9_pieceAt_5 : decode cX9_pieceAt 5 = .ok (.invokevirtual 61, 3) := by decide +kernel
theorem dX9_pieceAt_8 : decode cX9_pieceAt 8 = .ok (.aload_n 0, 1) := by decide +kernel
theorem dX9_pieceAt_9 : decode cX9_pieceAt 9 = .ok (.iload_n 2, 1) := by decide +kernel
theorem dX9_pieceAt_10 : decode cX9_pieceAt 10 = .ok (.invokevirtual 58, 3) := by decide +kernel
theorem dX9_pieceAt_13 : decode cX9_pieceAt 13 = .ok (.iadd, 1) := by decide +kernel
theorem dX9_pieceAt_14 : decode cX9_pieceAt 14 = .ok (.if_icmp .lt 9, 3) := by decide +kernel
theorem dX9_pieceAt_17 : decode cX9_pieceAt 17 = .ok (.iinc 2 1, 3) := by decide +kernel
theorem dX9_pieceAt_20 : decode cX9_pieceAt 20 = .ok (.goto (-18), 3) := by decide +kernel
theorem dX9_pieceAt_23 : decode cX9_pieceAt 23 = .ok (.iload_n 2, 1) := by decide +kernel
theorem dX9_pieceAt_24 : decode cX9_pieceAt 24 = .ok (.ireturn, 1) := by decide +kernel
theorem dX9_torn_0 : decode cX9_torn 0 = .ok (.aload_n 0, 1) := by decide +kernel
theorem dX9_torn_1 : decode cX9_torn 1 = .ok (.getfield 7, 3) := by decide +kernel
theorem dX9_torn_4 : decode cX9_torn 4 = .ok (.bipush 32, 2) := by decide +kernel
theorem dX9_torn_6 : decode cX9_torn 6 = .ok (.iconst 2, 1) := by decide +kernel
theorem dX9_torn_7 : decode cX9_torn 7 = .ok (.bipush 40, 2) := by decide +kernel
theorem dX9_torn_9 : decode cX9_torn 9 = .ok (.iload_n 1, 1) := by decide +kernel
theorem dX9_torn_10 : decode cX9_torn 10 = .ok (.imul, 1) := by decide +kernel
theorem dX9_torn_11 : decode cX9_torn 11 = .ok (.iload_n 2, 1) := by decide +kernel
theorem dX9_torn_12 : decode cX9_torn 12 = .ok (.iadd, 1) := by decide +kernel
theorem dX9_torn_13 : decode cX9_torn 13 = .ok (.imul, 1) := by decide +kernel
theorem dX9_torn_14 : decode cX9_torn 14 = .ok (.iadd, 1) := by decide +kernel
theorem dX9_torn_15 : decode cX9_torn 15 = .ok (.iaload, 1) := by decide +kernel
theorem dX9_torn_16 : decode cX9_torn 16 = .ok (.ireturn, 1) := by decide +kernel
theorem dX9_passes_0 : decode cX9_passes 0 = .ok (.aload_n 0, 1) := by decide +kernel
theorem dX9_passes_1 : decode cX9_passes 1 = .ok (.getfield 7, 3) := by decide +kernel
theorem dX9_passes_4 : decode cX9_passes 4 = .ok (.bipush 32, 2) := by decide +kernel
theorem dX9_passes_6 : decode cX9_passes 6 = .ok (.iconst 2, 1) := by decide +kernel
theorem dX9_passes_7 : decode cX9_passes 7 = .ok (.bipush 40, 2) := by decide +kernel
theorem dX9_passes_9 : decode cX9_passes 9 = .ok (.iload_n 1, 1) := by decide +kernel
theorem dX9_passes_10 : decode cX9_passes 10 = .ok (.imul, 1) := by decide +kernel
theorem dX9_passes_11 : decode cX9_passes 11 = .ok (.iload_n 2, 1) := by decide +kernel
theorem dX9_passes_12 : decode cX9_passes 12 = .ok (.iadd, 1) := by decide +kernel
theorem dX9_passes_13 : decode cX9_passes 13 = .ok (.imul, 1) := by decide +kernel
theorem dX9_passes_14 : decode cX9_passes 14 = .ok (.iadd, 1) := by decide +kernel
theorem dX9_passes_15 : decode cX9_passes 15 = .ok (.iconst 1, 1) := by decide +kernel
theorem dX9_passes_16 : decode cX9_passes 16 = .ok (.iadd, 1) := by decide +kernel
theorem dX9_passes_17 : decode cX9_passes 17 = .ok (.iaload, 1) := by decide +kernel
theorem dX9_passes_18 : decode cX9_passes 18 = .ok (.ireturn, 1) := by decide +kernel
set_option maxRecDepth 20000 in
theorem ggX9_good_X9_torn : GoodIn wsX9_good wsX9_torn := goodIn_r _ [5, 6, 10, 11, 12, 13, 14, 15, 16, 17, 18, 19, 20, 21] (by decide +kernel) (by decide +kernel)
set_option maxRecDepth 20000 in
theorem gX9_good_X9_torn : GoodIn wsX9_good (wsV RX9 64 RX9 yX9_torn wsX9_torn) := goodIn_app (goodIn_of _ (by decide +kernel)) ggX9_good_X9_torn
set_option maxRecDepth 20000 in
theorem ggX9_good_X9_ones : GoodIn wsX9_good wsX9_ones := goodIn_r _ [9] (by decide +kernel) (by decide +kernel)
set_option maxRecDepth 20000 in
theorem gX9_good_X9_ones : GoodIn wsX9_good (va_wsS RX9 67 yX9_ones wsX9_ones) := goodIn_app (goodIn_of _ (by decide +kernel)) ggX9_good_X9_ones
theorem dX9_good_0 : decode cX9_good 0 = .ok (.iconst 4, 1) := by decide +kernel
theorem dX9_good_1 : decode cX9_good 1 = .ok (.aload_n 0, 1) := by decide +kernel
theorem dX9_good_2 : decode cX9_good 2 = .ok (.iload_n 1, 1) := by decide +kernel
theorem dX9_good_3 : decode cX9_good 3 = .ok (.iload_n 2, 1) := by decide +kernel
theorem dX9_good_4 : decode cX9_good 4 = .ok (.invokevirtual 64, 3) := by decide +kernel
theorem dX9_good_7 : decode cX9_good 7 = .ok (.invokestatic 67, 3) := by decide +kernel
theorem dX9_good_10 : decode cX9_good 10 = .ok (.isub, 1) := by decide +kernel
theorem dX9_good_11 : decode cX9_good 11 = .ok (.ireturn, 1) := by decide +kernel
set_option maxRecDepth 20000 in
theorem ggX9_inserts_X9_setsP : GoodIn wsX9_inserts wsX9_setsP := goodIn_r _ [6, 1, 14, 15, 16, 17, 18, 19, 20, 21, 22, 23, 24, 25] (by decide +kernel) (by decide +kernel)
set_option maxRecDepth 20000 in
theorem gX9_inserts_X9_setsP : GoodIn wsX9_inserts (wsV RX9 70 RX9 yX9_setsP wsX9_setsP) := goodIn_app (goodIn_of _ (by decide +kernel)) ggX9_inserts_X9_setsP
set_option maxRecDepth 20000 in
theorem ggX9_inserts_X9_isPiece : GoodIn wsX9_inserts wsX9_isPiece := goodIn_r _ [10, 1, 11, 12, 5, 13, 14, 15, 16, 17, 18, 19, 20, 21, 22, 23, 24, 25] (by decide +kernel) (by decide +kernel)
set_option maxRecDepth 20000 in
theorem gX9_inserts_X9_isPiece : GoodIn wsX9_inserts (wsV RX9 74 RX9 yX9_isPiece wsX9_isPiece) := goodIn_app (goodIn_of _ (by decide +kernel)) ggX9_inserts_X9_isPiece
theorem dX9_inserts_0 : decode cX9_inserts 0 = .ok (.iconst 4, 1) := by decide +kernel
theorem dX9_inserts_1 : decode cX9_inserts 1 = .ok (.aload_n 0, 1) := by decide +kernel
theorem dX9_inserts_2 : decode cX9_inserts 2 = .ok (.getfield 7, 3) := by decide +kernel
theorem dX9_inserts_5 : decode cX9_inserts 5 = .ok (.iconst 1, 1) := by decide +kernel
theorem dX9_inserts_6 : decode cX9_inserts 6 = .ok (.iaload, 1) := by decide +kernel
theorem dX9_inserts_7 : decode cX9_inserts 7 = .ok (.imul, 1) := by decide +kernel
theorem dX9_inserts_8 : decode cX9_inserts 8 = .ok (.iconst 1, 1) := by decide +kernel
theorem dX9_inserts_9 : decode cX9_inserts 9 = .ok (.isub, 1) := by decide +kernel
theorem dX9_inserts_10 : decode cX9_inserts 10 = .ok (.istore 5, 2) := by decide +kernel
theorem dX9_inserts_12 : decode cX9_inserts 12 = .ok (.iload 5, 2) := by decide +kernel
theorem dX9_inserts_14 : decode cX9_inserts 14 = .ok (.iconst 4, 1) := by decide +kernel
theorem dX9_inserts_15 : decode cX9_inserts 15 = .ok (.iload_n 1, 1) := by decide +kernel
theorem dX9_inserts_16 : decode cX9_inserts 16 = .ok (.imul, 1) := by decide +kernel
theorem dX9_inserts_17 : decode cX9_inserts 17 = .ok (.if_icmp .lt 33, 3) := by decide +kernel
theorem dX9_inserts_20 : decode cX9_inserts 20 = .ok (.aload_n 0, 1) := by decide +kernel
theorem dX9_inserts_21 : decode cX9_inserts 21 = .ok (.getfield 7, 3) := by decide +kernel
theorem dX9_inserts_24 : decode cX9_inserts 24 = .ok (.sipush 992, 3) := by decide +kernel
theorem dX9_inserts_27 : decode cX9_inserts 27 = .ok (.iload 5, 2) := by decide +kernel
theorem dX9_inserts_29 : decode cX9_inserts 29 = .ok (.iadd, 1) := by decide +kernel
theorem dX9_inserts_30 : decode cX9_inserts 30 = .ok (.iconst 4, 1) := by decide +kernel
theorem dX9_inserts_31 : decode cX9_inserts 31 = .ok (.iadd, 1) := by decide +kernel
theorem dX9_inserts_32 : decode cX9_inserts 32 = .ok (.aload_n 0, 1) := by decide +kernel
theorem dX9_inserts_33 : decode cX9_inserts 33 = .ok (.getfield 7, 3) := by decide +kernel
theorem dX9_inserts_36 : decode cX9_inserts 36 = .ok (.sipush 992, 3) := by decide +kernel
theorem dX9_inserts_39 : decode cX9_inserts 39 = .ok (.iload 5, 2) := by decide +kernel
theorem dX9_inserts_41 : decode cX9_inserts 41 = .ok (.iadd, 1) := by decide +kernel
theorem dX9_inserts_42 : decode cX9_inserts 42 = .ok (.iaload, 1) := by decide +kernel
theorem dX9_inserts_43 : decode cX9_inserts 43 = .ok (.iastore, 1) := by decide +kernel
theorem dX9_inserts_44 : decode cX9_inserts 44 = .ok (.iinc 5 (-1), 3) := by decide +kernel
theorem dX9_inserts_47 : decode cX9_inserts 47 = .ok (.goto (-35), 3) := by decide +kernel
theorem dX9_inserts_50 : decode cX9_inserts 50 = .ok (.aload_n 0, 1) := by decide +kernel
theorem dX9_inserts_51 : decode cX9_inserts 51 = .ok (.getfield 7, 3) := by decide +kernel
theorem dX9_inserts_54 : decode cX9_inserts 54 = .ok (.iconst 1, 1) := by decide +kernel
theorem dX9_inserts_55 : decode cX9_inserts 55 = .ok (.dup2, 1) := by decide +kernel
theorem dX9_inserts_56 : decode cX9_inserts 56 = .ok (.iaload, 1) := by decide +kernel
theorem dX9_inserts_57 : decode cX9_inserts 57 = .ok (.iconst 1, 1) := by decide +kernel
theorem dX9_inserts_58 : decode cX9_inserts 58 = .ok (.iadd, 1) := by decide +kernel
theorem dX9_inserts_59 : decode cX9_inserts 59 = .ok (.iastore, 1) := by decide +kernel
theorem dX9_inserts_60 : decode cX9_inserts 60 = .ok (.aload_n 0, 1) := by decide +kernel
theorem dX9_inserts_61 : decode cX9_inserts 61 = .ok (.iload_n 1, 1) := by decide +kernel
theorem dX9_inserts_62 : decode cX9_inserts 62 = .ok (.iconst 0, 1) := by decide +kernel
theorem dX9_inserts_63 : decode cX9_inserts 63 = .ok (.iload_n 2, 1) := by decide +kernel
theorem dX9_inserts_64 : decode cX9_inserts 64 = .ok (.invokevirtual 70, 3) := by decide +kernel
theorem dX9_inserts_67 : decode cX9_inserts 67 = .ok (.aload_n 0, 1) := by decide +kernel
theorem dX9_inserts_68 : decode cX9_inserts 68 = .ok (.iload_n 1, 1) := by decide +kernel
theorem dX9_inserts_69 : decode cX9_inserts 69 = .ok (.iconst 1, 1) := by decide +kernel
theorem dX9_inserts_70 : decode cX9_inserts 70 = .ok (.iload_n 3, 1) := by decide +kernel
theorem dX9_inserts_71 : decode cX9_inserts 71 = .ok (.invokevirtual 70, 3) := by decide +kernel
theorem dX9_inserts_74 : decode cX9_inserts 74 = .ok (.aload_n 0, 1) := by decide +kernel
theorem dX9_inserts_75 : decode cX9_inserts 75 = .ok (.iload_n 1, 1) := by decide +kernel
theorem dX9_inserts_76 : decode cX9_inserts 76 = .ok (.iconst 2, 1) := by decide +kernel
theorem dX9_inserts_77 : decode cX9_inserts 77 = .ok (.iload 4, 2) := by decide +kernel
theorem dX9_inserts_79 : decode cX9_inserts 79 = .ok (.invokevirtual 70, 3) := by decide +kernel
theorem dX9_inserts_82 : decode cX9_inserts 82 = .ok (.aload_n 0, 1) := by decide +kernel
theorem dX9_inserts_83 : decode cX9_inserts 83 = .ok (.iload_n 1, 1) := by decide +kernel
theorem dX9_inserts_84 : decode cX9_inserts 84 = .ok (.iconst 3, 1) := by decide +kernel
theorem dX9_inserts_85 : decode cX9_inserts 85 = .ok (.iconst 0, 1) := by decide +kernel
theorem dX9_inserts_86 : decode cX9_inserts 86 = .ok (.invokevirtual 70, 3) := by decide +kernel
theorem dX9_inserts_89 : decode cX9_inserts 89 = .ok (.aload_n 0, 1) := by decide +kernel
theorem dX9_inserts_90 : decode cX9_inserts 90 = .ok (.iload_n 1, 1) := by decide +kernel
theorem dX9_inserts_91 : decode cX9_inserts 91 = .ok (.iconst 1, 1) := by decide +kernel
theorem dX9_inserts_92 : decode cX9_inserts 92 = .ok (.iadd, 1) := by decide +kernel
theorem dX9_inserts_93 : decode cX9_inserts 93 = .ok (.invokevirtual 74, 3) := by decide +kernel
theorem dX9_inserts_96 : decode cX9_inserts 96 = .ok (.ifCond .eq 12, 3) := by decide +kernel
theorem dX9_inserts_99 : decode cX9_inserts 99 = .ok (.aload_n 0, 1) := by decide +kernel
theorem dX9_inserts_100 : decode cX9_inserts 100 = .ok (.iload_n 1, 1) := by decide +kernel
theorem dX9_inserts_101 : decode cX9_inserts 101 = .ok (.iconst 1, 1) := by decide +kernel
theorem dX9_inserts_102 : decode cX9_inserts 102 = .ok (.iadd, 1) := by decide +kernel
theorem dX9_inserts_103 : decode cX9_inserts 103 = .ok (.iconst 3, 1) := by decide +kernel
theorem dX9_inserts_104 : decode cX9_inserts 104 = .ok (.iconst 0, 1) := by decide +kernel
theorem dX9_inserts_105 : decode cX9_inserts 105 = .ok (.invokevirtual 70, 3) := by decide +kernel
theorem dX9_inserts_108 : decode cX9_inserts 108 = .ok (.return_, 1) := by decide +kernel
set_option maxRecDepth 20000 in
theorem ggX9_removes_X9_isPiece : GoodIn wsX9_removes wsX9_isPiece := goodIn_r _ [6, 1, 7, 8, 5, 9, 14, 15, 16, 17, 18, 19, 20, 21, 22, 23, 24, 25] (by decide +kernel) (by decide +kernel)
set_option maxRecDepth 20000 in
theorem gX9_removes_X9_isPiece : GoodIn wsX9_removes (wsV RX9 74 RX9 yX9_isPiece wsX9_isPiece) := goodIn_app (goodIn_of _ (by decide +kernel)) ggX9_removes_X9_isPiece
set_option maxRecDepth 20000 in
theorem ggX9_removes_X9_setsP : GoodIn wsX9_removes wsX9_setsP := goodIn_r _ [13, 1, 14, 15, 16, 17, 18, 19, 20, 21, 22, 23, 24, 25] (by decide +kernel) (by decide +kernel)
set_option maxRecDepth 20000 in
theorem gX9_removes_X9_setsP : GoodIn wsX9_removes (wsV RX9 70 RX9 yX9_setsP wsX9_setsP) := goodIn_app (goodIn_of _ (by decide +kernel)) ggX9_removes_X9_setsP
theorem dX9_removes_0 : decode cX9_removes 0 = .ok (.aload_n 0, 1) := by decide +kernel
theorem dX9_removes_1 : decode cX9_removes 1 = .ok (.getfield 7, 3) := by decide +kernel
theorem dX9_removes_4 : decode cX9_removes 4 = .ok (.iconst 1, 1) := by decide +kernel
theorem dX9_removes_5 : decode cX9_removes 5 = .ok (.dup2, 1) := by decide +kernel
theorem dX9_removes_6 : decode cX9_removes 6 = .ok (.iaload, 1) := by decide +kernel
theorem dX9_removes_7 : decode cX9_removes 7 = .ok (.iconst 1, 1) := by decide +kernel
theorem dX9_removes_8 : decode cX9_removes 8 = .ok (.isub, 1) := by decide +kernel
theorem dX9_removes_9 : decode cX9_removes 9 = .ok (.iastore, 1) := by decide +kernel
theorem dX9_removes_10 : decode cX9_removes 10 = .ok (.iconst 4, 1) := by decide +kernel
theorem dX9_removes_11 : decode cX9_removes 11 = .ok (.iload_n 1, 1) := by decide +kernel
theorem dX9_removes_12 : decode cX9_removes 12 = .ok (.imul, 1) := by decide +kernel
theorem dX9_removes_13 : decode cX9_removes 13 = .ok (.istore_n 2, 1) := by decide +kernel
theorem dX9_removes_14 : decode cX9_removes 14 = .ok (.iload_n 2, 1) := by decide +kernel
theorem dX9_removes_15 : decode cX9_removes 15 = .ok (.iconst 4, 1) := by decide +kernel
theorem dX9_removes_16 : decode cX9_removes 16 = .ok (.aload_n 0, 1) := by decide +kernel
theorem dX9_removes_17 : decode cX9_removes 17 = .ok (.getfield 7, 3) := by decide +kernel
theorem dX9_removes_20 : decode cX9_removes 20 = .ok (.iconst 1, 1) := by decide +kernel
theorem dX9_removes_21 : decode cX9_removes 21 = .ok (.iaload, 1) := by decide +kernel
theorem dX9_removes_22 : decode cX9_removes 22 = .ok (.imul, 1) := by decide +kernel
theorem dX9_removes_23 : decode cX9_removes 23 = .ok (.if_icmp .ge 31, 3) := by decide +kernel
theorem dX9_removes_26 : decode cX9_removes 26 = .ok (.aload_n 0, 1) := by decide +kernel
theorem dX9_removes_27 : decode cX9_removes 27 = .ok (.getfield 7, 3) := by decide +kernel
theorem dX9_removes_30 : decode cX9_removes 30 = .ok (.sipush 992, 3) := by decide +kernel
theorem dX9_removes_33 : decode cX9_removes 33 = .ok (.iload_n 2, 1) := by decide +kernel
theorem dX9_removes_34 : decode cX9_removes 34 = .ok (.iadd, 1) := by decide +kernel
theorem dX9_removes_35 : decode cX9_removes 35 = .ok (.aload_n 0, 1) := by decide +kernel
theorem dX9_removes_36 : decode cX9_removes 36 = .ok (.getfield 7, 3) := by decide +kernel
theorem dX9_removes_39 : decode cX9_removes 39 = .ok (.sipush 992, 3) := by decide +kernel
theorem dX9_removes_42 : decode cX9_removes 42 = .ok (.iload_n 2, 1) := by decide +kernel
theorem dX9_removes_43 : decode cX9_removes 43 = .ok (.iadd, 1) := by decide +kernel
theorem dX9_removes_44 : decode cX9_removes 44 = .ok (.iconst 4, 1) := by decide +kernel
theorem dX9_removes_45 : decode cX9_removes 45 = .ok (.iadd, 1) := by decide +kernel
theorem dX9_removes_46 : decode cX9_removes 46 = .ok (.iaload, 1) := by decide +kernel
theorem dX9_removes_47 : decode cX9_removes 47 = .ok (.iastore, 1) := by decide +kernel
theorem dX9_removes_48 : decode cX9_removes 48 = .ok (.iinc 2 1, 3) := by decide +kernel
theorem dX9_removes_51 : decode cX9_removes 51 = .ok (.goto (-37), 3) := by decide +kernel
theorem dX9_removes_54 : decode cX9_removes 54 = .ok (.aload_n 0, 1) := by decide +kernel
theorem dX9_removes_55 : decode cX9_removes 55 = .ok (.iload_n 1, 1) := by decide +kernel
theorem dX9_removes_56 : decode cX9_removes 56 = .ok (.invokevirtual 74, 3) := by decide +kernel
theorem dX9_removes_59 : decode cX9_removes 59 = .ok (.ifCond .eq 10, 3) := by decide +kernel
theorem dX9_removes_62 : decode cX9_removes 62 = .ok (.aload_n 0, 1) := by decide +kernel
theorem dX9_removes_63 : decode cX9_removes 63 = .ok (.iload_n 1, 1) := by decide +kernel
theorem dX9_removes_64 : decode cX9_removes 64 = .ok (.iconst 3, 1) := by decide +kernel
theorem dX9_removes_65 : decode cX9_removes 65 = .ok (.iconst 0, 1) := by decide +kernel
theorem dX9_removes_66 : decode cX9_removes 66 = .ok (.invokevirtual 70, 3) := by decide +kernel
theorem dX9_removes_69 : decode cX9_removes 69 = .ok (.return_, 1) := by decide +kernel
set_option maxRecDepth 20000 in
theorem ggX9_addScene_X9_isIn : GoodIn wsX9_addScene wsX9_isIn := goodIn_r _ [5] (by decide +kernel) (by decide +kernel)
set_option maxRecDepth 20000 in
theorem gX9_addScene_X9_isIn : GoodIn wsX9_addScene (va_wsS RX9 42 yX9_isIn wsX9_isIn) := goodIn_app (goodIn_of _ (by decide +kernel)) ggX9_addScene_X9_isIn
set_option maxRecDepth 20000 in
theorem ggX9_addScene_X9_records : GoodIn wsX9_addScene wsX9_records := goodIn_r _ [9, 10, 11, 1, 24, 25, 26, 27, 28, 29, 30, 31, 32, 33, 34, 35] (by decide +kernel) (by decide +kernel)
set_option maxRecDepth 20000 in
theorem gX9_addScene_X9_records : GoodIn wsX9_addScene (wsV RX9 38 RX9 yX9_records wsX9_records) := goodIn_app (goodIn_of _ (by decide +kernel)) ggX9_addScene_X9_records
set_option maxRecDepth 20000 in
theorem ggX9_addScene_X9_inserts : GoodIn wsX9_addScene wsX9_inserts := goodIn_r _ [15, 1, 16, 17, 18, 4, 19, 20, 21, 22, 23, 2, 3, 5, 24, 25, 26, 27, 28, 29, 30, 31, 32, 33, 34, 35] (by decide +kernel) (by decide +kernel)
set_option maxRecDepth 20000 in
theorem gX9_addScene_X9_inserts : GoodIn wsX9_addScene (wsV RX9 77 RX9 yX9_inserts wsX9_inserts) := goodIn_app (goodIn_of _ (by decide +kernel)) ggX9_addScene_X9_inserts
theorem dX9_addScene_0 : decode cX9_addScene 0 = .ok (.iload_n 1, 1) := by decide +kernel
theorem dX9_addScene_1 : decode cX9_addScene 1 = .ok (.iconst 0, 1) := by decide +kernel
theorem dX9_addScene_2 : decode cX9_addScene 2 = .ok (.iconst 5, 1) := by decide +kernel
theorem dX9_addScene_3 : decode cX9_addScene 3 = .ok (.invokestatic 42, 3) := by decide +kernel
theorem dX9_addScene_6 : decode cX9_addScene 6 = .ok (.ifCond .eq 13, 3) := by decide +kernel
theorem dX9_addScene_9 : decode cX9_addScene 9 = .ok (.iload_n 2, 1) := by decide +kernel
theorem dX9_addScene_10 : decode cX9_addScene 10 = .ok (.iconst 1, 1) := by decide +kernel
theorem dX9_addScene_11 : decode cX9_addScene 11 = .ok (.bipush 40, 2) := by decide +kernel
theorem dX9_addScene_13 : decode cX9_addScene 13 = .ok (.invokestatic 42, 3) := by decide +kernel
theorem dX9_addScene_16 : decode cX9_addScene 16 = .ok (.ifCond .ne 6, 3) := by decide +kernel
theorem dX9_addScene_19 : decode cX9_addScene 19 = .ok (.bipush (-2), 2) := by decide +kernel
theorem dX9_addScene_21 : decode cX9_addScene 21 = .ok (.ireturn, 1) := by decide +kernel
theorem dX9_addScene_22 : decode cX9_addScene 22 = .ok (.aload_n 0, 1) := by decide +kernel
theorem dX9_addScene_23 : decode cX9_addScene 23 = .ok (.getfield 7, 3) := by decide +kernel
theorem dX9_addScene_26 : decode cX9_addScene 26 = .ok (.iconst 0, 1) := by decide +kernel
theorem dX9_addScene_27 : decode cX9_addScene 27 = .ok (.iaload, 1) := by decide +kernel
theorem dX9_addScene_28 : decode cX9_addScene 28 = .ok (.bipush 12, 2) := by decide +kernel
theorem dX9_addScene_30 : decode cX9_addScene 30 = .ok (.if_icmp .eq 14, 3) := by decide +kernel
theorem dX9_addScene_33 : decode cX9_addScene 33 = .ok (.aload_n 0, 1) := by decide +kernel
theorem dX9_addScene_34 : decode cX9_addScene 34 = .ok (.getfield 7, 3) := by decide +kernel
theorem dX9_addScene_37 : decode cX9_addScene 37 = .ok (.iconst 1, 1) := by decide +kernel
theorem dX9_addScene_38 : decode cX9_addScene 38 = .ok (.iaload, 1) := by decide +kernel
theorem dX9_addScene_39 : decode cX9_addScene 39 = .ok (.bipush 20, 2) := by decide +kernel
theorem dX9_addScene_41 : decode cX9_addScene 41 = .ok (.if_icmp .ne 6, 3) := by decide +kernel
theorem dX9_addScene_44 : decode cX9_addScene 44 = .ok (.bipush (-3), 2) := by decide +kernel
theorem dX9_addScene_46 : decode cX9_addScene 46 = .ok (.ireturn, 1) := by decide +kernel
theorem dX9_addScene_47 : decode cX9_addScene 47 = .ok (.aload_n 0, 1) := by decide +kernel
theorem dX9_addScene_48 : decode cX9_addScene 48 = .ok (.iconst 0, 1) := by decide +kernel
theorem dX9_addScene_49 : decode cX9_addScene 49 = .ok (.invokevirtual 38, 3) := by decide +kernel
theorem dX9_addScene_52 : decode cX9_addScene 52 = .ok (.aload_n 0, 1) := by decide +kernel
theorem dX9_addScene_53 : decode cX9_addScene 53 = .ok (.getfield 7, 3) := by decide +kernel
theorem dX9_addScene_56 : decode cX9_addScene 56 = .ok (.iconst 0, 1) := by decide +kernel
theorem dX9_addScene_57 : decode cX9_addScene 57 = .ok (.iaload, 1) := by decide +kernel
theorem dX9_addScene_58 : decode cX9_addScene 58 = .ok (.istore_n 3, 1) := by decide +kernel
theorem dX9_addScene_59 : decode cX9_addScene 59 = .ok (.aload_n 0, 1) := by decide +kernel
theorem dX9_addScene_60 : decode cX9_addScene 60 = .ok (.getfield 7, 3) := by decide +kernel
theorem dX9_addScene_63 : decode cX9_addScene 63 = .ok (.iconst 0, 1) := by decide +kernel
theorem dX9_addScene_64 : decode cX9_addScene 64 = .ok (.dup2, 1) := by decide +kernel
theorem dX9_addScene_65 : decode cX9_addScene 65 = .ok (.iaload, 1) := by decide +kernel
theorem dX9_addScene_66 : decode cX9_addScene 66 = .ok (.iconst 1, 1) := by decide +kernel
theorem dX9_addScene_67 : decode cX9_addScene 67 = .ok (.iadd, 1) := by decide +kernel
theorem dX9_addScene_68 : decode cX9_addScene 68 = .ok (.iastore, 1) := by decide +kernel
theorem dX9_addScene_69 : decode cX9_addScene 69 = .ok (.aload_n 0, 1) := by decide +kernel
theorem dX9_addScene_70 : decode cX9_addScene 70 = .ok (.getfield 7, 3) := by decide +kernel
theorem dX9_addScene_73 : decode cX9_addScene 73 = .ok (.bipush 8, 2) := by decide +kernel
theorem dX9_addScene_75 : decode cX9_addScene 75 = .ok (.iconst 2, 1) := by decide +kernel
theorem dX9_addScene_76 : decode cX9_addScene 76 = .ok (.iload_n 3, 1) := by decide +kernel
theorem dX9_addScene_77 : decode cX9_addScene 77 = .ok (.imul, 1) := by decide +kernel
theorem dX9_addScene_78 : decode cX9_addScene 78 = .ok (.iadd, 1) := by decide +kernel
theorem dX9_addScene_79 : decode cX9_addScene 79 = .ok (.iload_n 1, 1) := by decide +kernel
theorem dX9_addScene_80 : decode cX9_addScene 80 = .ok (.iastore, 1) := by decide +kernel
theorem dX9_addScene_81 : decode cX9_addScene 81 = .ok (.aload_n 0, 1) := by decide +kernel
theorem dX9_addScene_82 : decode cX9_addScene 82 = .ok (.getfield 7, 3) := by decide +kernel
theorem dX9_addScene_85 : decode cX9_addScene 85 = .ok (.bipush 8, 2) := by decide +kernel
theorem dX9_addScene_87 : decode cX9_addScene 87 = .ok (.iconst 2, 1) := by decide +kernel
theorem dX9_addScene_88 : decode cX9_addScene 88 = .ok (.iload_n 3, 1) := by decide +kernel
theorem dX9_addScene_89 : decode cX9_addScene 89 = .ok (.imul, 1) := by decide +kernel
theorem dX9_addScene_90 : decode cX9_addScene 90 = .ok (.iadd, 1) := by decide +kernel
theorem dX9_addScene_91 : decode cX9_addScene 91 = .ok (.iconst 1, 1) := by decide +kernel
theorem dX9_addScene_92 : decode cX9_addScene 92 = .ok (.iadd, 1) := by decide +kernel
theorem dX9_addScene_93 : decode cX9_addScene 93 = .ok (.iload_n 2, 1) := by decide +kernel
theorem dX9_addScene_94 : decode cX9_addScene 94 = .ok (.iastore, 1) := by decide +kernel
theorem dX9_addScene_95 : decode cX9_addScene 95 = .ok (.aload_n 0, 1) := by decide +kernel
theorem dX9_addScene_96 : decode cX9_addScene 96 = .ok (.aload_n 0, 1) := by decide +kernel
theorem dX9_addScene_97 : decode cX9_addScene 97 = .ok (.getfield 7, 3) := by decide +kernel
theorem dX9_addScene_100 : decode cX9_addScene 100 = .ok (.iconst 1, 1) := by decide +kernel
theorem dX9_addScene_101 : decode cX9_addScene 101 = .ok (.iaload, 1) := by decide +kernel
theorem dX9_addScene_102 : decode cX9_addScene 102 = .ok (.iload_n 3, 1) := by decide +kernel
theorem dX9_addScene_103 : decode cX9_addScene 103 = .ok (.iconst 0, 1) := by decide +kernel
theorem dX9_addScene_104 : decode cX9_addScene 104 = .ok (.iload_n 2, 1) := by decide +kernel
theorem dX9_addScene_105 : decode cX9_addScene 105 = .ok (.iconst 1, 1) := by decide +kernel
theorem dX9_addScene_106 : decode cX9_addScene 106 = .ok (.isub, 1) := by decide +kernel
theorem dX9_addScene_107 : decode cX9_addScene 107 = .ok (.invokevirtual 77, 3) := by decide +kernel
theorem dX9_addScene_110 : decode cX9_addScene 110 = .ok (.iload_n 3, 1) := by decide +kernel
theorem dX9_addScene_111 : decode cX9_addScene 111 = .ok (.ireturn, 1) := by decide +kernel
set_option maxRecDepth 20000 in
theorem ggX9_onReel_X9_positionOf : GoodIn wsX9_onReel wsX9_positionOf := goodIn_r _ [6, 7, 8, 9, 5, 10, 11, 12, 13, 14, 1, 15, 16, 17, 18, 19, 20, 21, 22, 23, 24, 25, 26] (by decide +kernel) (by decide +kernel)
set_option maxRecDepth 20000 in
theorem gX9_onReel_X9_positionOf : GoodIn wsX9_onReel (wsV RX9 61 RX9 yX9_positionOf wsX9_positionOf) := goodIn_app (goodIn_of _ (by decide +kernel)) ggX9_onReel_X9_positionOf
theorem dX9_onReel_0 : decode cX9_onReel 0 = .ok (.aload_n 0, 1) := by decide +kernel
theorem dX9_onReel_1 : decode cX9_onReel 1 = .ok (.aload_n 0, 1) := by decide +kernel
theorem dX9_onReel_2 : decode cX9_onReel 2 = .ok (.getfield 7, 3) := by decide +kernel
theorem dX9_onReel_5 : decode cX9_onReel 5 = .ok (.iconst 1, 1) := by decide +kernel
theorem dX9_onReel_6 : decode cX9_onReel 6 = .ok (.iaload, 1) := by decide +kernel
theorem dX9_onReel_7 : decode cX9_onReel 7 = .ok (.invokevirtual 61, 3) := by decide +kernel
theorem dX9_onReel_10 : decode cX9_onReel 10 = .ok (.ireturn, 1) := by decide +kernel
set_option maxRecDepth 20000 in
theorem ggX9_cutError_X9_onReel : GoodIn wsX9_cutError wsX9_onReel := goodIn_r _ [6, 1, 7, 8, 9, 5, 10, 11, 12, 13, 14, 15, 16, 17, 18, 26, 27, 28, 29, 30, 31, 32, 33, 34, 35, 36, 37] (by decide +kernel) (by decide +kernel)
set_option maxRecDepth 20000 in
theorem gX9_cutError_X9_onReel : GoodIn wsX9_cutError (wsV RX9 81 RX9 yX9_onReel wsX9_onReel) := goodIn_app (goodIn_of _ (by decide +kernel)) ggX9_cutError_X9_onReel
set_option maxRecDepth 20000 in
theorem ggX9_cutError_X9_isIn : GoodIn wsX9_cutError wsX9_isIn := goodIn_r _ [21] (by decide +kernel) (by decide +kernel)
set_option maxRecDepth 20000 in
theorem gX9_cutError_X9_isIn : GoodIn wsX9_cutError (va_wsS RX9 42 yX9_isIn wsX9_isIn) := goodIn_app (goodIn_of _ (by decide +kernel)) ggX9_cutError_X9_isIn
set_option maxRecDepth 20000 in
theorem ggX9_cutError_X9_pieceAt : GoodIn wsX9_cutError wsX9_pieceAt := goodIn_r _ [25, 7, 8, 9, 5, 10, 11, 12, 13, 14, 15, 16, 17, 18, 1, 26, 27, 28, 29, 30, 31, 32, 33, 34, 35, 36, 37] (by decide +kernel) (by decide +kernel)
set_option maxRecDepth 20000 in
theorem gX9_cutError_X9_pieceAt : GoodIn wsX9_cutError (wsV RX9 85 RX9 yX9_pieceAt wsX9_pieceAt) := goodIn_app (goodIn_of _ (by decide +kernel)) ggX9_cutError_X9_pieceAt
set_option maxRecDepth 20000 in
theorem ggX9_cutError_X9_positionOf : GoodIn wsX9_cutError wsX9_positionOf := goodIn_r _ [10, 11, 12, 13, 5, 14, 15, 16, 17, 18, 1, 26, 27, 28, 29, 30, 31, 32, 33, 34, 35, 36, 37] (by decide +kernel) (by decide +kernel)
set_option maxRecDepth 20000 in
theorem gX9_cutError_X9_positionOf : GoodIn wsX9_cutError (wsV RX9 61 RX9 yX9_positionOf wsX9_positionOf) := goodIn_app (goodIn_of _ (by decide +kernel)) ggX9_cutError_X9_positionOf
theorem dX9_cutError_0 : decode cX9_cutError 0 = .ok (.iload_n 1, 1) := by decide +kernel
theorem dX9_cutError_1 : decode cX9_cutError 1 = .ok (.iconst 0, 1) := by decide +kernel
theorem dX9_cutError_2 : decode cX9_cutError 2 = .ok (.aload_n 0, 1) := by decide +kernel
theorem dX9_cutError_3 : decode cX9_cutError 3 = .ok (.invokevirtual 81, 3) := by decide +kernel
theorem dX9_cutError_6 : decode cX9_cutError 6 = .ok (.iconst 1, 1) := by decide +kernel
theorem dX9_cutError_7 : decode cX9_cutError 7 = .ok (.isub, 1) := by decide +kernel
theorem dX9_cutError_8 : decode cX9_cutError 8 = .ok (.invokestatic 42, 3) := by decide +kernel
theorem dX9_cutError_11 : decode cX9_cutError 11 = .ok (.ifCond .ne 6, 3) := by decide +kernel
theorem dX9_cutError_14 : decode cX9_cutError 14 = .ok (.bipush (-2), 2) := by decide +kernel
theorem dX9_cutError_16 : decode cX9_cutError 16 = .ok (.ireturn, 1) := by decide +kernel
theorem dX9_cutError_17 : decode cX9_cutError 17 = .ok (.aload_n 0, 1) := by decide +kernel
theorem dX9_cutError_18 : decode cX9_cutError 18 = .ok (.aload_n 0, 1) := by decide +kernel
theorem dX9_cutError_19 : decode cX9_cutError 19 = .ok (.iload_n 1, 1) := by decide +kernel
theorem dX9_cutError_20 : decode cX9_cutError 20 = .ok (.invokevirtual 85, 3) := by decide +kernel
theorem dX9_cutError_23 : decode cX9_cutError 23 = .ok (.invokevirtual 61, 3) := by decide +kernel
theorem dX9_cutError_26 : decode cX9_cutError 26 = .ok (.iload_n 1, 1) := by decide +kernel
theorem dX9_cutError_27 : decode cX9_cutError 27 = .ok (.if_icmp .ne 6, 3) := by decide +kernel
theorem dX9_cutError_30 : decode cX9_cutError 30 = .ok (.bipush (-5), 2) := by decide +kernel
theorem dX9_cutError_32 : decode cX9_cutError 32 = .ok (.ireturn, 1) := by decide +kernel
theorem dX9_cutError_33 : decode cX9_cutError 33 = .ok (.aload_n 0, 1) := by decide +kernel
theorem dX9_cutError_34 : decode cX9_cutError 34 = .ok (.getfield 7, 3) := by decide +kernel
theorem dX9_cutError_37 : decode cX9_cutError 37 = .ok (.iconst 1, 1) := by decide +kernel
theorem dX9_cutError_38 : decode cX9_cutError 38 = .ok (.iaload, 1) := by decide +kernel
theorem dX9_cutError_39 : decode cX9_cutError 39 = .ok (.bipush 20, 2) := by decide +kernel
theorem dX9_cutError_41 : decode cX9_cutError 41 = .ok (.if_icmp .ne 8, 3) := by decide +kernel
theorem dX9_cutError_44 : decode cX9_cutError 44 = .ok (.bipush (-3), 2) := by decide +kernel
theorem dX9_cutError_46 : decode cX9_cutError 46 = .ok (.goto 4, 3) := by decide +kernel
theorem dX9_cutError_49 : decode cX9_cutError 49 = .ok (.iconst 0, 1) := by decide +kernel
theorem dX9_cutError_50 : decode cX9_cutError 50 = .ok (.ireturn, 1) := by decide +kernel
set_option maxRecDepth 20000 in
theorem ggX9_cuts_X9_pieceAt : GoodIn wsX9_cuts wsX9_pieceAt := goodIn_r _ [5, 6, 7, 8, 4, 9, 10, 11, 12, 13, 14, 15, 16, 17, 18, 34, 35, 36, 37, 38, 39, 40, 41, 42, 43, 44, 45] (by decide +kernel) (by decide +kernel)
set_option maxRecDepth 20000 in
theorem gX9_cuts_X9_pieceAt : GoodIn wsX9_cuts (wsV RX9 85 RX9 yX9_pieceAt wsX9_pieceAt) := goodIn_app (goodIn_of _ (by decide +kernel)) ggX9_cuts_X9_pieceAt
set_option maxRecDepth 20000 in
theorem ggX9_cuts_X9_ofP : GoodIn wsX9_cuts wsX9_ofP := goodIn_r _ [17, 18, 34, 35, 36, 37, 38, 39, 40, 41, 42, 43, 44, 45] (by decide +kernel) (by decide +kernel)
set_option maxRecDepth 20000 in
theorem gX9_cuts_X9_ofP : GoodIn wsX9_cuts (wsV RX9 54 RX9 yX9_ofP wsX9_ofP) := goodIn_app (goodIn_of _ (by decide +kernel)) ggX9_cuts_X9_ofP
set_option maxRecDepth 20000 in
theorem ggX9_cuts_X9_positionOf : GoodIn wsX9_cuts wsX9_positionOf := goodIn_r _ [9, 10, 11, 12, 4, 13, 14, 15, 16, 17, 18, 34, 35, 36, 37, 38, 39, 40, 41, 42, 43, 44, 45] (by decide +kernel) (by decide +kernel)
set_option maxRecDepth 20000 in
theorem gX9_cuts_X9_positionOf : GoodIn wsX9_cuts (wsV RX9 61 RX9 yX9_positionOf wsX9_positionOf) := goodIn_app (goodIn_of _ (by decide +kernel)) ggX9_cuts_X9_positionOf
set_option maxRecDepth 20000 in
theorem ggX9_cuts_X9_isPiece : GoodIn wsX9_cuts wsX9_isPiece := goodIn_r _ [22, 18, 23, 24, 4, 25, 34, 35, 36, 37, 38, 39, 40, 41, 42, 43, 44, 45] (by decide +kernel) (by decide +kernel)
set_option maxRecDepth 20000 in
theorem gX9_cuts_X9_isPiece : GoodIn wsX9_cuts (wsV RX9 74 RX9 yX9_isPiece wsX9_isPiece) := goodIn_app (goodIn_of _ (by decide +kernel)) ggX9_cuts_X9_isPiece
set_option maxRecDepth 20000 in
theorem ggX9_cuts_X9_setsP : GoodIn wsX9_cuts wsX9_setsP := goodIn_r _ [29, 18, 34, 35, 36, 37, 38, 39, 40, 41, 42, 43, 44, 45] (by decide +kernel) (by decide +kernel)
set_option maxRecDepth 20000 in
theorem gX9_cuts_X9_setsP : GoodIn wsX9_cuts (wsV RX9 70 RX9 yX9_setsP wsX9_setsP) := goodIn_app (goodIn_of _ (by decide +kernel)) ggX9_cuts_X9_setsP
set_option maxRecDepth 20000 in
theorem ggX9_cuts_X9_inserts : GoodIn wsX9_cuts wsX9_inserts := goodIn_r _ [33, 18, 26, 27, 28, 4, 29, 19, 20, 21, 22, 23, 24, 25, 34, 35, 36, 37, 38, 39, 40, 41, 42, 43, 44, 45] (by decide +kernel) (by decide +kernel)
set_option maxRecDepth 20000 in
theorem gX9_cuts_X9_inserts : GoodIn wsX9_cuts (wsV RX9 77 RX9 yX9_inserts wsX9_inserts) := goodIn_app (goodIn_of _ (by decide +kernel)) ggX9_cuts_X9_inserts
theorem dX9_cuts_0 : decode cX9_cuts 0 = .ok (.aload_n 0, 1) := by decide +kernel
theorem dX9_cuts_1 : decode cX9_cuts 1 = .ok (.iload_n 1, 1) := by decide +kernel
theorem dX9_cuts_2 : decode cX9_cuts 2 = .ok (.invokevirtual 85, 3) := by decide +kernel
theorem dX9_cuts_5 : decode cX9_cuts 5 = .ok (.istore_n 2, 1) := by decide +kernel
theorem dX9_cuts_6 : decode cX9_cuts 6 = .ok (.aload_n 0, 1) := by decide +kernel
theorem dX9_cuts_7 : decode cX9_cuts 7 = .ok (.iload_n 2, 1) := by decide +kernel
theorem dX9_cuts_8 : decode cX9_cuts 8 = .ok (.iconst 1, 1) := by decide +kernel
theorem dX9_cuts_9 : decode cX9_cuts 9 = .ok (.invokevirtual 54, 3) := by decide +kernel
theorem dX9_cuts_12 : decode cX9_cuts 12 = .ok (.iload_n 1, 1) := by decide +kernel
theorem dX9_cuts_13 : decode cX9_cuts 13 = .ok (.iadd, 1) := by decide +kernel
theorem dX9_cuts_14 : decode cX9_cuts 14 = .ok (.aload_n 0, 1) := by decide +kernel
theorem dX9_cuts_15 : decode cX9_cuts 15 = .ok (.iload_n 2, 1) := by decide +kernel
theorem dX9_cuts_16 : decode cX9_cuts 16 = .ok (.invokevirtual 61, 3) := by decide +kernel
theorem dX9_cuts_19 : decode cX9_cuts 19 = .ok (.isub, 1) := by decide +kernel
theorem dX9_cuts_20 : decode cX9_cuts 20 = .ok (.istore_n 3, 1) := by decide +kernel
theorem dX9_cuts_21 : decode cX9_cuts 21 = .ok (.aload_n 0, 1) := by decide +kernel
theorem dX9_cuts_22 : decode cX9_cuts 22 = .ok (.iload_n 2, 1) := by decide +kernel
theorem dX9_cuts_23 : decode cX9_cuts 23 = .ok (.iconst 2, 1) := by decide +kernel
theorem dX9_cuts_24 : decode cX9_cuts 24 = .ok (.invokevirtual 54, 3) := by decide +kernel
theorem dX9_cuts_27 : decode cX9_cuts 27 = .ok (.istore 4, 2) := by decide +kernel
theorem dX9_cuts_29 : decode cX9_cuts 29 = .ok (.aload_n 0, 1) := by decide +kernel
theorem dX9_cuts_30 : decode cX9_cuts 30 = .ok (.iload_n 2, 1) := by decide +kernel
theorem dX9_cuts_31 : decode cX9_cuts 31 = .ok (.iconst 1, 1) := by decide +kernel
theorem dX9_cuts_32 : decode cX9_cuts 32 = .ok (.iadd, 1) := by decide +kernel
theorem dX9_cuts_33 : decode cX9_cuts 33 = .ok (.invokevirtual 74, 3) := by decide +kernel
theorem dX9_cuts_36 : decode cX9_cuts 36 = .ok (.ifCond .eq 14, 3) := by decide +kernel
theorem dX9_cuts_39 : decode cX9_cuts 39 = .ok (.aload_n 0, 1) := by decide +kernel
theorem dX9_cuts_40 : decode cX9_cuts 40 = .ok (.iload_n 2, 1) := by decide +kernel
theorem dX9_cuts_41 : decode cX9_cuts 41 = .ok (.iconst 1, 1) := by decide +kernel
theorem dX9_cuts_42 : decode cX9_cuts 42 = .ok (.iadd, 1) := by decide +kernel
theorem dX9_cuts_43 : decode cX9_cuts 43 = .ok (.iconst 3, 1) := by decide +kernel
theorem dX9_cuts_44 : decode cX9_cuts 44 = .ok (.invokevirtual 54, 3) := by decide +kernel
theorem dX9_cuts_47 : decode cX9_cuts 47 = .ok (.goto 4, 3) := by decide +kernel
theorem dX9_cuts_50 : decode cX9_cuts 50 = .ok (.iconst 0, 1) := by decide +kernel
theorem dX9_cuts_51 : decode cX9_cuts 51 = .ok (.istore 5, 2) := by decide +kernel
theorem dX9_cuts_53 : decode cX9_cuts 53 = .ok (.aload_n 0, 1) := by decide +kernel
theorem dX9_cuts_54 : decode cX9_cuts 54 = .ok (.iload_n 2, 1) := by decide +kernel
theorem dX9_cuts_55 : decode cX9_cuts 55 = .ok (.iconst 2, 1) := by decide +kernel
theorem dX9_cuts_56 : decode cX9_cuts 56 = .ok (.iload_n 3, 1) := by decide +kernel
theorem dX9_cuts_57 : decode cX9_cuts 57 = .ok (.iconst 1, 1) := by decide +kernel
theorem dX9_cuts_58 : decode cX9_cuts 58 = .ok (.isub, 1) := by decide +kernel
theorem dX9_cuts_59 : decode cX9_cuts 59 = .ok (.invokevirtual 70, 3) := by decide +kernel
theorem dX9_cuts_62 : decode cX9_cuts 62 = .ok (.aload_n 0, 1) := by decide +kernel
theorem dX9_cuts_63 : decode cX9_cuts 63 = .ok (.iload_n 2, 1) := by decide +kernel
theorem dX9_cuts_64 : decode cX9_cuts 64 = .ok (.iconst 1, 1) := by decide +kernel
theorem dX9_cuts_65 : decode cX9_cuts 65 = .ok (.iadd, 1) := by decide +kernel
theorem dX9_cuts_66 : decode cX9_cuts 66 = .ok (.aload_n 0, 1) := by decide +kernel
theorem dX9_cuts_67 : decode cX9_cuts 67 = .ok (.iload_n 2, 1) := by decide +kernel
theorem dX9_cuts_68 : decode cX9_cuts 68 = .ok (.iconst 0, 1) := by decide +kernel
theorem dX9_cuts_69 : decode cX9_cuts 69 = .ok (.invokevirtual 54, 3) := by decide +kernel
theorem dX9_cuts_72 : decode cX9_cuts 72 = .ok (.iload_n 3, 1) := by decide +kernel
theorem dX9_cuts_73 : decode cX9_cuts 73 = .ok (.iload 4, 2) := by decide +kernel
theorem dX9_cuts_75 : decode cX9_cuts 75 = .ok (.invokevirtual 77, 3) := by decide +kernel
theorem dX9_cuts_78 : decode cX9_cuts 78 = .ok (.aload_n 0, 1) := by decide +kernel
theorem dX9_cuts_79 : decode cX9_cuts 79 = .ok (.iload_n 2, 1) := by decide +kernel
theorem dX9_cuts_80 : decode cX9_cuts 80 = .ok (.iconst 2, 1) := by decide +kernel
theorem dX9_cuts_81 : decode cX9_cuts 81 = .ok (.iadd, 1) := by decide +kernel
theorem dX9_cuts_82 : decode cX9_cuts 82 = .ok (.invokevirtual 74, 3) := by decide +kernel
theorem dX9_cuts_85 : decode cX9_cuts 85 = .ok (.ifCond .eq 13, 3) := by decide +kernel
theorem dX9_cuts_88 : decode cX9_cuts 88 = .ok (.aload_n 0, 1) := by decide +kernel
theorem dX9_cuts_89 : decode cX9_cuts 89 = .ok (.iload_n 2, 1) := by decide +kernel
theorem dX9_cuts_90 : decode cX9_cuts 90 = .ok (.iconst 2, 1) := by decide +kernel
theorem dX9_cuts_91 : decode cX9_cuts 91 = .ok (.iadd, 1) := by decide +kernel
theorem dX9_cuts_92 : decode cX9_cuts 92 = .ok (.iconst 3, 1) := by decide +kernel
theorem dX9_cuts_93 : decode cX9_cuts 93 = .ok (.iload 5, 2) := by decide +kernel
theorem dX9_cuts_95 : decode cX9_cuts 95 = .ok (.invokevirtual 70, 3) := by decide +kernel
theorem dX9_cuts_98 : decode cX9_cuts 98 = .ok (.iload_n 2, 1) := by decide +kernel
theorem dX9_cuts_99 : decode cX9_cuts 99 = .ok (.iconst 1, 1) := by decide +kernel
theorem dX9_cuts_100 : decode cX9_cuts 100 = .ok (.iadd, 1) := by decide +kernel
theorem dX9_cuts_101 : decode cX9_cuts 101 = .ok (.ireturn, 1) := by decide +kernel
set_option maxRecDepth 20000 in
theorem ggX9_cut_X9_cutError : GoodIn wsX9_cut wsX9_cutError := goodIn_r _ [5, 6, 7, 8, 9, 4, 10, 11, 12, 13, 14, 15, 16, 17, 18, 19, 20, 21, 22, 23, 24, 25, 26, 27, 28, 29, 52, 53, 54, 55, 56, 57, 58, 59, 60, 61, 62, 63] (by decide +kernel) (by decide +kernel)
set_option maxRecDepth 20000 in
theorem gX9_cut_X9_cutError : GoodIn wsX9_cut (wsV RX9 88 RX9 yX9_cutError wsX9_cutError) := goodIn_app (goodIn_of _ (by decide +kernel)) ggX9_cut_X9_cutError
set_option maxRecDepth 20000 in
theorem ggX9_cut_X9_records : GoodIn wsX9_cut wsX9_records := goodIn_r _ [33, 34, 35, 6, 52, 53, 54, 55, 56, 57, 58, 59, 60, 61, 62, 63] (by decide +kernel) (by decide +kernel)
set_option maxRecDepth 20000 in
theorem gX9_cut_X9_records : GoodIn wsX9_cut (wsV RX9 38 RX9 yX9_records wsX9_records) := goodIn_app (goodIn_of _ (by decide +kernel)) ggX9_cut_X9_records
set_option maxRecDepth 20000 in
theorem ggX9_cut_X9_cuts : GoodIn wsX9_cut wsX9_cuts := goodIn_r _ [39, 26, 27, 28, 4, 29, 11, 12, 13, 14, 15, 16, 17, 18, 19, 20, 21, 22, 6, 40, 41, 42, 43, 23, 24, 25, 44, 45, 46, 47, 48, 49, 50, 51, 52, 53, 54, 55, 56, 57, 58, 59, 60, 61, 62, 63] (by decide +kernel) (by decide +kernel)
set_option maxRecDepth 20000 in
theorem gX9_cut_X9_cuts : GoodIn wsX9_cut (wsV RX9 91 RX9 yX9_cuts wsX9_cuts) := goodIn_app (goodIn_of _ (by decide +kernel)) ggX9_cut_X9_cuts
theorem dX9_cut_0 : decode cX9_cut 0 = .ok (.aload_n 0, 1) := by decide +kernel
theorem dX9_cut_1 : decode cX9_cut 1 = .ok (.iload_n 1, 1) := by decide +kernel
theorem dX9_cut_2 : decode cX9_cut 2 = .ok (.invokevirtual 88, 3) := by decide +kernel
theorem dX9_cut_5 : decode cX9_cut 5 = .ok (.istore_n 2, 1) := by decide +kernel
theorem dX9_cut_6 : decode cX9_cut 6 = .ok (.iload_n 2, 1) := by decide +kernel
theorem dX9_cut_7 : decode cX9_cut 7 = .ok (.ifCond .eq 5, 3) := by decide +kernel
theorem dX9_cut_10 : decode cX9_cut 10 = .ok (.iload_n 2, 1) := by decide +kernel
theorem dX9_cut_11 : decode cX9_cut 11 = .ok (.ireturn, 1) := by decide +kernel
theorem dX9_cut_12 : decode cX9_cut 12 = .ok (.aload_n 0, 1) := by decide +kernel
theorem dX9_cut_13 : decode cX9_cut 13 = .ok (.iconst 0, 1) := by decide +kernel
theorem dX9_cut_14 : decode cX9_cut 14 = .ok (.invokevirtual 38, 3) := by decide +kernel
theorem dX9_cut_17 : decode cX9_cut 17 = .ok (.aload_n 0, 1) := by decide +kernel
theorem dX9_cut_18 : decode cX9_cut 18 = .ok (.iload_n 1, 1) := by decide +kernel
theorem dX9_cut_19 : decode cX9_cut 19 = .ok (.invokevirtual 91, 3) := by decide +kernel
theorem dX9_cut_22 : decode cX9_cut 22 = .ok (.ireturn, 1) := by decide +kernel
set_option maxRecDepth 20000 in
theorem ggX9_joinError_X9_isPiece : GoodIn wsX9_joinError wsX9_isPiece := goodIn_r _ [5, 6, 7, 8, 4, 9, 14, 15, 16, 17, 18, 19, 20, 21, 22, 23, 24, 25] (by decide +kernel) (by decide +kernel)
set_option maxRecDepth 20000 in
theorem gX9_joinError_X9_isPiece : GoodIn wsX9_joinError (wsV RX9 74 RX9 yX9_isPiece wsX9_isPiece) := goodIn_app (goodIn_of _ (by decide +kernel)) ggX9_joinError_X9_isPiece
set_option maxRecDepth 20000 in
theorem ggX9_joinError_X9_ofP : GoodIn wsX9_joinError wsX9_ofP := goodIn_r _ [13, 6, 14, 15, 16, 17, 18, 19, 20, 21, 22, 23, 24, 25] (by decide +kernel) (by decide +kernel)
set_option maxRecDepth 20000 in
theorem gX9_joinError_X9_ofP : GoodIn wsX9_joinError (wsV RX9 54 RX9 yX9_ofP wsX9_ofP) := goodIn_app (goodIn_of _ (by decide +kernel)) ggX9_joinError_X9_ofP
theorem dX9_joinError_0 : decode cX9_joinError 0 = .ok (.aload_n 0, 1) := by decide +kernel
theorem dX9_joinError_1 : decode cX9_joinError 1 = .ok (.iload_n 1, 1) := by decide +kernel
theorem dX9_joinError_2 : decode cX9_joinError 2 = .ok (.invokevirtual 74, 3) := by decide +kernel
theorem dX9_joinError_5 : decode cX9_joinError 5 = .ok (.ifCond .ne 5, 3) := by decide +kernel
theorem dX9_joinError_8 : decode cX9_joinError 8 = .ok (.iconst (-1), 1) := by decide +kernel
theorem dX9_joinError_9 : decode cX9_joinError 9 = .ok (.ireturn, 1) := by decide +kernel
theorem dX9_joinError_10 : decode cX9_joinError 10 = .ok (.aload_n 0, 1) := by decide +kernel
theorem dX9_joinError_11 : decode cX9_joinError 11 = .ok (.iload_n 1, 1) := by decide +kernel
theorem dX9_joinError_12 : decode cX9_joinError 12 = .ok (.iconst 1, 1) := by decide +kernel
theorem dX9_joinError_13 : decode cX9_joinError 13 = .ok (.iadd, 1) := by decide +kernel
theorem dX9_joinError_14 : decode cX9_joinError 14 = .ok (.invokevirtual 74, 3) := by decide +kernel
theorem dX9_joinError_17 : decode cX9_joinError 17 = .ok (.ifCond .eq 43, 3) := by decide +kernel
theorem dX9_joinError_20 : decode cX9_joinError 20 = .ok (.aload_n 0, 1) := by decide +kernel
theorem dX9_joinError_21 : decode cX9_joinError 21 = .ok (.iload_n 1, 1) := by decide +kernel
theorem dX9_joinError_22 : decode cX9_joinError 22 = .ok (.iconst 1, 1) := by decide +kernel
theorem dX9_joinError_23 : decode cX9_joinError 23 = .ok (.iadd, 1) := by decide +kernel
theorem dX9_joinError_24 : decode cX9_joinError 24 = .ok (.iconst 0, 1) := by decide +kernel
theorem dX9_joinError_25 : decode cX9_joinError 25 = .ok (.invokevirtual 54, 3) := by decide +kernel
theorem dX9_joinError_28 : decode cX9_joinError 28 = .ok (.aload_n 0, 1) := by decide +kernel
theorem dX9_joinError_29 : decode cX9_joinError 29 = .ok (.iload_n 1, 1) := by decide +kernel
theorem dX9_joinError_30 : decode cX9_joinError 30 = .ok (.iconst 0, 1) := by decide +kernel
theorem dX9_joinError_31 : decode cX9_joinError 31 = .ok (.invokevirtual 54, 3) := by decide +kernel
theorem dX9_joinError_34 : decode cX9_joinError 34 = .ok (.if_icmp .ne 26, 3) := by decide +kernel
theorem dX9_joinError_37 : decode cX9_joinError 37 = .ok (.aload_n 0, 1) := by decide +kernel
theorem dX9_joinError_38 : decode cX9_joinError 38 = .ok (.iload_n 1, 1) := by decide +kernel
theorem dX9_joinError_39 : decode cX9_joinError 39 = .ok (.iconst 1, 1) := by decide +kernel
theorem dX9_joinError_40 : decode cX9_joinError 40 = .ok (.iadd, 1) := by decide +kernel
theorem dX9_joinError_41 : decode cX9_joinError 41 = .ok (.iconst 1, 1) := by decide +kernel
theorem dX9_joinError_42 : decode cX9_joinError 42 = .ok (.invokevirtual 54, 3) := by decide +kernel
theorem dX9_joinError_45 : decode cX9_joinError 45 = .ok (.aload_n 0, 1) := by decide +kernel
theorem dX9_joinError_46 : decode cX9_joinError 46 = .ok (.iload_n 1, 1) := by decide +kernel
theorem dX9_joinError_47 : decode cX9_joinError 47 = .ok (.iconst 2, 1) := by decide +kernel
theorem dX9_joinError_48 : decode cX9_joinError 48 = .ok (.invokevirtual 54, 3) := by decide +kernel
theorem dX9_joinError_51 : decode cX9_joinError 51 = .ok (.iconst 1, 1) := by decide +kernel
theorem dX9_joinError_52 : decode cX9_joinError 52 = .ok (.iadd, 1) := by decide +kernel
theorem dX9_joinError_53 : decode cX9_joinError 53 = .ok (.if_icmp .ne 7, 3) := by decide +kernel
theorem dX9_joinError_56 : decode cX9_joinError 56 = .ok (.iconst 1, 1) := by decide +kernel
theorem dX9_joinError_57 : decode cX9_joinError 57 = .ok (.goto 4, 3) := by decide +kernel
theorem dX9_joinError_60 : decode cX9_joinError 60 = .ok (.iconst 0, 1) := by decide +kernel
theorem dX9_joinError_61 : decode cX9_joinError 61 = .ok (.istore_n 2, 1) := by decide +kernel
theorem dX9_joinError_62 : decode cX9_joinError 62 = .ok (.iload_n 2, 1) := by decide +kernel
theorem dX9_joinError_63 : decode cX9_joinError 63 = .ok (.ifCond .eq 7, 3) := by decide +kernel
theorem dX9_joinError_66 : decode cX9_joinError 66 = .ok (.iconst 0, 1) := by decide +kernel
theorem dX9_joinError_67 : decode cX9_joinError 67 = .ok (.goto 5, 3) := by decide +kernel
theorem dX9_joinError_70 : decode cX9_joinError 70 = .ok (.bipush (-4), 2) := by decide +kernel
theorem dX9_joinError_72 : decode cX9_joinError 72 = .ok (.ireturn, 1) := by decide +kernel
set_option maxRecDepth 20000 in
theorem ggX9_joins_X9_isPiece : GoodIn wsX9_joins wsX9_isPiece := goodIn_r _ [5, 6, 7, 8, 4, 9, 26, 27, 28, 29, 30, 31, 32, 33, 34, 35, 36, 37] (by decide +kernel) (by decide +kernel)
set_option maxRecDepth 20000 in
theorem gX9_joins_X9_isPiece : GoodIn wsX9_joins (wsV RX9 74 RX9 yX9_isPiece wsX9_isPiece) := goodIn_app (goodIn_of _ (by decide +kernel)) ggX9_joins_X9_isPiece
set_option maxRecDepth 20000 in
theorem ggX9_joins_X9_ofP : GoodIn wsX9_joins wsX9_ofP := goodIn_r _ [13, 6, 26, 27, 28, 29, 30, 31, 32, 33, 34, 35, 36, 37] (by decide +kernel) (by decide +kernel)
set_option maxRecDepth 20000 in
theorem gX9_joins_X9_ofP : GoodIn wsX9_joins (wsV RX9 54 RX9 yX9_ofP wsX9_ofP) := goodIn_app (goodIn_of _ (by decide +kernel)) ggX9_joins_X9_ofP
set_option maxRecDepth 20000 in
theorem ggX9_joins_X9_setsP : GoodIn wsX9_joins wsX9_setsP := goodIn_r _ [17, 6, 26, 27, 28, 29, 30, 31, 32, 33, 34, 35, 36, 37] (by decide +kernel) (by decide +kernel)
set_option maxRecDepth 20000 in
theorem gX9_joins_X9_setsP : GoodIn wsX9_joins (wsV RX9 70 RX9 yX9_setsP wsX9_setsP) := goodIn_app (goodIn_of _ (by decide +kernel)) ggX9_joins_X9_setsP
set_option maxRecDepth 20000 in
theorem ggX9_joins_X9_removes : GoodIn wsX9_joins wsX9_removes := goodIn_r _ [21, 6, 1, 2, 3, 4, 5, 7, 8, 9, 14, 15, 16, 17, 26, 27, 28, 29, 30, 31, 32, 33, 34, 35, 36, 37] (by decide +kernel) (by decide +kernel)
set_option maxRecDepth 20000 in
theorem gX9_joins_X9_removes : GoodIn wsX9_joins (wsV RX9 94 RX9 yX9_removes wsX9_removes) := goodIn_app (goodIn_of _ (by decide +kernel)) ggX9_joins_X9_removes
set_option maxRecDepth 20000 in
theorem ggX9_joins_X9_framesIn : GoodIn wsX9_joins wsX9_framesIn := goodIn_r _ [25, 10, 11, 12, 4, 13, 6, 26, 27, 28, 29, 30, 31, 32, 33, 34, 35, 36, 37] (by decide +kernel) (by decide +kernel)
set_option maxRecDepth 20000 in
theorem gX9_joins_X9_framesIn : GoodIn wsX9_joins (wsV RX9 58 RX9 yX9_framesIn wsX9_framesIn) := goodIn_app (goodIn_of _ (by decide +kernel)) ggX9_joins_X9_framesIn
theorem dX9_joins_0 : decode cX9_joins 0 = .ok (.aload_n 0, 1) := by decide +kernel
theorem dX9_joins_1 : decode cX9_joins 1 = .ok (.iload_n 1, 1) := by decide +kernel
theorem dX9_joins_2 : decode cX9_joins 2 = .ok (.iconst 2, 1) := by decide +kernel
theorem dX9_joins_3 : decode cX9_joins 3 = .ok (.iadd, 1) := by decide +kernel
theorem dX9_joins_4 : decode cX9_joins 4 = .ok (.invokevirtual 74, 3) := by decide +kernel
theorem dX9_joins_7 : decode cX9_joins 7 = .ok (.ifCond .eq 14, 3) := by decide +kernel
theorem dX9_joins_10 : decode cX9_joins 10 = .ok (.aload_n 0, 1) := by decide +kernel
theorem dX9_joins_11 : decode cX9_joins 11 = .ok (.iload_n 1, 1) := by decide +kernel
theorem dX9_joins_12 : decode cX9_joins 12 = .ok (.iconst 2, 1) := by decide +kernel
theorem dX9_joins_13 : decode cX9_joins 13 = .ok (.iadd, 1) := by decide +kernel
theorem dX9_joins_14 : decode cX9_joins 14 = .ok (.iconst 3, 1) := by decide +kernel
theorem dX9_joins_15 : decode cX9_joins 15 = .ok (.invokevirtual 54, 3) := by decide +kernel
theorem dX9_joins_18 : decode cX9_joins 18 = .ok (.goto 4, 3) := by decide +kernel
theorem dX9_joins_21 : decode cX9_joins 21 = .ok (.iconst 0, 1) := by decide +kernel
theorem dX9_joins_22 : decode cX9_joins 22 = .ok (.istore_n 2, 1) := by decide +kernel
theorem dX9_joins_23 : decode cX9_joins 23 = .ok (.aload_n 0, 1) := by decide +kernel
theorem dX9_joins_24 : decode cX9_joins 24 = .ok (.iload_n 1, 1) := by decide +kernel
theorem dX9_joins_25 : decode cX9_joins 25 = .ok (.iconst 2, 1) := by decide +kernel
theorem dX9_joins_26 : decode cX9_joins 26 = .ok (.aload_n 0, 1) := by decide +kernel
theorem dX9_joins_27 : decode cX9_joins 27 = .ok (.iload_n 1, 1) := by decide +kernel
theorem dX9_joins_28 : decode cX9_joins 28 = .ok (.iconst 1, 1) := by decide +kernel
theorem dX9_joins_29 : decode cX9_joins 29 = .ok (.iadd, 1) := by decide +kernel
theorem dX9_joins_30 : decode cX9_joins 30 = .ok (.iconst 2, 1) := by decide +kernel
theorem dX9_joins_31 : decode cX9_joins 31 = .ok (.invokevirtual 54, 3) := by decide +kernel
theorem dX9_joins_34 : decode cX9_joins 34 = .ok (.invokevirtual 70, 3) := by decide +kernel
theorem dX9_joins_37 : decode cX9_joins 37 = .ok (.aload_n 0, 1) := by decide +kernel
theorem dX9_joins_38 : decode cX9_joins 38 = .ok (.iload_n 1, 1) := by decide +kernel
theorem dX9_joins_39 : decode cX9_joins 39 = .ok (.iconst 1, 1) := by decide +kernel
theorem dX9_joins_40 : decode cX9_joins 40 = .ok (.iadd, 1) := by decide +kernel
theorem dX9_joins_41 : decode cX9_joins 41 = .ok (.invokevirtual 94, 3) := by decide +kernel
theorem dX9_joins_44 : decode cX9_joins 44 = .ok (.aload_n 0, 1) := by decide +kernel
theorem dX9_joins_45 : decode cX9_joins 45 = .ok (.iload_n 1, 1) := by decide +kernel
theorem dX9_joins_46 : decode cX9_joins 46 = .ok (.iconst 1, 1) := by decide +kernel
theorem dX9_joins_47 : decode cX9_joins 47 = .ok (.iadd, 1) := by decide +kernel
theorem dX9_joins_48 : decode cX9_joins 48 = .ok (.invokevirtual 74, 3) := by decide +kernel
theorem dX9_joins_51 : decode cX9_joins 51 = .ok (.ifCond .eq 12, 3) := by decide +kernel
theorem dX9_joins_54 : decode cX9_joins 54 = .ok (.aload_n 0, 1) := by decide +kernel
theorem dX9_joins_55 : decode cX9_joins 55 = .ok (.iload_n 1, 1) := by decide +kernel
theorem dX9_joins_56 : decode cX9_joins 56 = .ok (.iconst 1, 1) := by decide +kernel
theorem dX9_joins_57 : decode cX9_joins 57 = .ok (.iadd, 1) := by decide +kernel
theorem dX9_joins_58 : decode cX9_joins 58 = .ok (.iconst 3, 1) := by decide +kernel
theorem dX9_joins_59 : decode cX9_joins 59 = .ok (.iload_n 2, 1) := by decide +kernel
theorem dX9_joins_60 : decode cX9_joins 60 = .ok (.invokevirtual 70, 3) := by decide +kernel
theorem dX9_joins_63 : decode cX9_joins 63 = .ok (.aload_n 0, 1) := by decide +kernel
theorem dX9_joins_64 : decode cX9_joins 64 = .ok (.iload_n 1, 1) := by decide +kernel
theorem dX9_joins_65 : decode cX9_joins 65 = .ok (.invokevirtual 58, 3) := by decide +kernel
theorem dX9_joins_68 : decode cX9_joins 68 = .ok (.ireturn, 1) := by decide +kernel
set_option maxRecDepth 20000 in
theorem ggX9_join_X9_joinError : GoodIn wsX9_join wsX9_joinError := goodIn_r _ [5, 6, 7, 8, 4, 9, 10, 11, 12, 13, 14, 15, 16, 17, 40, 41, 42, 43, 44, 45, 46, 47, 48, 49, 50, 51] (by decide +kernel) (by decide +kernel)
set_option maxRecDepth 20000 in
theorem gX9_join_X9_joinError : GoodIn wsX9_join (wsV RX9 97 RX9 yX9_joinError wsX9_joinError) := goodIn_app (goodIn_of _ (by decide +kernel)) ggX9_join_X9_joinError
set_option maxRecDepth 20000 in
theorem ggX9_join_X9_records : GoodIn wsX9_join wsX9_records := goodIn_r _ [21, 22, 23, 10, 40, 41, 42, 43, 44, 45, 46, 47, 48, 49, 50, 51] (by decide +kernel) (by decide +kernel)
set_option maxRecDepth 20000 in
theorem gX9_join_X9_records : GoodIn wsX9_join (wsV RX9 38 RX9 yX9_records wsX9_records) := goodIn_app (goodIn_of _ (by decide +kernel)) ggX9_join_X9_records
set_option maxRecDepth 20000 in
theorem ggX9_join_X9_joins : GoodIn wsX9_join wsX9_joins := goodIn_r _ [27, 6, 7, 8, 4, 9, 10, 11, 12, 13, 14, 15, 16, 17, 28, 29, 30, 31, 32, 33, 34, 35, 36, 37, 38, 39, 40, 41, 42, 43, 44, 45, 46, 47, 48, 49, 50, 51] (by decide +kernel) (by decide +kernel)
set_option maxRecDepth 20000 in
theorem gX9_join_X9_joins : GoodIn wsX9_join (wsV RX9 100 RX9 yX9_joins wsX9_joins) := goodIn_app (goodIn_of _ (by decide +kernel)) ggX9_join_X9_joins
theorem dX9_join_0 : decode cX9_join 0 = .ok (.aload_n 0, 1) := by decide +kernel
theorem dX9_join_1 : decode cX9_join 1 = .ok (.iload_n 1, 1) := by decide +kernel
theorem dX9_join_2 : decode cX9_join 2 = .ok (.invokevirtual 97, 3) := by decide +kernel
theorem dX9_join_5 : decode cX9_join 5 = .ok (.istore_n 2, 1) := by decide +kernel
theorem dX9_join_6 : decode cX9_join 6 = .ok (.iload_n 2, 1) := by decide +kernel
theorem dX9_join_7 : decode cX9_join 7 = .ok (.ifCond .eq 5, 3) := by decide +kernel
theorem dX9_join_10 : decode cX9_join 10 = .ok (.iload_n 2, 1) := by decide +kernel
theorem dX9_join_11 : decode cX9_join 11 = .ok (.ireturn, 1) := by decide +kernel
theorem dX9_join_12 : decode cX9_join 12 = .ok (.aload_n 0, 1) := by decide +kernel
theorem dX9_join_13 : decode cX9_join 13 = .ok (.iconst 0, 1) := by decide +kernel
theorem dX9_join_14 : decode cX9_join 14 = .ok (.invokevirtual 38, 3) := by decide +kernel
theorem dX9_join_17 : decode cX9_join 17 = .ok (.aload_n 0, 1) := by decide +kernel
theorem dX9_join_18 : decode cX9_join 18 = .ok (.iload_n 1, 1) := by decide +kernel
theorem dX9_join_19 : decode cX9_join 19 = .ok (.invokevirtual 100, 3) := by decide +kernel
theorem dX9_join_22 : decode cX9_join 22 = .ok (.ireturn, 1) := by decide +kernel
set_option maxRecDepth 20000 in
theorem ggX9_takeError_X9_isPiece : GoodIn wsX9_takeError wsX9_isPiece := goodIn_r _ [6, 1, 7, 8, 5, 9, 10, 11, 12, 13, 14, 15, 16, 17, 18, 19, 20, 21] (by decide +kernel) (by decide +kernel)
set_option maxRecDepth 20000 in
theorem gX9_takeError_X9_isPiece : GoodIn wsX9_takeError (wsV RX9 74 RX9 yX9_isPiece wsX9_isPiece) := goodIn_app (goodIn_of _ (by decide +kernel)) ggX9_takeError_X9_isPiece
theorem dX9_takeError_0 : decode cX9_takeError 0 = .ok (.aload_n 0, 1) := by decide +kernel
theorem dX9_takeError_1 : decode cX9_takeError 1 = .ok (.iload_n 1, 1) := by decide +kernel
theorem dX9_takeError_2 : decode cX9_takeError 2 = .ok (.invokevirtual 74, 3) := by decide +kernel
theorem dX9_takeError_5 : decode cX9_takeError 5 = .ok (.ifCond .ne 5, 3) := by decide +kernel
theorem dX9_takeError_8 : decode cX9_takeError 8 = .ok (.iconst (-1), 1) := by decide +kernel
theorem dX9_takeError_9 : decode cX9_takeError 9 = .ok (.ireturn, 1) := by decide +kernel
theorem dX9_takeError_10 : decode cX9_takeError 10 = .ok (.aload_n 0, 1) := by decide +kernel
theorem dX9_takeError_11 : decode cX9_takeError 11 = .ok (.getfield 7, 3) := by decide +kernel
theorem dX9_takeError_14 : decode cX9_takeError 14 = .ok (.iconst 2, 1) := by decide +kernel
theorem dX9_takeError_15 : decode cX9_takeError 15 = .ok (.iaload, 1) := by decide +kernel
theorem dX9_takeError_16 : decode cX9_takeError 16 = .ok (.bipush 20, 2) := by decide +kernel
theorem dX9_takeError_18 : decode cX9_takeError 18 = .ok (.if_icmp .ne 8, 3) := by decide +kernel
theorem dX9_takeError_21 : decode cX9_takeError 21 = .ok (.bipush (-3), 2) := by decide +kernel
theorem dX9_takeError_23 : decode cX9_takeError 23 = .ok (.goto 4, 3) := by decide +kernel
theorem dX9_takeError_26 : decode cX9_takeError 26 = .ok (.iconst 0, 1) := by decide +kernel
theorem dX9_takeError_27 : decode cX9_takeError 27 = .ok (.ireturn, 1) := by decide +kernel
set_option maxRecDepth 20000 in
theorem ggX9_takes_X9_ofP : GoodIn wsX9_takes wsX9_ofP := goodIn_r _ [6, 1, 22, 23, 24, 25, 26, 27, 28, 29, 30, 31, 32, 33] (by decide +kernel) (by decide +kernel)
set_option maxRecDepth 20000 in
theorem gX9_takes_X9_ofP : GoodIn wsX9_takes (wsV RX9 54 RX9 yX9_ofP wsX9_ofP) := goodIn_app (goodIn_of _ (by decide +kernel)) ggX9_takes_X9_ofP
set_option maxRecDepth 20000 in
theorem ggX9_takes_X9_removes : GoodIn wsX9_takes wsX9_removes := goodIn_r _ [10, 1, 11, 12, 13, 5, 14, 15, 16, 17, 18, 19, 20, 21, 22, 23, 24, 25, 26, 27, 28, 29, 30, 31, 32, 33] (by decide +kernel) (by decide +kernel)
set_option maxRecDepth 20000 in
theorem gX9_takes_X9_removes : GoodIn wsX9_takes (wsV RX9 94 RX9 yX9_removes wsX9_removes) := goodIn_app (goodIn_of _ (by decide +kernel)) ggX9_takes_X9_removes
theorem dX9_takes_0 : decode cX9_takes 0 = .ok (.sipush 1072, 3) := by decide +kernel
theorem dX9_takes_3 : decode cX9_takes 3 = .ok (.iconst 3, 1) := by decide +kernel
theorem dX9_takes_4 : decode cX9_takes 4 = .ok (.aload_n 0, 1) := by decide +kernel
theorem dX9_takes_5 : decode cX9_takes 5 = .ok (.getfield 7, 3) := by decide +kernel
theorem dX9_takes_8 : decode cX9_takes 8 = .ok (.iconst 2, 1) := by decide +kernel
theorem dX9_takes_9 : decode cX9_takes 9 = .ok (.iaload, 1) := by decide +kernel
theorem dX9_takes_10 : decode cX9_takes 10 = .ok (.imul, 1) := by decide +kernel
theorem dX9_takes_11 : decode cX9_takes 11 = .ok (.iadd, 1) := by decide +kernel
theorem dX9_takes_12 : decode cX9_takes 12 = .ok (.istore_n 2, 1) := by decide +kernel
theorem dX9_takes_13 : decode cX9_takes 13 = .ok (.iconst 0, 1) := by decide +kernel
theorem dX9_takes_14 : decode cX9_takes 14 = .ok (.istore_n 3, 1) := by decide +kernel
theorem dX9_takes_15 : decode cX9_takes 15 = .ok (.iload_n 3, 1) := by decide +kernel
theorem dX9_takes_16 : decode cX9_takes 16 = .ok (.iconst 3, 1) := by decide +kernel
theorem dX9_takes_17 : decode cX9_takes 17 = .ok (.if_icmp .ge 23, 3) := by decide +kernel
theorem dX9_takes_20 : decode cX9_takes 20 = .ok (.aload_n 0, 1) := by decide +kernel
theorem dX9_takes_21 : decode cX9_takes 21 = .ok (.getfield 7, 3) := by decide +kernel
theorem dX9_takes_24 : decode cX9_takes 24 = .ok (.iload_n 2, 1) := by decide +kernel
theorem dX9_takes_25 : decode cX9_takes 25 = .ok (.iload_n 3, 1) := by decide +kernel
theorem dX9_takes_26 : decode cX9_takes 26 = .ok (.iadd, 1) := by decide +kernel
theorem dX9_takes_27 : decode cX9_takes 27 = .ok (.aload_n 0, 1) := by decide +kernel
theorem dX9_takes_28 : decode cX9_takes 28 = .ok (.iload_n 1, 1) := by decide +kernel
theorem dX9_takes_29 : decode cX9_takes 29 = .ok (.iload_n 3, 1) := by decide +kernel
theorem dX9_takes_30 : decode cX9_takes 30 = .ok (.invokevirtual 54, 3) := by decide +kernel
theorem dX9_takes_33 : decode cX9_takes 33 = .ok (.iastore, 1) := by decide +kernel
theorem dX9_takes_34 : decode cX9_takes 34 = .ok (.iinc 3 1, 3) := by decide +kernel
theorem dX9_takes_37 : decode cX9_takes 37 = .ok (.goto (-22), 3) := by decide +kernel
theorem dX9_takes_40 : decode cX9_takes 40 = .ok (.aload_n 0, 1) := by decide +kernel
theorem dX9_takes_41 : decode cX9_takes 41 = .ok (.getfield 7, 3) := by decide +kernel
theorem dX9_takes_44 : decode cX9_takes 44 = .ok (.iconst 2, 1) := by decide +kernel
theorem dX9_takes_45 : decode cX9_takes 45 = .ok (.dup2, 1) := by decide +kernel
theorem dX9_takes_46 : decode cX9_takes 46 = .ok (.iaload, 1) := by decide +kernel
theorem dX9_takes_47 : decode cX9_takes 47 = .ok (.iconst 1, 1) := by decide +kernel
theorem dX9_takes_48 : decode cX9_takes 48 = .ok (.iadd, 1) := by decide +kernel
theorem dX9_takes_49 : decode cX9_takes 49 = .ok (.iastore, 1) := by decide +kernel
theorem dX9_takes_50 : decode cX9_takes 50 = .ok (.aload_n 0, 1) := by decide +kernel
theorem dX9_takes_51 : decode cX9_takes 51 = .ok (.iload_n 1, 1) := by decide +kernel
theorem dX9_takes_52 : decode cX9_takes 52 = .ok (.invokevirtual 94, 3) := by decide +kernel
theorem dX9_takes_55 : decode cX9_takes 55 = .ok (.aload_n 0, 1) := by decide +kernel
theorem dX9_takes_56 : decode cX9_takes 56 = .ok (.getfield 7, 3) := by decide +kernel
theorem dX9_takes_59 : decode cX9_takes 59 = .ok (.iconst 1, 1) := by decide +kernel
theorem dX9_takes_60 : decode cX9_takes 60 = .ok (.iaload, 1) := by decide +kernel
theorem dX9_takes_61 : decode cX9_takes 61 = .ok (.ireturn, 1) := by decide +kernel
set_option maxRecDepth 20000 in
theorem ggX9_takeOut_X9_takeError : GoodIn wsX9_takeOut wsX9_takeError := goodIn_r _ [5, 6, 7, 8, 9, 4, 10, 11, 12, 13, 36, 37, 38, 39, 40, 41, 42, 43, 44, 45, 46, 47] (by decide +kernel) (by decide +kernel)
set_option maxRecDepth 20000 in
theorem gX9_takeOut_X9_takeError : GoodIn wsX9_takeOut (wsV RX9 103 RX9 yX9_takeError wsX9_takeError) := goodIn_app (goodIn_of _ (by decide +kernel)) ggX9_takeOut_X9_takeError
set_option maxRecDepth 20000 in
theorem ggX9_takeOut_X9_records : GoodIn wsX9_takeOut wsX9_records := goodIn_r _ [17, 18, 19, 6, 36, 37, 38, 39, 40, 41, 42, 43, 44, 45, 46, 47] (by decide +kernel) (by decide +kernel)
set_option maxRecDepth 20000 in
theorem gX9_takeOut_X9_records : GoodIn wsX9_takeOut (wsV RX9 38 RX9 yX9_records wsX9_records) := goodIn_app (goodIn_of _ (by decide +kernel)) ggX9_takeOut_X9_records
set_option maxRecDepth 20000 in
theorem ggX9_takeOut_X9_takes : GoodIn wsX9_takeOut wsX9_takes := goodIn_r _ [23, 6, 24, 25, 26, 4, 27, 28, 29, 30, 31, 7, 8, 9, 10, 11, 12, 13, 32, 33, 34, 35, 36, 37, 38, 39, 40, 41, 42, 43, 44, 45, 46, 47] (by decide +kernel) (by decide +kernel)
set_option maxRecDepth 20000 in
theorem gX9_takeOut_X9_takes : GoodIn wsX9_takeOut (wsV RX9 106 RX9 yX9_takes wsX9_takes) := goodIn_app (goodIn_of _ (by decide +kernel)) ggX9_takeOut_X9_takes
theorem dX9_takeOut_0 : decode cX9_takeOut 0 = .ok (.aload_n 0, 1) := by decide +kernel
theorem dX9_takeOut_1 : decode cX9_takeOut 1 = .ok (.iload_n 1, 1) := by decide +kernel
theorem dX9_takeOut_2 : decode cX9_takeOut 2 = .ok (.invokevirtual 103, 3) := by decide +kernel
theorem dX9_takeOut_5 : decode cX9_takeOut 5 = .ok (.istore_n 2, 1) := by decide +kernel
theorem dX9_takeOut_6 : decode cX9_takeOut 6 = .ok (.iload_n 2, 1) := by decide +kernel
theorem dX9_takeOut_7 : decode cX9_takeOut 7 = .ok (.ifCond .eq 5, 3) := by decide +kernel
theorem dX9_takeOut_10 : decode cX9_takeOut 10 = .ok (.iload_n 2, 1) := by decide +kernel
theorem dX9_takeOut_11 : decode cX9_takeOut 11 = .ok (.ireturn, 1) := by decide +kernel
theorem dX9_takeOut_12 : decode cX9_takeOut 12 = .ok (.aload_n 0, 1) := by decide +kernel
theorem dX9_takeOut_13 : decode cX9_takeOut 13 = .ok (.iconst 0, 1) := by decide +kernel
theorem dX9_takeOut_14 : decode cX9_takeOut 14 = .ok (.invokevirtual 38, 3) := by decide +kernel
theorem dX9_takeOut_17 : decode cX9_takeOut 17 = .ok (.aload_n 0, 1) := by decide +kernel
theorem dX9_takeOut_18 : decode cX9_takeOut 18 = .ok (.iload_n 1, 1) := by decide +kernel
theorem dX9_takeOut_19 : decode cX9_takeOut 19 = .ok (.invokevirtual 106, 3) := by decide +kernel
theorem dX9_takeOut_22 : decode cX9_takeOut 22 = .ok (.ireturn, 1) := by decide +kernel
set_option maxRecDepth 20000 in
theorem ggX9_putError_X9_isIn : GoodIn wsX9_putError wsX9_isIn := goodIn_r _ [5] (by decide +kernel) (by decide +kernel)
set_option maxRecDepth 20000 in
theorem gX9_putError_X9_isIn : GoodIn wsX9_putError (va_wsS RX9 42 yX9_isIn wsX9_isIn) := goodIn_app (goodIn_of _ (by decide +kernel)) ggX9_putError_X9_isIn
theorem dX9_putError_0 : decode cX9_putError 0 = .ok (.iload_n 1, 1) := by decide +kernel
theorem dX9_putError_1 : decode cX9_putError 1 = .ok (.iconst 0, 1) := by decide +kernel
theorem dX9_putError_2 : decode cX9_putError 2 = .ok (.aload_n 0, 1) := by decide +kernel
theorem dX9_putError_3 : decode cX9_putError 3 = .ok (.getfield 7, 3) := by decide +kernel
theorem dX9_putError_6 : decode cX9_putError 6 = .ok (.iconst 2, 1) := by decide +kernel
theorem dX9_putError_7 : decode cX9_putError 7 = .ok (.iaload, 1) := by decide +kernel
theorem dX9_putError_8 : decode cX9_putError 8 = .ok (.iconst 1, 1) := by decide +kernel
theorem dX9_putError_9 : decode cX9_putError 9 = .ok (.isub, 1) := by decide +kernel
theorem dX9_putError_10 : decode cX9_putError 10 = .ok (.invokestatic 42, 3) := by decide +kernel
theorem dX9_putError_13 : decode cX9_putError 13 = .ok (.ifCond .ne 5, 3) := by decide +kernel
theorem dX9_putError_16 : decode cX9_putError 16 = .ok (.iconst (-1), 1) := by decide +kernel
theorem dX9_putError_17 : decode cX9_putError 17 = .ok (.ireturn, 1) := by decide +kernel
theorem dX9_putError_18 : decode cX9_putError 18 = .ok (.iload_n 2, 1) := by decide +kernel
theorem dX9_putError_19 : decode cX9_putError 19 = .ok (.iconst 0, 1) := by decide +kernel
theorem dX9_putError_20 : decode cX9_putError 20 = .ok (.aload_n 0, 1) := by decide +kernel
theorem dX9_putError_21 : decode cX9_putError 21 = .ok (.getfield 7, 3) := by decide +kernel
theorem dX9_putError_24 : decode cX9_putError 24 = .ok (.iconst 1, 1) := by decide +kernel
theorem dX9_putError_25 : decode cX9_putError 25 = .ok (.iaload, 1) := by decide +kernel
theorem dX9_putError_26 : decode cX9_putError 26 = .ok (.invokestatic 42, 3) := by decide +kernel
theorem dX9_putError_29 : decode cX9_putError 29 = .ok (.ifCond .ne 6, 3) := by decide +kernel
theorem dX9_putError_32 : decode cX9_putError 32 = .ok (.bipush (-2), 2) := by decide +kernel
theorem dX9_putError_34 : decode cX9_putError 34 = .ok (.ireturn, 1) := by decide +kernel
theorem dX9_putError_35 : decode cX9_putError 35 = .ok (.aload_n 0, 1) := by decide +kernel
theorem dX9_putError_36 : decode cX9_putError 36 = .ok (.getfield 7, 3) := by decide +kernel
theorem dX9_putError_39 : decode cX9_putError 39 = .ok (.iconst 1, 1) := by decide +kernel
theorem dX9_putError_40 : decode cX9_putError 40 = .ok (.iaload, 1) := by decide +kernel
theorem dX9_putError_41 : decode cX9_putError 41 = .ok (.bipush 20, 2) := by decide +kernel
theorem dX9_putError_43 : decode cX9_putError 43 = .ok (.if_icmp .ne 8, 3) := by decide +kernel
theorem dX9_putError_46 : decode cX9_putError 46 = .ok (.bipush (-3), 2) := by decide +kernel
theorem dX9_putError_48 : decode cX9_putError 48 = .ok (.goto 4, 3) := by decide +kernel
theorem dX9_putError_51 : decode cX9_putError 51 = .ok (.iconst 0, 1) := by decide +kernel
theorem dX9_putError_52 : decode cX9_putError 52 = .ok (.ireturn, 1) := by decide +kernel
set_option maxRecDepth 20000 in
theorem ggX9_puts_X9_ofC : GoodIn wsX9_puts wsX9_ofC := goodIn_r _ [6, 1, 22, 23, 24, 25, 26, 27, 28, 29, 30, 31, 32, 33] (by decide +kernel) (by decide +kernel)
set_option maxRecDepth 20000 in
theorem gX9_puts_X9_ofC : GoodIn wsX9_puts (wsV RX9 109 RX9 yX9_ofC wsX9_ofC) := goodIn_app (goodIn_of _ (by decide +kernel)) ggX9_puts_X9_ofC
set_option maxRecDepth 20000 in
theorem ggX9_puts_X9_inserts : GoodIn wsX9_puts wsX9_inserts := goodIn_r _ [10, 1, 11, 12, 13, 5, 14, 15, 16, 17, 18, 19, 20, 21, 22, 23, 24, 25, 26, 27, 28, 29, 30, 31, 32, 33] (by decide +kernel) (by decide +kernel)
set_option maxRecDepth 20000 in
theorem gX9_puts_X9_inserts : GoodIn wsX9_puts (wsV RX9 77 RX9 yX9_inserts wsX9_inserts) := goodIn_app (goodIn_of _ (by decide +kernel)) ggX9_puts_X9_inserts
theorem dX9_puts_0 : decode cX9_puts 0 = .ok (.aload_n 0, 1) := by decide +kernel
theorem dX9_puts_1 : decode cX9_puts 1 = .ok (.iload_n 2, 1) := by decide +kernel
theorem dX9_puts_2 : decode cX9_puts 2 = .ok (.aload_n 0, 1) := by decide +kernel
theorem dX9_puts_3 : decode cX9_puts 3 = .ok (.iload_n 1, 1) := by decide +kernel
theorem dX9_puts_4 : decode cX9_puts 4 = .ok (.iconst 0, 1) := by decide +kernel
theorem dX9_puts_5 : decode cX9_puts 5 = .ok (.invokevirtual 109, 3) := by decide +kernel
theorem dX9_puts_8 : decode cX9_puts 8 = .ok (.aload_n 0, 1) := by decide +kernel
theorem dX9_puts_9 : decode cX9_puts 9 = .ok (.iload_n 1, 1) := by decide +kernel
theorem dX9_puts_10 : decode cX9_puts 10 = .ok (.iconst 1, 1) := by decide +kernel
theorem dX9_puts_11 : decode cX9_puts 11 = .ok (.invokevirtual 109, 3) := by decide +kernel
theorem dX9_puts_14 : decode cX9_puts 14 = .ok (.aload_n 0, 1) := by decide +kernel
theorem dX9_puts_15 : decode cX9_puts 15 = .ok (.iload_n 1, 1) := by decide +kernel
theorem dX9_puts_16 : decode cX9_puts 16 = .ok (.iconst 2, 1) := by decide +kernel
theorem dX9_puts_17 : decode cX9_puts 17 = .ok (.invokevirtual 109, 3) := by decide +kernel
theorem dX9_puts_20 : decode cX9_puts 20 = .ok (.invokevirtual 77, 3) := by decide +kernel
theorem dX9_puts_23 : decode cX9_puts 23 = .ok (.aload_n 0, 1) := by decide +kernel
theorem dX9_puts_24 : decode cX9_puts 24 = .ok (.getfield 7, 3) := by decide +kernel
theorem dX9_puts_27 : decode cX9_puts 27 = .ok (.iconst 2, 1) := by decide +kernel
theorem dX9_puts_28 : decode cX9_puts 28 = .ok (.dup2, 1) := by decide +kernel
theorem dX9_puts_29 : decode cX9_puts 29 = .ok (.iaload, 1) := by decide +kernel
theorem dX9_puts_30 : decode cX9_puts 30 = .ok (.iconst 1, 1) := by decide +kernel
theorem dX9_puts_31 : decode cX9_puts 31 = .ok (.isub, 1) := by decide +kernel
theorem dX9_puts_32 : decode cX9_puts 32 = .ok (.iastore, 1) := by decide +kernel
theorem dX9_puts_33 : decode cX9_puts 33 = .ok (.iconst 3, 1) := by decide +kernel
theorem dX9_puts_34 : decode cX9_puts 34 = .ok (.iload_n 1, 1) := by decide +kernel
theorem dX9_puts_35 : decode cX9_puts 35 = .ok (.imul, 1) := by decide +kernel
theorem dX9_puts_36 : decode cX9_puts 36 = .ok (.istore_n 3, 1) := by decide +kernel
theorem dX9_puts_37 : decode cX9_puts 37 = .ok (.iload_n 3, 1) := by decide +kernel
theorem dX9_puts_38 : decode cX9_puts 38 = .ok (.iconst 3, 1) := by decide +kernel
theorem dX9_puts_39 : decode cX9_puts 39 = .ok (.aload_n 0, 1) := by decide +kernel
theorem dX9_puts_40 : decode cX9_puts 40 = .ok (.getfield 7, 3) := by decide +kernel
theorem dX9_puts_43 : decode cX9_puts 43 = .ok (.iconst 2, 1) := by decide +kernel
theorem dX9_puts_44 : decode cX9_puts 44 = .ok (.iaload, 1) := by decide +kernel
theorem dX9_puts_45 : decode cX9_puts 45 = .ok (.imul, 1) := by decide +kernel
theorem dX9_puts_46 : decode cX9_puts 46 = .ok (.if_icmp .ge 31, 3) := by decide +kernel
theorem dX9_puts_49 : decode cX9_puts 49 = .ok (.aload_n 0, 1) := by decide +kernel
theorem dX9_puts_50 : decode cX9_puts 50 = .ok (.getfield 7, 3) := by decide +kernel
theorem dX9_puts_53 : decode cX9_puts 53 = .ok (.sipush 1072, 3) := by decide +kernel
theorem dX9_puts_56 : decode cX9_puts 56 = .ok (.iload_n 3, 1) := by decide +kernel
theorem dX9_puts_57 : decode cX9_puts 57 = .ok (.iadd, 1) := by decide +kernel
theorem dX9_puts_58 : decode cX9_puts 58 = .ok (.aload_n 0, 1) := by decide +kernel
theorem dX9_puts_59 : decode cX9_puts 59 = .ok (.getfield 7, 3) := by decide +kernel
theorem dX9_puts_62 : decode cX9_puts 62 = .ok (.sipush 1072, 3) := by decide +kernel
theorem dX9_puts_65 : decode cX9_puts 65 = .ok (.iload_n 3, 1) := by decide +kernel
theorem dX9_puts_66 : decode cX9_puts 66 = .ok (.iadd, 1) := by decide +kernel
theorem dX9_puts_67 : decode cX9_puts 67 = .ok (.iconst 3, 1) := by decide +kernel
theorem dX9_puts_68 : decode cX9_puts 68 = .ok (.iadd, 1) := by decide +kernel
theorem dX9_puts_69 : decode cX9_puts 69 = .ok (.iaload, 1) := by decide +kernel
theorem dX9_puts_70 : decode cX9_puts 70 = .ok (.iastore, 1) := by decide +kernel
theorem dX9_puts_71 : decode cX9_puts 71 = .ok (.iinc 3 1, 3) := by decide +kernel
theorem dX9_puts_74 : decode cX9_puts 74 = .ok (.goto (-37), 3) := by decide +kernel
theorem dX9_puts_77 : decode cX9_puts 77 = .ok (.aload_n 0, 1) := by decide +kernel
theorem dX9_puts_78 : decode cX9_puts 78 = .ok (.getfield 7, 3) := by decide +kernel
theorem dX9_puts_81 : decode cX9_puts 81 = .ok (.iconst 2, 1) := by decide +kernel
theorem dX9_puts_82 : decode cX9_puts 82 = .ok (.iaload, 1) := by decide +kernel
theorem dX9_puts_83 : decode cX9_puts 83 = .ok (.ireturn, 1) := by decide +kernel
set_option maxRecDepth 20000 in
theorem ggX9_putIn_X9_putError : GoodIn wsX9_putIn wsX9_putError := goodIn_r _ [5, 6, 7, 8, 4, 9, 36, 37, 38, 39, 40, 41, 42, 43, 44, 45, 46, 47] (by decide +kernel) (by decide +kernel)
set_option maxRecDepth 20000 in
theorem gX9_putIn_X9_putError : GoodIn wsX9_putIn (wsV RX9 112 RX9 yX9_putError wsX9_putError) := goodIn_app (goodIn_of _ (by decide +kernel)) ggX9_putIn_X9_putError
set_option maxRecDepth 20000 in
theorem ggX9_putIn_X9_records : GoodIn wsX9_putIn wsX9_records := goodIn_r _ [13, 14, 15, 6, 36, 37, 38, 39, 40, 41, 42, 43, 44, 45, 46, 47] (by decide +kernel) (by decide +kernel)
set_option maxRecDepth 20000 in
theorem gX9_putIn_X9_records : GoodIn wsX9_putIn (wsV RX9 38 RX9 yX9_records wsX9_records) := goodIn_app (goodIn_of _ (by decide +kernel)) ggX9_putIn_X9_records
set_option maxRecDepth 20000 in
theorem ggX9_putIn_X9_puts : GoodIn wsX9_putIn wsX9_puts := goodIn_r _ [19, 6, 20, 21, 22, 4, 23, 24, 25, 26, 27, 28, 29, 30, 31, 32, 33, 34, 35, 7, 8, 9, 36, 37, 38, 39, 40, 41, 42, 43, 44, 45, 46, 47] (by decide +kernel) (by decide +kernel)
set_option maxRecDepth 20000 in
theorem gX9_putIn_X9_puts : GoodIn wsX9_putIn (wsV RX9 115 RX9 yX9_puts wsX9_puts) := goodIn_app (goodIn_of _ (by decide +kernel)) ggX9_putIn_X9_puts
theorem dX9_putIn_0 : decode cX9_putIn 0 = .ok (.aload_n 0, 1) := by decide +kernel
theorem dX9_putIn_1 : decode cX9_putIn 1 = .ok (.iload_n 1, 1) := by decide +kernel
theorem dX9_putIn_2 : decode cX9_putIn 2 = .ok (.iload_n 2, 1) := by decide +kernel
theorem dX9_putIn_3 : decode cX9_putIn 3 = .ok (.invokevirtual 112, 3) := by decide +kernel
theorem dX9_putIn_6 : decode cX9_putIn 6 = .ok (.istore_n 3, 1) := by decide +kernel
theorem dX9_putIn_7 : decode cX9_putIn 7 = .ok (.iload_n 3, 1) := by decide +kernel
theorem dX9_putIn_8 : decode cX9_putIn 8 = .ok (.ifCond .eq 5, 3) := by decide +kernel
theorem dX9_putIn_11 : decode cX9_putIn 11 = .ok (.iload_n 3, 1) := by decide +kernel
theorem dX9_putIn_12 : decode cX9_putIn 12 = .ok (.ireturn, 1) := by decide +kernel
theorem dX9_putIn_13 : decode cX9_putIn 13 = .ok (.aload_n 0, 1) := by decide +kernel
theorem dX9_putIn_14 : decode cX9_putIn 14 = .ok (.iconst 0, 1) := by decide +kernel
theorem dX9_putIn_15 : decode cX9_putIn 15 = .ok (.invokevirtual 38, 3) := by decide +kernel
theorem dX9_putIn_18 : decode cX9_putIn 18 = .ok (.aload_n 0, 1) := by decide +kernel
theorem dX9_putIn_19 : decode cX9_putIn 19 = .ok (.iload_n 1, 1) := by decide +kernel
theorem dX9_putIn_20 : decode cX9_putIn 20 = .ok (.iload_n 2, 1) := by decide +kernel
theorem dX9_putIn_21 : decode cX9_putIn 21 = .ok (.invokevirtual 115, 3) := by decide +kernel
theorem dX9_putIn_24 : decode cX9_putIn 24 = .ok (.ireturn, 1) := by decide +kernel
set_option maxRecDepth 20000 in
theorem ggX9_moveError_X9_isPiece : GoodIn wsX9_moveError wsX9_isPiece := goodIn_r _ [5, 6, 7, 8, 4, 9, 10, 11, 12, 13, 14, 15, 16, 17, 18, 19, 20, 21] (by decide +kernel) (by decide +kernel)
set_option maxRecDepth 20000 in
theorem gX9_moveError_X9_isPiece : GoodIn wsX9_moveError (wsV RX9 74 RX9 yX9_isPiece wsX9_isPiece) := goodIn_app (goodIn_of _ (by decide +kernel)) ggX9_moveError_X9_isPiece
theorem dX9_moveError_0 : decode cX9_moveError 0 = .ok (.aload_n 0, 1) := by decide +kernel
theorem dX9_moveError_1 : decode cX9_moveError 1 = .ok (.iload_n 1, 1) := by decide +kernel
theorem dX9_moveError_2 : decode cX9_moveError 2 = .ok (.invokevirtual 74, 3) := by decide +kernel
theorem dX9_moveError_5 : decode cX9_moveError 5 = .ok (.ifCond .eq 11, 3) := by decide +kernel
theorem dX9_moveError_8 : decode cX9_moveError 8 = .ok (.aload_n 0, 1) := by decide +kernel
theorem dX9_moveError_9 : decode cX9_moveError 9 = .ok (.iload_n 2, 1) := by decide +kernel
theorem dX9_moveError_10 : decode cX9_moveError 10 = .ok (.invokevirtual 74, 3) := by decide +kernel
theorem dX9_moveError_13 : decode cX9_moveError 13 = .ok (.ifCond .ne 5, 3) := by decide +kernel
theorem dX9_moveError_16 : decode cX9_moveError 16 = .ok (.iconst (-1), 1) := by decide +kernel
theorem dX9_moveError_17 : decode cX9_moveError 17 = .ok (.ireturn, 1) := by decide +kernel
theorem dX9_moveError_18 : decode cX9_moveError 18 = .ok (.iload_n 1, 1) := by decide +kernel
theorem dX9_moveError_19 : decode cX9_moveError 19 = .ok (.iload_n 2, 1) := by decide +kernel
theorem dX9_moveError_20 : decode cX9_moveError 20 = .ok (.if_icmp .ne 8, 3) := by decide +kernel
theorem dX9_moveError_23 : decode cX9_moveError 23 = .ok (.bipush (-5), 2) := by decide +kernel
theorem dX9_moveError_25 : decode cX9_moveError 25 = .ok (.goto 4, 3) := by decide +kernel
theorem dX9_moveError_28 : decode cX9_moveError 28 = .ok (.iconst 0, 1) := by decide +kernel
theorem dX9_moveError_29 : decode cX9_moveError 29 = .ok (.ireturn, 1) := by decide +kernel
set_option maxRecDepth 20000 in
theorem ggX9_moves_X9_ofP : GoodIn wsX9_moves wsX9_ofP := goodIn_r _ [5, 6, 34, 35, 36, 37, 38, 39, 40, 41, 42, 43, 44, 45] (by decide +kernel) (by decide +kernel)
set_option maxRecDepth 20000 in
theorem gX9_moves_X9_ofP : GoodIn wsX9_moves (wsV RX9 54 RX9 yX9_ofP wsX9_ofP) := goodIn_app (goodIn_of _ (by decide +kernel)) ggX9_moves_X9_ofP
set_option maxRecDepth 20000 in
theorem ggX9_moves_X9_removes : GoodIn wsX9_moves wsX9_removes := goodIn_r _ [10, 6, 11, 12, 13, 4, 14, 15, 16, 17, 18, 19, 20, 21, 34, 35, 36, 37, 38, 39, 40, 41, 42, 43, 44, 45] (by decide +kernel) (by decide +kernel)
set_option maxRecDepth 20000 in
theorem gX9_moves_X9_removes : GoodIn wsX9_moves (wsV RX9 94 RX9 yX9_removes wsX9_removes) := goodIn_app (goodIn_of _ (by decide +kernel)) ggX9_moves_X9_removes
set_option maxRecDepth 20000 in
theorem ggX9_moves_X9_inserts : GoodIn wsX9_moves wsX9_inserts := goodIn_r _ [25, 6, 18, 19, 20, 4, 21, 11, 12, 13, 14, 15, 16, 17, 34, 35, 36, 37, 38, 39, 40, 41, 42, 43, 44, 45] (by decide +kernel) (by decide +kernel)
set_option maxRecDepth 20000 in
theorem gX9_moves_X9_inserts : GoodIn wsX9_moves (wsV RX9 77 RX9 yX9_inserts wsX9_inserts) := goodIn_app (goodIn_of _ (by decide +kernel)) ggX9_moves_X9_inserts
set_option maxRecDepth 20000 in
theorem ggX9_moves_X9_positionOf : GoodIn wsX9_moves wsX9_positionOf := goodIn_r _ [29, 30, 31, 32, 4, 33, 1, 2, 3, 5, 6, 34, 35, 36, 37, 38, 39, 40, 41, 42, 43, 44, 45] (by decide +kernel) (by decide +kernel)
set_option maxRecDepth 20000 in
theorem gX9_moves_X9_positionOf : GoodIn wsX9_moves (wsV RX9 61 RX9 yX9_positionOf wsX9_positionOf) := goodIn_app (goodIn_of _ (by decide +kernel)) ggX9_moves_X9_positionOf
theorem dX9_moves_0 : decode cX9_moves 0 = .ok (.aload_n 0, 1) := by decide +kernel
theorem dX9_moves_1 : decode cX9_moves 1 = .ok (.iload_n 1, 1) := by decide +kernel
theorem dX9_moves_2 : decode cX9_moves 2 = .ok (.iconst 0, 1) := by decide +kernel
theorem dX9_moves_3 : decode cX9_moves 3 = .ok (.invokevirtual 54, 3) := by decide +kernel
theorem dX9_moves_6 : decode cX9_moves 6 = .ok (.istore_n 3, 1) := by decide +kernel
theorem dX9_moves_7 : decode cX9_moves 7 = .ok (.aload_n 0, 1) := by decide +kernel
theorem dX9_moves_8 : decode cX9_moves 8 = .ok (.iload_n 1, 1) := by decide +kernel
theorem dX9_moves_9 : decode cX9_moves 9 = .ok (.iconst 1, 1) := by decide +kernel
theorem dX9_moves_10 : decode cX9_moves 10 = .ok (.invokevirtual 54, 3) := by decide +kernel
theorem dX9_moves_13 : decode cX9_moves 13 = .ok (.istore 4, 2) := by decide +kernel
theorem dX9_moves_15 : decode cX9_moves 15 = .ok (.aload_n 0, 1) := by decide +kernel
theorem dX9_moves_16 : decode cX9_moves 16 = .ok (.iload_n 1, 1) := by decide +kernel
theorem dX9_moves_17 : decode cX9_moves 17 = .ok (.iconst 2, 1) := by decide +kernel
theorem dX9_moves_18 : decode cX9_moves 18 = .ok (.invokevirtual 54, 3) := by decide +kernel
theorem dX9_moves_21 : decode cX9_moves 21 = .ok (.istore 5, 2) := by decide +kernel
theorem dX9_moves_23 : decode cX9_moves 23 = .ok (.aload_n 0, 1) := by decide +kernel
theorem dX9_moves_24 : decode cX9_moves 24 = .ok (.iload_n 1, 1) := by decide +kernel
theorem dX9_moves_25 : decode cX9_moves 25 = .ok (.invokevirtual 94, 3) := by decide +kernel
theorem dX9_moves_28 : decode cX9_moves 28 = .ok (.aload_n 0, 1) := by decide +kernel
theorem dX9_moves_29 : decode cX9_moves 29 = .ok (.iload_n 2, 1) := by decide +kernel
theorem dX9_moves_30 : decode cX9_moves 30 = .ok (.iload_n 3, 1) := by decide +kernel
theorem dX9_moves_31 : decode cX9_moves 31 = .ok (.iload 4, 2) := by decide +kernel
theorem dX9_moves_33 : decode cX9_moves 33 = .ok (.iload 5, 2) := by decide +kernel
theorem dX9_moves_35 : decode cX9_moves 35 = .ok (.invokevirtual 77, 3) := by decide +kernel
theorem dX9_moves_38 : decode cX9_moves 38 = .ok (.aload_n 0, 1) := by decide +kernel
theorem dX9_moves_39 : decode cX9_moves 39 = .ok (.iload_n 2, 1) := by decide +kernel
theorem dX9_moves_40 : decode cX9_moves 40 = .ok (.invokevirtual 61, 3) := by decide +kernel
theorem dX9_moves_43 : decode cX9_moves 43 = .ok (.ireturn, 1) := by decide +kernel
set_option maxRecDepth 20000 in
theorem ggX9_move_X9_moveError : GoodIn wsX9_move wsX9_moveError := goodIn_r _ [5, 6, 7, 8, 4, 9, 10, 11, 12, 13, 48, 49, 50, 51, 52, 53, 54, 55, 56, 57, 58, 59] (by decide +kernel) (by decide +kernel)
set_option maxRecDepth 20000 in
theorem gX9_move_X9_moveError : GoodIn wsX9_move (wsV RX9 118 RX9 yX9_moveError wsX9_moveError) := goodIn_app (goodIn_of _ (by decide +kernel)) ggX9_move_X9_moveError
set_option maxRecDepth 20000 in
theorem ggX9_move_X9_records : GoodIn wsX9_move wsX9_records := goodIn_r _ [17, 18, 19, 10, 48, 49, 50, 51, 52, 53, 54, 55, 56, 57, 58, 59] (by decide +kernel) (by decide +kernel)
set_option maxRecDepth 20000 in
theorem gX9_move_X9_records : GoodIn wsX9_move (wsV RX9 38 RX9 yX9_records wsX9_records) := goodIn_app (goodIn_of _ (by decide +kernel)) ggX9_move_X9_records
set_option maxRecDepth 20000 in
theorem ggX9_move_X9_moves : GoodIn wsX9_move wsX9_moves := goodIn_r _ [23, 24, 25, 26, 4, 27, 10, 28, 29, 30, 31, 6, 7, 8, 9, 11, 12, 13, 32, 33, 34, 35, 36, 37, 38, 39, 40, 41, 42, 43, 44, 45, 46, 47, 48, 49, 50, 51, 52, 53, 54, 55, 56, 57, 58, 59] (by decide +kernel) (by decide +kernel)
set_option maxRecDepth 20000 in
theorem gX9_move_X9_moves : GoodIn wsX9_move (wsV RX9 121 RX9 yX9_moves wsX9_moves) := goodIn_app (goodIn_of _ (by decide +kernel)) ggX9_move_X9_moves
theorem dX9_move_0 : decode cX9_move 0 = .ok (.aload_n 0, 1) := by decide +kernel
theorem dX9_move_1 : decode cX9_move 1 = .ok (.iload_n 1, 1) := by decide +kernel
theorem dX9_move_2 : decode cX9_move 2 = .ok (.iload_n 2, 1) := by decide +kernel
theorem dX9_move_3 : decode cX9_move 3 = .ok (.invokevirtual 118, 3) := by decide +kernel
theorem dX9_move_6 : decode cX9_move 6 = .ok (.istore_n 3, 1) := by decide +kernel
theorem dX9_move_7 : decode cX9_move 7 = .ok (.iload_n 3, 1) := by decide +kernel
theorem dX9_move_8 : decode cX9_move 8 = .ok (.ifCond .eq 5, 3) := by decide +kernel
theorem dX9_move_11 : decode cX9_move 11 = .ok (.iload_n 3, 1) := by decide +kernel
theorem dX9_move_12 : decode cX9_move 12 = .ok (.ireturn, 1) := by decide +kernel
theorem dX9_move_13 : decode cX9_move 13 = .ok (.aload_n 0, 1) := by decide +kernel
theorem dX9_move_14 : decode cX9_move 14 = .ok (.iconst 0, 1) := by decide +kernel
theorem dX9_move_15 : decode cX9_move 15 = .ok (.invokevirtual 38, 3) := by decide +kernel
theorem dX9_move_18 : decode cX9_move 18 = .ok (.aload_n 0, 1) := by decide +kernel
theorem dX9_move_19 : decode cX9_move 19 = .ok (.iload_n 1, 1) := by decide +kernel
theorem dX9_move_20 : decode cX9_move 20 = .ok (.iload_n 2, 1) := by decide +kernel
theorem dX9_move_21 : decode cX9_move 21 = .ok (.invokevirtual 121, 3) := by decide +kernel
theorem dX9_move_24 : decode cX9_move 24 = .ok (.ireturn, 1) := by decide +kernel
theorem dX9_setsTorn_0 : decode cX9_setsTorn 0 = .ok (.aload_n 0, 1) := by decide +kernel
theorem dX9_setsTorn_1 : decode cX9_setsTorn 1 = .ok (.getfield 7, 3) := by decide +kernel
theorem dX9_setsTorn_4 : decode cX9_setsTorn 4 = .ok (.bipush 32, 2) := by decide +kernel
theorem dX9_setsTorn_6 : decode cX9_setsTorn 6 = .ok (.iconst 2, 1) := by decide +kernel
theorem dX9_setsTorn_7 : decode cX9_setsTorn 7 = .ok (.bipush 40, 2) := by decide +kernel
theorem dX9_setsTorn_9 : decode cX9_setsTorn 9 = .ok (.iload_n 1, 1) := by decide +kernel
theorem dX9_setsTorn_10 : decode cX9_setsTorn 10 = .ok (.imul, 1) := by decide +kernel
theorem dX9_setsTorn_11 : decode cX9_setsTorn 11 = .ok (.iload_n 2, 1) := by decide +kernel
theorem dX9_setsTorn_12 : decode cX9_setsTorn 12 = .ok (.iadd, 1) := by decide +kernel
theorem dX9_setsTorn_13 : decode cX9_setsTorn 13 = .ok (.imul, 1) := by decide +kernel
theorem dX9_setsTorn_14 : decode cX9_setsTorn 14 = .ok (.iadd, 1) := by decide +kernel
theorem dX9_setsTorn_15 : decode cX9_setsTorn 15 = .ok (.iload_n 3, 1) := by decide +kernel
theorem dX9_setsTorn_16 : decode cX9_setsTorn 16 = .ok (.iastore, 1) := by decide +kernel
theorem dX9_setsTorn_17 : decode cX9_setsTorn 17 = .ok (.return_, 1) := by decide +kernel
set_option maxRecDepth 20000 in
theorem ggX9_tear_X9_isFrame : GoodIn wsX9_tear wsX9_isFrame := goodIn_r _ [5, 6, 7, 8, 4, 9, 10, 11, 12, 13, 14, 15, 16, 17, 39, 40, 41, 42, 43, 44, 45, 46, 47, 48, 49, 50] (by decide +kernel) (by decide +kernel)
set_option maxRecDepth 20000 in
theorem gX9_tear_X9_isFrame : GoodIn wsX9_tear (wsV RX9 124 RX9 yX9_isFrame wsX9_isFrame) := goodIn_app (goodIn_of _ (by decide +kernel)) ggX9_tear_X9_isFrame
set_option maxRecDepth 20000 in
theorem ggX9_tear_X9_isIn : GoodIn wsX9_tear wsX9_isIn := goodIn_r _ [13] (by decide +kernel) (by decide +kernel)
set_option maxRecDepth 20000 in
theorem gX9_tear_X9_isIn : GoodIn wsX9_tear (va_wsS RX9 42 yX9_isIn wsX9_isIn) := goodIn_app (goodIn_of _ (by decide +kernel)) ggX9_tear_X9_isIn
set_option maxRecDepth 20000 in
theorem ggX9_tear_X9_torn : GoodIn wsX9_tear wsX9_torn := goodIn_r _ [21, 10, 39, 40, 41, 42, 43, 44, 45, 46, 47, 48, 49, 50] (by decide +kernel) (by decide +kernel)
set_option maxRecDepth 20000 in
theorem gX9_tear_X9_torn : GoodIn wsX9_tear (wsV RX9 64 RX9 yX9_torn wsX9_torn) := goodIn_app (goodIn_of _ (by decide +kernel)) ggX9_tear_X9_torn
set_option maxRecDepth 20000 in
theorem ggX9_tear_X9_records : GoodIn wsX9_tear wsX9_records := goodIn_r _ [25, 26, 27, 10, 39, 40, 41, 42, 43, 44, 45, 46, 47, 48, 49, 50] (by decide +kernel) (by decide +kernel)
set_option maxRecDepth 20000 in
theorem gX9_tear_X9_records : GoodIn wsX9_tear (wsV RX9 38 RX9 yX9_records wsX9_records) := goodIn_app (goodIn_of _ (by decide +kernel)) ggX9_tear_X9_records
set_option maxRecDepth 20000 in
theorem ggX9_tear_X9_setsTorn : GoodIn wsX9_tear wsX9_setsTorn := goodIn_r _ [31, 10, 39, 40, 41, 42, 43, 44, 45, 46, 47, 48, 49, 50] (by decide +kernel) (by decide +kernel)
set_option maxRecDepth 20000 in
theorem gX9_tear_X9_setsTorn : GoodIn wsX9_tear (wsV RX9 128 RX9 yX9_setsTorn wsX9_setsTorn) := goodIn_app (goodIn_of _ (by decide +kernel)) ggX9_tear_X9_setsTorn
set_option maxRecDepth 20000 in
theorem ggX9_tear_X9_good : GoodIn wsX9_tear wsX9_good := goodIn_r _ [35, 18, 19, 20, 4, 21, 10, 36, 37, 38, 39, 40, 41, 42, 43, 44, 45, 46, 47, 48, 49, 50] (by decide +kernel) (by decide +kernel)
set_option maxRecDepth 20000 in
theorem gX9_tear_X9_good : GoodIn wsX9_tear (wsV RX9 131 RX9 yX9_good wsX9_good) := goodIn_app (goodIn_of _ (by decide +kernel)) ggX9_tear_X9_good
theorem dX9_tear_0 : decode cX9_tear 0 = .ok (.aload_n 0, 1) := by decide +kernel
theorem dX9_tear_1 : decode cX9_tear 1 = .ok (.iload_n 1, 1) := by decide +kernel
theorem dX9_tear_2 : decode cX9_tear 2 = .ok (.iload_n 2, 1) := by decide +kernel
theorem dX9_tear_3 : decode cX9_tear 3 = .ok (.invokevirtual 124, 3) := by decide +kernel
theorem dX9_tear_6 : decode cX9_tear 6 = .ok (.ifCond .ne 5, 3) := by decide +kernel
theorem dX9_tear_9 : decode cX9_tear 9 = .ok (.iconst (-1), 1) := by decide +kernel
theorem dX9_tear_10 : decode cX9_tear 10 = .ok (.ireturn, 1) := by decide +kernel
theorem dX9_tear_11 : decode cX9_tear 11 = .ok (.iload_n 3, 1) := by decide +kernel
theorem dX9_tear_12 : decode cX9_tear 12 = .ok (.iconst 0, 1) := by decide +kernel
theorem dX9_tear_13 : decode cX9_tear 13 = .ok (.iconst 3, 1) := by decide +kernel
theorem dX9_tear_14 : decode cX9_tear 14 = .ok (.invokestatic 42, 3) := by decide +kernel
theorem dX9_tear_17 : decode cX9_tear 17 = .ok (.ifCond .ne 6, 3) := by decide +kernel
theorem dX9_tear_20 : decode cX9_tear 20 = .ok (.bipush (-2), 2) := by decide +kernel
theorem dX9_tear_22 : decode cX9_tear 22 = .ok (.ireturn, 1) := by decide +kernel
theorem dX9_tear_23 : decode cX9_tear 23 = .ok (.aload_n 0, 1) := by decide +kernel
theorem dX9_tear_24 : decode cX9_tear 24 = .ok (.iload_n 1, 1) := by decide +kernel
theorem dX9_tear_25 : decode cX9_tear 25 = .ok (.iload_n 2, 1) := by decide +kernel
theorem dX9_tear_26 : decode cX9_tear 26 = .ok (.invokevirtual 64, 3) := by decide +kernel
theorem dX9_tear_29 : decode cX9_tear 29 = .ok (.iload_n 3, 1) := by decide +kernel
theorem dX9_tear_30 : decode cX9_tear 30 = .ok (.ishr, 1) := by decide +kernel
theorem dX9_tear_31 : decode cX9_tear 31 = .ok (.iconst 1, 1) := by decide +kernel
theorem dX9_tear_32 : decode cX9_tear 32 = .ok (.iand, 1) := by decide +kernel
theorem dX9_tear_33 : decode cX9_tear 33 = .ok (.iconst 1, 1) := by decide +kernel
theorem dX9_tear_34 : decode cX9_tear 34 = .ok (.if_icmp .ne 6, 3) := by decide +kernel
theorem dX9_tear_37 : decode cX9_tear 37 = .ok (.bipush (-5), 2) := by decide +kernel
theorem dX9_tear_39 : decode cX9_tear 39 = .ok (.ireturn, 1) := by decide +kernel
theorem dX9_tear_40 : decode cX9_tear 40 = .ok (.aload_n 0, 1) := by decide +kernel
theorem dX9_tear_41 : decode cX9_tear 41 = .ok (.iconst 0, 1) := by decide +kernel
theorem dX9_tear_42 : decode cX9_tear 42 = .ok (.invokevirtual 38, 3) := by decide +kernel
theorem dX9_tear_45 : decode cX9_tear 45 = .ok (.aload_n 0, 1) := by decide +kernel
theorem dX9_tear_46 : decode cX9_tear 46 = .ok (.iload_n 1, 1) := by decide +kernel
theorem dX9_tear_47 : decode cX9_tear 47 = .ok (.iload_n 2, 1) := by decide +kernel
theorem dX9_tear_48 : decode cX9_tear 48 = .ok (.aload_n 0, 1) := by decide +kernel
theorem dX9_tear_49 : decode cX9_tear 49 = .ok (.iload_n 1, 1) := by decide +kernel
theorem dX9_tear_50 : decode cX9_tear 50 = .ok (.iload_n 2, 1) := by decide +kernel
theorem dX9_tear_51 : decode cX9_tear 51 = .ok (.invokevirtual 64, 3) := by decide +kernel
theorem dX9_tear_54 : decode cX9_tear 54 = .ok (.iconst 1, 1) := by decide +kernel
theorem dX9_tear_55 : decode cX9_tear 55 = .ok (.iload_n 3, 1) := by decide +kernel
theorem dX9_tear_56 : decode cX9_tear 56 = .ok (.ishl, 1) := by decide +kernel
theorem dX9_tear_57 : decode cX9_tear 57 = .ok (.ior, 1) := by decide +kernel
theorem dX9_tear_58 : decode cX9_tear 58 = .ok (.invokevirtual 128, 3) := by decide +kernel
theorem dX9_tear_61 : decode cX9_tear 61 = .ok (.aload_n 0, 1) := by decide +kernel
theorem dX9_tear_62 : decode cX9_tear 62 = .ok (.iload_n 1, 1) := by decide +kernel
theorem dX9_tear_63 : decode cX9_tear 63 = .ok (.iload_n 2, 1) := by decide +kernel
theorem dX9_tear_64 : decode cX9_tear 64 = .ok (.invokevirtual 131, 3) := by decide +kernel
theorem dX9_tear_67 : decode cX9_tear 67 = .ok (.ireturn, 1) := by decide +kernel
set_option maxRecDepth 20000 in
theorem ggX9_patch_X9_isFrame : GoodIn wsX9_patch wsX9_isFrame := goodIn_r _ [5, 6, 7, 8, 4, 9, 10, 11, 12, 13, 14, 15, 16, 17, 35, 36, 37, 38, 39, 40, 41, 42, 43, 44, 45, 46] (by decide +kernel) (by decide +kernel)
set_option maxRecDepth 20000 in
theorem gX9_patch_X9_isFrame : GoodIn wsX9_patch (wsV RX9 124 RX9 yX9_isFrame wsX9_isFrame) := goodIn_app (goodIn_of _ (by decide +kernel)) ggX9_patch_X9_isFrame
set_option maxRecDepth 20000 in
theorem ggX9_patch_X9_torn : GoodIn wsX9_patch wsX9_torn := goodIn_r _ [21, 10, 35, 36, 37, 38, 39, 40, 41, 42, 43, 44, 45, 46] (by decide +kernel) (by decide +kernel)
set_option maxRecDepth 20000 in
theorem gX9_patch_X9_torn : GoodIn wsX9_patch (wsV RX9 64 RX9 yX9_torn wsX9_torn) := goodIn_app (goodIn_of _ (by decide +kernel)) ggX9_patch_X9_torn
set_option maxRecDepth 20000 in
theorem ggX9_patch_X9_ones : GoodIn wsX9_patch wsX9_ones := goodIn_r _ [24] (by decide +kernel) (by decide +kernel)
set_option maxRecDepth 20000 in
theorem gX9_patch_X9_ones : GoodIn wsX9_patch (va_wsS RX9 67 yX9_ones wsX9_ones) := goodIn_app (goodIn_of _ (by decide +kernel)) ggX9_patch_X9_ones
set_option maxRecDepth 20000 in
theorem ggX9_patch_X9_records : GoodIn wsX9_patch wsX9_records := goodIn_r _ [28, 29, 30, 10, 35, 36, 37, 38, 39, 40, 41, 42, 43, 44, 45, 46] (by decide +kernel) (by decide +kernel)
set_option maxRecDepth 20000 in
theorem gX9_patch_X9_records : GoodIn wsX9_patch (wsV RX9 38 RX9 yX9_records wsX9_records) := goodIn_app (goodIn_of _ (by decide +kernel)) ggX9_patch_X9_records
set_option maxRecDepth 20000 in
theorem ggX9_patch_X9_setsTorn : GoodIn wsX9_patch wsX9_setsTorn := goodIn_r _ [34, 10, 35, 36, 37, 38, 39, 40, 41, 42, 43, 44, 45, 46] (by decide +kernel) (by decide +kernel)
set_option maxRecDepth 20000 in
theorem gX9_patch_X9_setsTorn : GoodIn wsX9_patch (wsV RX9 128 RX9 yX9_setsTorn wsX9_setsTorn) := goodIn_app (goodIn_of _ (by decide +kernel)) ggX9_patch_X9_setsTorn
theorem dX9_patch_0 : decode cX9_patch 0 = .ok (.aload_n 0, 1) := by decide +kernel
theorem dX9_patch_1 : decode cX9_patch 1 = .ok (.iload_n 1, 1) := by decide +kernel
theorem dX9_patch_2 : decode cX9_patch 2 = .ok (.iload_n 2, 1) := by decide +kernel
theorem dX9_patch_3 : decode cX9_patch 3 = .ok (.invokevirtual 124, 3) := by decide +kernel
theorem dX9_patch_6 : decode cX9_patch 6 = .ok (.ifCond .ne 5, 3) := by decide +kernel
theorem dX9_patch_9 : decode cX9_patch 9 = .ok (.iconst (-1), 1) := by decide +kernel
theorem dX9_patch_10 : decode cX9_patch 10 = .ok (.ireturn, 1) := by decide +kernel
theorem dX9_patch_11 : decode cX9_patch 11 = .ok (.aload_n 0, 1) := by decide +kernel
theorem dX9_patch_12 : decode cX9_patch 12 = .ok (.iload_n 1, 1) := by decide +kernel
theorem dX9_patch_13 : decode cX9_patch 13 = .ok (.iload_n 2, 1) := by decide +kernel
theorem dX9_patch_14 : decode cX9_patch 14 = .ok (.invokevirtual 64, 3) := by decide +kernel
theorem dX9_patch_17 : decode cX9_patch 17 = .ok (.invokestatic 67, 3) := by decide +kernel
theorem dX9_patch_20 : decode cX9_patch 20 = .ok (.istore_n 3, 1) := by decide +kernel
theorem dX9_patch_21 : decode cX9_patch 21 = .ok (.iload_n 3, 1) := by decide +kernel
theorem dX9_patch_22 : decode cX9_patch 22 = .ok (.ifCond .ne 6, 3) := by decide +kernel
theorem dX9_patch_25 : decode cX9_patch 25 = .ok (.bipush (-5), 2) := by decide +kernel
theorem dX9_patch_27 : decode cX9_patch 27 = .ok (.ireturn, 1) := by decide +kernel
theorem dX9_patch_28 : decode cX9_patch 28 = .ok (.aload_n 0, 1) := by decide +kernel
theorem dX9_patch_29 : decode cX9_patch 29 = .ok (.iconst 0, 1) := by decide +kernel
theorem dX9_patch_30 : decode cX9_patch 30 = .ok (.invokevirtual 38, 3) := by decide +kernel
theorem dX9_patch_33 : decode cX9_patch 33 = .ok (.aload_n 0, 1) := by decide +kernel
theorem dX9_patch_34 : decode cX9_patch 34 = .ok (.iload_n 1, 1) := by decide +kernel
theorem dX9_patch_35 : decode cX9_patch 35 = .ok (.iload_n 2, 1) := by decide +kernel
theorem dX9_patch_36 : decode cX9_patch 36 = .ok (.iconst 0, 1) := by decide +kernel
theorem dX9_patch_37 : decode cX9_patch 37 = .ok (.invokevirtual 128, 3) := by decide +kernel
theorem dX9_patch_40 : decode cX9_patch 40 = .ok (.iload_n 3, 1) := by decide +kernel
theorem dX9_patch_41 : decode cX9_patch 41 = .ok (.ireturn, 1) := by decide +kernel
set_option maxRecDepth 20000 in
theorem ggX9_splice_X9_isPiece : GoodIn wsX9_splice wsX9_isPiece := goodIn_r _ [5, 6, 7, 8, 4, 9, 24, 25, 26, 27, 28, 29, 30, 31, 32, 33, 34, 35] (by decide +kernel) (by decide +kernel)
set_option maxRecDepth 20000 in
theorem gX9_splice_X9_isPiece : GoodIn wsX9_splice (wsV RX9 74 RX9 yX9_isPiece wsX9_isPiece) := goodIn_app (goodIn_of _ (by decide +kernel)) ggX9_splice_X9_isPiece
set_option maxRecDepth 20000 in
theorem ggX9_splice_X9_ofP : GoodIn wsX9_splice wsX9_ofP := goodIn_r _ [13, 6, 24, 25, 26, 27, 28, 29, 30, 31, 32, 33, 34, 35] (by decide +kernel) (by decide +kernel)
set_option maxRecDepth 20000 in
theorem gX9_splice_X9_ofP : GoodIn wsX9_splice (wsV RX9 54 RX9 yX9_ofP wsX9_ofP) := goodIn_app (goodIn_of _ (by decide +kernel)) ggX9_splice_X9_ofP
set_option maxRecDepth 20000 in
theorem ggX9_splice_X9_records : GoodIn wsX9_splice wsX9_records := goodIn_r _ [17, 18, 19, 6, 24, 25, 26, 27, 28, 29, 30, 31, 32, 33, 34, 35] (by decide +kernel) (by decide +kernel)
set_option maxRecDepth 20000 in
theorem gX9_splice_X9_records : GoodIn wsX9_splice (wsV RX9 38 RX9 yX9_records wsX9_records) := goodIn_app (goodIn_of _ (by decide +kernel)) ggX9_splice_X9_records
set_option maxRecDepth 20000 in
theorem ggX9_splice_X9_setsP : GoodIn wsX9_splice wsX9_setsP := goodIn_r _ [23, 6, 24, 25, 26, 27, 28, 29, 30, 31, 32, 33, 34, 35] (by decide +kernel) (by decide +kernel)
set_option maxRecDepth 20000 in
theorem gX9_splice_X9_setsP : GoodIn wsX9_splice (wsV RX9 70 RX9 yX9_setsP wsX9_setsP) := goodIn_app (goodIn_of _ (by decide +kernel)) ggX9_splice_X9_setsP
theorem dX9_splice_0 : decode cX9_splice 0 = .ok (.aload_n 0, 1) := by decide +kernel
theorem dX9_splice_1 : decode cX9_splice 1 = .ok (.iload_n 1, 1) := by decide +kernel
theorem dX9_splice_2 : decode cX9_splice 2 = .ok (.invokevirtual 74, 3) := by decide +kernel
theorem dX9_splice_5 : decode cX9_splice 5 = .ok (.ifCond .ne 5, 3) := by decide +kernel
theorem dX9_splice_8 : decode cX9_splice 8 = .ok (.iconst (-1), 1) := by decide +kernel
theorem dX9_splice_9 : decode cX9_splice 9 = .ok (.ireturn, 1) := by decide +kernel
theorem dX9_splice_10 : decode cX9_splice 10 = .ok (.aload_n 0, 1) := by decide +kernel
theorem dX9_splice_11 : decode cX9_splice 11 = .ok (.iload_n 1, 1) := by decide +kernel
theorem dX9_splice_12 : decode cX9_splice 12 = .ok (.iconst 3, 1) := by decide +kernel
theorem dX9_splice_13 : decode cX9_splice 13 = .ok (.invokevirtual 54, 3) := by decide +kernel
theorem dX9_splice_16 : decode cX9_splice 16 = .ok (.istore_n 2, 1) := by decide +kernel
theorem dX9_splice_17 : decode cX9_splice 17 = .ok (.iload_n 2, 1) := by decide +kernel
theorem dX9_splice_18 : decode cX9_splice 18 = .ok (.ifCond .ne 6, 3) := by decide +kernel
theorem dX9_splice_21 : decode cX9_splice 21 = .ok (.bipush (-5), 2) := by decide +kernel
theorem dX9_splice_23 : decode cX9_splice 23 = .ok (.ireturn, 1) := by decide +kernel
theorem dX9_splice_24 : decode cX9_splice 24 = .ok (.aload_n 0, 1) := by decide +kernel
theorem dX9_splice_25 : decode cX9_splice 25 = .ok (.iconst 0, 1) := by decide +kernel
theorem dX9_splice_26 : decode cX9_splice 26 = .ok (.invokevirtual 38, 3) := by decide +kernel
theorem dX9_splice_29 : decode cX9_splice 29 = .ok (.aload_n 0, 1) := by decide +kernel
theorem dX9_splice_30 : decode cX9_splice 30 = .ok (.iload_n 1, 1) := by decide +kernel
theorem dX9_splice_31 : decode cX9_splice 31 = .ok (.iconst 3, 1) := by decide +kernel
theorem dX9_splice_32 : decode cX9_splice 32 = .ok (.iconst 0, 1) := by decide +kernel
theorem dX9_splice_33 : decode cX9_splice 33 = .ok (.invokevirtual 70, 3) := by decide +kernel
theorem dX9_splice_36 : decode cX9_splice 36 = .ok (.iload_n 2, 1) := by decide +kernel
theorem dX9_splice_37 : decode cX9_splice 37 = .ok (.ireturn, 1) := by decide +kernel
set_option maxRecDepth 20000 in
theorem ggX9_dislike_X9_isIn : GoodIn wsX9_dislike wsX9_isIn := goodIn_r _ [5] (by decide +kernel) (by decide +kernel)
set_option maxRecDepth 20000 in
theorem gX9_dislike_X9_isIn : GoodIn wsX9_dislike (va_wsS RX9 42 yX9_isIn wsX9_isIn) := goodIn_app (goodIn_of _ (by decide +kernel)) ggX9_dislike_X9_isIn
set_option maxRecDepth 20000 in
theorem ggX9_dislike_X9_records : GoodIn wsX9_dislike wsX9_records := goodIn_r _ [9, 10, 11, 1, 15, 16, 17, 18, 19, 20, 21, 22, 23, 24, 25, 26] (by decide +kernel) (by decide +kernel)
set_option maxRecDepth 20000 in
theorem gX9_dislike_X9_records : GoodIn wsX9_dislike (wsV RX9 38 RX9 yX9_records wsX9_records) := goodIn_app (goodIn_of _ (by decide +kernel)) ggX9_dislike_X9_records
set_option maxRecDepth 20000 in
theorem ggX9_dislike_X9_ones : GoodIn wsX9_dislike wsX9_ones := goodIn_r _ [14] (by decide +kernel) (by decide +kernel)
set_option maxRecDepth 20000 in
theorem gX9_dislike_X9_ones : GoodIn wsX9_dislike (va_wsS RX9 67 yX9_ones wsX9_ones) := goodIn_app (goodIn_of _ (by decide +kernel)) ggX9_dislike_X9_ones
theorem dX9_dislike_0 : decode cX9_dislike 0 = .ok (.iload_n 1, 1) := by decide +kernel
theorem dX9_dislike_1 : decode cX9_dislike 1 = .ok (.iconst 0, 1) := by decide +kernel
theorem dX9_dislike_2 : decode cX9_dislike 2 = .ok (.iconst 5, 1) := by decide +kernel
theorem dX9_dislike_3 : decode cX9_dislike 3 = .ok (.invokestatic 42, 3) := by decide +kernel
theorem dX9_dislike_6 : decode cX9_dislike 6 = .ok (.ifCond .ne 6, 3) := by decide +kernel
theorem dX9_dislike_9 : decode cX9_dislike 9 = .ok (.bipush (-2), 2) := by decide +kernel
theorem dX9_dislike_11 : decode cX9_dislike 11 = .ok (.ireturn, 1) := by decide +kernel
theorem dX9_dislike_12 : decode cX9_dislike 12 = .ok (.aload_n 0, 1) := by decide +kernel
theorem dX9_dislike_13 : decode cX9_dislike 13 = .ok (.getfield 7, 3) := by decide +kernel
theorem dX9_dislike_16 : decode cX9_dislike 16 = .ok (.iconst 5, 1) := by decide +kernel
theorem dX9_dislike_17 : decode cX9_dislike 17 = .ok (.iaload, 1) := by decide +kernel
theorem dX9_dislike_18 : decode cX9_dislike 18 = .ok (.iload_n 1, 1) := by decide +kernel
theorem dX9_dislike_19 : decode cX9_dislike 19 = .ok (.ishr, 1) := by decide +kernel
theorem dX9_dislike_20 : decode cX9_dislike 20 = .ok (.iconst 1, 1) := by decide +kernel
theorem dX9_dislike_21 : decode cX9_dislike 21 = .ok (.iand, 1) := by decide +kernel
theorem dX9_dislike_22 : decode cX9_dislike 22 = .ok (.iload_n 2, 1) := by decide +kernel
theorem dX9_dislike_23 : decode cX9_dislike 23 = .ok (.ifCond .eq 7, 3) := by decide +kernel
theorem dX9_dislike_26 : decode cX9_dislike 26 = .ok (.iconst 1, 1) := by decide +kernel
theorem dX9_dislike_27 : decode cX9_dislike 27 = .ok (.goto 4, 3) := by decide +kernel
theorem dX9_dislike_30 : decode cX9_dislike 30 = .ok (.iconst 0, 1) := by decide +kernel
theorem dX9_dislike_31 : decode cX9_dislike 31 = .ok (.if_icmp .ne 6, 3) := by decide +kernel
theorem dX9_dislike_34 : decode cX9_dislike 34 = .ok (.bipush (-5), 2) := by decide +kernel
theorem dX9_dislike_36 : decode cX9_dislike 36 = .ok (.ireturn, 1) := by decide +kernel
theorem dX9_dislike_37 : decode cX9_dislike 37 = .ok (.aload_n 0, 1) := by decide +kernel
theorem dX9_dislike_38 : decode cX9_dislike 38 = .ok (.iconst 0, 1) := by decide +kernel
theorem dX9_dislike_39 : decode cX9_dislike 39 = .ok (.invokevirtual 38, 3) := by decide +kernel
theorem dX9_dislike_42 : decode cX9_dislike 42 = .ok (.aload_n 0, 1) := by decide +kernel
theorem dX9_dislike_43 : decode cX9_dislike 43 = .ok (.getfield 7, 3) := by decide +kernel
theorem dX9_dislike_46 : decode cX9_dislike 46 = .ok (.iconst 5, 1) := by decide +kernel
theorem dX9_dislike_47 : decode cX9_dislike 47 = .ok (.dup2, 1) := by decide +kernel
theorem dX9_dislike_48 : decode cX9_dislike 48 = .ok (.iaload, 1) := by decide +kernel
theorem dX9_dislike_49 : decode cX9_dislike 49 = .ok (.iload_n 2, 1) := by decide +kernel
theorem dX9_dislike_50 : decode cX9_dislike 50 = .ok (.ifCond .eq 9, 3) := by decide +kernel
theorem dX9_dislike_53 : decode cX9_dislike 53 = .ok (.iconst 1, 1) := by decide +kernel
theorem dX9_dislike_54 : decode cX9_dislike 54 = .ok (.iload_n 1, 1) := by decide +kernel
theorem dX9_dislike_55 : decode cX9_dislike 55 = .ok (.ishl, 1) := by decide +kernel
theorem dX9_dislike_56 : decode cX9_dislike 56 = .ok (.goto 7, 3) := by decide +kernel
theorem dX9_dislike_59 : decode cX9_dislike 59 = .ok (.iconst 1, 1) := by decide +kernel
theorem dX9_dislike_60 : decode cX9_dislike 60 = .ok (.iload_n 1, 1) := by decide +kernel
theorem dX9_dislike_61 : decode cX9_dislike 61 = .ok (.ishl, 1) := by decide +kernel
theorem dX9_dislike_62 : decode cX9_dislike 62 = .ok (.ineg, 1) := by decide +kernel
theorem dX9_dislike_63 : decode cX9_dislike 63 = .ok (.iadd, 1) := by decide +kernel
theorem dX9_dislike_64 : decode cX9_dislike 64 = .ok (.iastore, 1) := by decide +kernel
theorem dX9_dislike_65 : decode cX9_dislike 65 = .ok (.aload_n 0, 1) := by decide +kernel
theorem dX9_dislike_66 : decode cX9_dislike 66 = .ok (.getfield 7, 3) := by decide +kernel
theorem dX9_dislike_69 : decode cX9_dislike 69 = .ok (.iconst 5, 1) := by decide +kernel
theorem dX9_dislike_70 : decode cX9_dislike 70 = .ok (.iaload, 1) := by decide +kernel
theorem dX9_dislike_71 : decode cX9_dislike 71 = .ok (.invokestatic 67, 3) := by decide +kernel
theorem dX9_dislike_74 : decode cX9_dislike 74 = .ok (.ireturn, 1) := by decide +kernel
set_option maxRecDepth 20000 in
theorem ggX9_set_X9_isIn : GoodIn wsX9_set wsX9_isIn := goodIn_r _ [5] (by decide +kernel) (by decide +kernel)
set_option maxRecDepth 20000 in
theorem gX9_set_X9_isIn : GoodIn wsX9_set (va_wsS RX9 42 yX9_isIn wsX9_isIn) := goodIn_app (goodIn_of _ (by decide +kernel)) ggX9_set_X9_isIn
set_option maxRecDepth 20000 in
theorem ggX9_set_X9_records : GoodIn wsX9_set wsX9_records := goodIn_r _ [9, 10, 11, 1, 12, 13, 14, 15, 16, 17, 18, 19, 20, 21, 22, 23] (by decide +kernel) (by decide +kernel)
set_option maxRecDepth 20000 in
theorem gX9_set_X9_records : GoodIn wsX9_set (wsV RX9 38 RX9 yX9_records wsX9_records) := goodIn_app (goodIn_of _ (by decide +kernel)) ggX9_set_X9_records
theorem dX9_set_0 : decode cX9_set 0 = .ok (.iload_n 1, 1) := by decide +kernel
theorem dX9_set_1 : decode cX9_set 1 = .ok (.iconst 0, 1) := by decide +kernel
theorem dX9_set_2 : decode cX9_set 2 = .ok (.iconst 1, 1) := by decide +kernel
theorem dX9_set_3 : decode cX9_set 3 = .ok (.invokestatic 42, 3) := by decide +kernel
theorem dX9_set_6 : decode cX9_set 6 = .ok (.ifCond .eq 13, 3) := by decide +kernel
theorem dX9_set_9 : decode cX9_set 9 = .ok (.iload_n 2, 1) := by decide +kernel
theorem dX9_set_10 : decode cX9_set 10 = .ok (.iload_n 1, 1) := by decide +kernel
theorem dX9_set_11 : decode cX9_set 11 = .ok (.bipush 20, 2) := by decide +kernel
theorem dX9_set_13 : decode cX9_set 13 = .ok (.invokestatic 42, 3) := by decide +kernel
theorem dX9_set_16 : decode cX9_set 16 = .ok (.ifCond .ne 6, 3) := by decide +kernel
theorem dX9_set_19 : decode cX9_set 19 = .ok (.bipush (-2), 2) := by decide +kernel
theorem dX9_set_21 : decode cX9_set 21 = .ok (.ireturn, 1) := by decide +kernel
theorem dX9_set_22 : decode cX9_set 22 = .ok (.aload_n 0, 1) := by decide +kernel
theorem dX9_set_23 : decode cX9_set 23 = .ok (.getfield 7, 3) := by decide +kernel
theorem dX9_set_26 : decode cX9_set 26 = .ok (.bipush 6, 2) := by decide +kernel
theorem dX9_set_28 : decode cX9_set 28 = .ok (.iload_n 1, 1) := by decide +kernel
theorem dX9_set_29 : decode cX9_set 29 = .ok (.iadd, 1) := by decide +kernel
theorem dX9_set_30 : decode cX9_set 30 = .ok (.iaload, 1) := by decide +kernel
theorem dX9_set_31 : decode cX9_set 31 = .ok (.istore_n 3, 1) := by decide +kernel
theorem dX9_set_32 : decode cX9_set 32 = .ok (.iload_n 3, 1) := by decide +kernel
theorem dX9_set_33 : decode cX9_set 33 = .ok (.iload_n 2, 1) := by decide +kernel
theorem dX9_set_34 : decode cX9_set 34 = .ok (.if_icmp .ne 6, 3) := by decide +kernel
theorem dX9_set_37 : decode cX9_set 37 = .ok (.bipush (-5), 2) := by decide +kernel
theorem dX9_set_39 : decode cX9_set 39 = .ok (.ireturn, 1) := by decide +kernel
theorem dX9_set_40 : decode cX9_set 40 = .ok (.aload_n 0, 1) := by decide +kernel
theorem dX9_set_41 : decode cX9_set 41 = .ok (.iconst 0, 1) := by decide +kernel
theorem dX9_set_42 : decode cX9_set 42 = .ok (.invokevirtual 38, 3) := by decide +kernel
theorem dX9_set_45 : decode cX9_set 45 = .ok (.aload_n 0, 1) := by decide +kernel
theorem dX9_set_46 : decode cX9_set 46 = .ok (.getfield 7, 3) := by decide +kernel
theorem dX9_set_49 : decode cX9_set 49 = .ok (.bipush 6, 2) := by decide +kernel
theorem dX9_set_51 : decode cX9_set 51 = .ok (.iload_n 1, 1) := by decide +kernel
theorem dX9_set_52 : decode cX9_set 52 = .ok (.iadd, 1) := by decide +kernel
theorem dX9_set_53 : decode cX9_set 53 = .ok (.iload_n 2, 1) := by decide +kernel
theorem dX9_set_54 : decode cX9_set 54 = .ok (.iastore, 1) := by decide +kernel
theorem dX9_set_55 : decode cX9_set 55 = .ok (.iload_n 3, 1) := by decide +kernel
theorem dX9_set_56 : decode cX9_set 56 = .ok (.ireturn, 1) := by decide +kernel
set_option maxRecDepth 20000 in
theorem ggX9_counts_X9_good : GoodIn wsX9_counts wsX9_good := goodIn_r _ [7, 8, 9, 10, 6, 11, 2, 12, 13, 14, 23, 24, 25, 26, 27, 28, 29, 30, 31, 32, 33, 34] (by decide +kernel) (by decide +kernel)
set_option maxRecDepth 20000 in
theorem gX9_counts_X9_good : GoodIn wsX9_counts (wsV RX9 131 RX9 yX9_good wsX9_good) := goodIn_app (goodIn_of _ (by decide +kernel)) ggX9_counts_X9_good
set_option maxRecDepth 20000 in
theorem ggX9_counts_X9_torn : GoodIn wsX9_counts wsX9_torn := goodIn_r _ [11, 2, 23, 24, 25, 26, 27, 28, 29, 30, 31, 32, 33, 34] (by decide +kernel) (by decide +kernel)
set_option maxRecDepth 20000 in
theorem gX9_counts_X9_torn : GoodIn wsX9_counts (wsV RX9 64 RX9 yX9_torn wsX9_torn) := goodIn_app (goodIn_of _ (by decide +kernel)) ggX9_counts_X9_torn
set_option maxRecDepth 20000 in
theorem ggX9_counts_X9_passes : GoodIn wsX9_counts wsX9_passes := goodIn_r _ [18, 2, 23, 24, 25, 26, 27, 28, 29, 30, 31, 32, 33, 34] (by decide +kernel) (by decide +kernel)
set_option maxRecDepth 20000 in
theorem gX9_counts_X9_passes : GoodIn wsX9_counts (wsV RX9 134 RX9 yX9_passes wsX9_passes) := goodIn_app (goodIn_of _ (by decide +kernel)) ggX9_counts_X9_passes
set_option maxRecDepth 20000 in
theorem ggX9_counts_X9_setsTorn : GoodIn wsX9_counts wsX9_setsTorn := goodIn_r _ [22, 2, 23, 24, 25, 26, 27, 28, 29, 30, 31, 32, 33, 34] (by decide +kernel) (by decide +kernel)
set_option maxRecDepth 20000 in
theorem gX9_counts_X9_setsTorn : GoodIn wsX9_counts (wsV RX9 128 RX9 yX9_setsTorn wsX9_setsTorn) := goodIn_app (goodIn_of _ (by decide +kernel)) ggX9_counts_X9_setsTorn
theorem dX9_counts_0 : decode cX9_counts 0 = .ok (.aload_n 0, 1) := by decide +kernel
theorem dX9_counts_1 : decode cX9_counts 1 = .ok (.iload_n 1, 1) := by decide +kernel
theorem dX9_counts_2 : decode cX9_counts 2 = .ok (.iload_n 2, 1) := by decide +kernel
theorem dX9_counts_3 : decode cX9_counts 3 = .ok (.invokevirtual 131, 3) := by decide +kernel
theorem dX9_counts_6 : decode cX9_counts 6 = .ok (.istore 4, 2) := by decide +kernel
theorem dX9_counts_8 : decode cX9_counts 8 = .ok (.iload_n 3, 1) := by decide +kernel
theorem dX9_counts_9 : decode cX9_counts 9 = .ok (.ifCond .eq 10, 3) := by decide +kernel
theorem dX9_counts_12 : decode cX9_counts 12 = .ok (.iload 4, 2) := by decide +kernel
theorem dX9_counts_14 : decode cX9_counts 14 = .ok (.iconst 2, 1) := by decide +kernel
theorem dX9_counts_15 : decode cX9_counts 15 = .ok (.idiv, 1) := by decide +kernel
theorem dX9_counts_16 : decode cX9_counts 16 = .ok (.goto 5, 3) := by decide +kernel
theorem dX9_counts_19 : decode cX9_counts 19 = .ok (.iload 4, 2) := by decide +kernel
theorem dX9_counts_21 : decode cX9_counts 21 = .ok (.istore 5, 2) := by decide +kernel
theorem dX9_counts_23 : decode cX9_counts 23 = .ok (.aload_n 0, 1) := by decide +kernel
theorem dX9_counts_24 : decode cX9_counts 24 = .ok (.getfield 17, 3) := by decide +kernel
theorem dX9_counts_27 : decode cX9_counts 27 = .ok (.iconst 4, 1) := by decide +kernel
theorem dX9_counts_28 : decode cX9_counts 28 = .ok (.dup2, 1) := by decide +kernel
theorem dX9_counts_29 : decode cX9_counts 29 = .ok (.iaload, 1) := by decide +kernel
theorem dX9_counts_30 : decode cX9_counts 30 = .ok (.iload 5, 2) := by decide +kernel
theorem dX9_counts_32 : decode cX9_counts 32 = .ok (.iadd, 1) := by decide +kernel
theorem dX9_counts_33 : decode cX9_counts 33 = .ok (.iastore, 1) := by decide +kernel
theorem dX9_counts_34 : decode cX9_counts 34 = .ok (.aload_n 0, 1) := by decide +kernel
theorem dX9_counts_35 : decode cX9_counts 35 = .ok (.getfield 17, 3) := by decide +kernel
theorem dX9_counts_38 : decode cX9_counts 38 = .ok (.iconst 5, 1) := by decide +kernel
theorem dX9_counts_39 : decode cX9_counts 39 = .ok (.dup2, 1) := by decide +kernel
theorem dX9_counts_40 : decode cX9_counts 40 = .ok (.iaload, 1) := by decide +kernel
theorem dX9_counts_41 : decode cX9_counts 41 = .ok (.iload 4, 2) := by decide +kernel
theorem dX9_counts_43 : decode cX9_counts 43 = .ok (.iload 5, 2) := by decide +kernel
theorem dX9_counts_45 : decode cX9_counts 45 = .ok (.isub, 1) := by decide +kernel
theorem dX9_counts_46 : decode cX9_counts 46 = .ok (.iadd, 1) := by decide +kernel
theorem dX9_counts_47 : decode cX9_counts 47 = .ok (.iastore, 1) := by decide +kernel
theorem dX9_counts_48 : decode cX9_counts 48 = .ok (.iload_n 3, 1) := by decide +kernel
theorem dX9_counts_49 : decode cX9_counts 49 = .ok (.ifCond .eq 16, 3) := by decide +kernel
theorem dX9_counts_52 : decode cX9_counts 52 = .ok (.aload_n 0, 1) := by decide +kernel
theorem dX9_counts_53 : decode cX9_counts 53 = .ok (.getfield 17, 3) := by decide +kernel
theorem dX9_counts_56 : decode cX9_counts 56 = .ok (.iconst 3, 1) := by decide +kernel
theorem dX9_counts_57 : decode cX9_counts 57 = .ok (.dup2, 1) := by decide +kernel
theorem dX9_counts_58 : decode cX9_counts 58 = .ok (.iaload, 1) := by decide +kernel
theorem dX9_counts_59 : decode cX9_counts 59 = .ok (.iconst 1, 1) := by decide +kernel
theorem dX9_counts_60 : decode cX9_counts 60 = .ok (.iadd, 1) := by decide +kernel
theorem dX9_counts_61 : decode cX9_counts 61 = .ok (.iastore, 1) := by decide +kernel
theorem dX9_counts_62 : decode cX9_counts 62 = .ok (.goto 94, 3) := by decide +kernel
theorem dX9_counts_65 : decode cX9_counts 65 = .ok (.iload 4, 2) := by decide +kernel
theorem dX9_counts_67 : decode cX9_counts 67 = .ok (.iconst 2, 1) := by decide +kernel
theorem dX9_counts_68 : decode cX9_counts 68 = .ok (.if_icmp .lt 7, 3) := by decide +kernel
theorem dX9_counts_71 : decode cX9_counts 71 = .ok (.iconst 1, 1) := by decide +kernel
theorem dX9_counts_72 : decode cX9_counts 72 = .ok (.goto 4, 3) := by decide +kernel
theorem dX9_counts_75 : decode cX9_counts 75 = .ok (.iconst 0, 1) := by decide +kernel
theorem dX9_counts_76 : decode cX9_counts 76 = .ok (.istore 6, 2) := by decide +kernel
theorem dX9_counts_78 : decode cX9_counts 78 = .ok (.aload_n 0, 1) := by decide +kernel
theorem dX9_counts_79 : decode cX9_counts 79 = .ok (.getfield 17, 3) := by decide +kernel
theorem dX9_counts_82 : decode cX9_counts 82 = .ok (.bipush 8, 2) := by decide +kernel
theorem dX9_counts_84 : decode cX9_counts 84 = .ok (.aload_n 0, 1) := by decide +kernel
theorem dX9_counts_85 : decode cX9_counts 85 = .ok (.getfield 17, 3) := by decide +kernel
theorem dX9_counts_88 : decode cX9_counts 88 = .ok (.iconst 0, 1) := by decide +kernel
theorem dX9_counts_89 : decode cX9_counts 89 = .ok (.iaload, 1) := by decide +kernel
theorem dX9_counts_90 : decode cX9_counts 90 = .ok (.iadd, 1) := by decide +kernel
theorem dX9_counts_91 : decode cX9_counts 91 = .ok (.iload 6, 2) := by decide +kernel
theorem dX9_counts_93 : decode cX9_counts 93 = .ok (.ifCond .eq 12, 3) := by decide +kernel
theorem dX9_counts_96 : decode cX9_counts 96 = .ok (.bipush 100, 2) := by decide +kernel
theorem dX9_counts_98 : decode cX9_counts 98 = .ok (.iload_n 1, 1) := by decide +kernel
theorem dX9_counts_99 : decode cX9_counts 99 = .ok (.imul, 1) := by decide +kernel
theorem dX9_counts_100 : decode cX9_counts 100 = .ok (.iload_n 2, 1) := by decide +kernel
theorem dX9_counts_101 : decode cX9_counts 101 = .ok (.iadd, 1) := by decide +kernel
theorem dX9_counts_102 : decode cX9_counts 102 = .ok (.goto 5, 3) := by decide +kernel
theorem dX9_counts_105 : decode cX9_counts 105 = .ok (.bipush (-5), 2) := by decide +kernel
theorem dX9_counts_107 : decode cX9_counts 107 = .ok (.iastore, 1) := by decide +kernel
theorem dX9_counts_108 : decode cX9_counts 108 = .ok (.aload_n 0, 1) := by decide +kernel
theorem dX9_counts_109 : decode cX9_counts 109 = .ok (.getfield 17, 3) := by decide +kernel
theorem dX9_counts_112 : decode cX9_counts 112 = .ok (.iconst 0, 1) := by decide +kernel
theorem dX9_counts_113 : decode cX9_counts 113 = .ok (.dup2, 1) := by decide +kernel
theorem dX9_counts_114 : decode cX9_counts 114 = .ok (.iaload, 1) := by decide +kernel
theorem dX9_counts_115 : decode cX9_counts 115 = .ok (.iconst 1, 1) := by decide +kernel
theorem dX9_counts_116 : decode cX9_counts 116 = .ok (.iadd, 1) := by decide +kernel
theorem dX9_counts_117 : decode cX9_counts 117 = .ok (.iastore, 1) := by decide +kernel
theorem dX9_counts_118 : decode cX9_counts 118 = .ok (.aload_n 0, 1) := by decide +kernel
theorem dX9_counts_119 : decode cX9_counts 119 = .ok (.getfield 17, 3) := by decide +kernel
theorem dX9_counts_122 : decode cX9_counts 122 = .ok (.iconst 1, 1) := by decide +kernel
theorem dX9_counts_123 : decode cX9_counts 123 = .ok (.dup2, 1) := by decide +kernel
theorem dX9_counts_124 : decode cX9_counts 124 = .ok (.iaload, 1) := by decide +kernel
theorem dX9_counts_125 : decode cX9_counts 125 = .ok (.iload 6, 2) := by decide +kernel
theorem dX9_counts_127 : decode cX9_counts 127 = .ok (.ifCond .eq 7, 3) := by decide +kernel
theorem dX9_counts_130 : decode cX9_counts 130 = .ok (.iconst 1, 1) := by decide +kernel
theorem dX9_counts_131 : decode cX9_counts 131 = .ok (.goto 4, 3) := by decide +kernel
theorem dX9_counts_134 : decode cX9_counts 134 = .ok (.iconst 0, 1) := by decide +kernel
theorem dX9_counts_135 : decode cX9_counts 135 = .ok (.iadd, 1) := by decide +kernel
theorem dX9_counts_136 : decode cX9_counts 136 = .ok (.iastore, 1) := by decide +kernel
theorem dX9_counts_137 : decode cX9_counts 137 = .ok (.aload_n 0, 1) := by decide +kernel
theorem dX9_counts_138 : decode cX9_counts 138 = .ok (.getfield 17, 3) := by decide +kernel
theorem dX9_counts_141 : decode cX9_counts 141 = .ok (.iconst 2, 1) := by decide +kernel
theorem dX9_counts_142 : decode cX9_counts 142 = .ok (.dup2, 1) := by decide +kernel
theorem dX9_counts_143 : decode cX9_counts 143 = .ok (.iaload, 1) := by decide +kernel
theorem dX9_counts_144 : decode cX9_counts 144 = .ok (.iload 6, 2) := by decide +kernel
theorem dX9_counts_146 : decode cX9_counts 146 = .ok (.ifCond .eq 7, 3) := by decide +kernel
theorem dX9_counts_149 : decode cX9_counts 149 = .ok (.iconst 0, 1) := by decide +kernel
theorem dX9_counts_150 : decode cX9_counts 150 = .ok (.goto 4, 3) := by decide +kernel
theorem dX9_counts_153 : decode cX9_counts 153 = .ok (.iconst 1, 1) := by decide +kernel
theorem dX9_counts_154 : decode cX9_counts 154 = .ok (.iadd, 1) := by decide +kernel
theorem dX9_counts_155 : decode cX9_counts 155 = .ok (.iastore, 1) := by decide +kernel
theorem dX9_counts_156 : decode cX9_counts 156 = .ok (.aload_n 0, 1) := by decide +kernel
theorem dX9_counts_157 : decode cX9_counts 157 = .ok (.getfield 7, 3) := by decide +kernel
theorem dX9_counts_160 : decode cX9_counts 160 = .ok (.bipush 32, 2) := by decide +kernel
theorem dX9_counts_162 : decode cX9_counts 162 = .ok (.iconst 2, 1) := by decide +kernel
theorem dX9_counts_163 : decode cX9_counts 163 = .ok (.bipush 40, 2) := by decide +kernel
theorem dX9_counts_165 : decode cX9_counts 165 = .ok (.iload_n 1, 1) := by decide +kernel
theorem dX9_counts_166 : decode cX9_counts 166 = .ok (.imul, 1) := by decide +kernel
theorem dX9_counts_167 : decode cX9_counts 167 = .ok (.iload_n 2, 1) := by decide +kernel
theorem dX9_counts_168 : decode cX9_counts 168 = .ok (.iadd, 1) := by decide +kernel
theorem dX9_counts_169 : decode cX9_counts 169 = .ok (.imul, 1) := by decide +kernel
theorem dX9_counts_170 : decode cX9_counts 170 = .ok (.iadd, 1) := by decide +kernel
theorem dX9_counts_171 : decode cX9_counts 171 = .ok (.iconst 1, 1) := by decide +kernel
theorem dX9_counts_172 : decode cX9_counts 172 = .ok (.iadd, 1) := by decide +kernel
theorem dX9_counts_173 : decode cX9_counts 173 = .ok (.dup2, 1) := by decide +kernel
theorem dX9_counts_174 : decode cX9_counts 174 = .ok (.iaload, 1) := by decide +kernel
theorem dX9_counts_175 : decode cX9_counts 175 = .ok (.iconst 1, 1) := by decide +kernel
theorem dX9_counts_176 : decode cX9_counts 176 = .ok (.iadd, 1) := by decide +kernel
theorem dX9_counts_177 : decode cX9_counts 177 = .ok (.iastore, 1) := by decide +kernel
theorem dX9_counts_178 : decode cX9_counts 178 = .ok (.aload_n 0, 1) := by decide +kernel
theorem dX9_counts_179 : decode cX9_counts 179 = .ok (.iload_n 1, 1) := by decide +kernel
theorem dX9_counts_180 : decode cX9_counts 180 = .ok (.iload_n 2, 1) := by decide +kernel
theorem dX9_counts_181 : decode cX9_counts 181 = .ok (.invokevirtual 64, 3) := by decide +kernel
theorem dX9_counts_184 : decode cX9_counts 184 = .ok (.istore 6, 2) := by decide +kernel
theorem dX9_counts_186 : decode cX9_counts 186 = .ok (.iload 4, 2) := by decide +kernel
theorem dX9_counts_188 : decode cX9_counts 188 = .ok (.iconst 4, 1) := by decide +kernel
theorem dX9_counts_189 : decode cX9_counts 189 = .ok (.if_icmp .ge 52, 3) := by decide +kernel
theorem dX9_counts_192 : decode cX9_counts 192 = .ok (.iload 4, 2) := by decide +kernel
theorem dX9_counts_194 : decode cX9_counts 194 = .ok (.ifCond .le 47, 3) := by decide +kernel
theorem dX9_counts_197 : decode cX9_counts 197 = .ok (.aload_n 0, 1) := by decide +kernel
theorem dX9_counts_198 : decode cX9_counts 198 = .ok (.iload_n 1, 1) := by decide +kernel
theorem dX9_counts_199 : decode cX9_counts 199 = .ok (.iload_n 2, 1) := by decide +kernel
theorem dX9_counts_200 : decode cX9_counts 200 = .ok (.invokevirtual 134, 3) := by decide +kernel
theorem dX9_counts_203 : decode cX9_counts 203 = .ok (.iconst 3, 1) := by decide +kernel
theorem dX9_counts_204 : decode cX9_counts 204 = .ok (.irem, 1) := by decide +kernel
theorem dX9_counts_205 : decode cX9_counts 205 = .ok (.ifCond .ne 36, 3) := by decide +kernel
theorem dX9_counts_208 : decode cX9_counts 208 = .ok (.iconst 0, 1) := by decide +kernel
theorem dX9_counts_209 : decode cX9_counts 209 = .ok (.istore 7, 2) := by decide +kernel
theorem dX9_counts_211 : decode cX9_counts 211 = .ok (.iload 6, 2) := by decide +kernel
theorem dX9_counts_213 : decode cX9_counts 213 = .ok (.iload 7, 2) := by decide +kernel
theorem dX9_counts_215 : decode cX9_counts 215 = .ok (.ishr, 1) := by decide +kernel
theorem dX9_counts_216 : decode cX9_counts 216 = .ok (.iconst 1, 1) := by decide +kernel
theorem dX9_counts_217 : decode cX9_counts 217 = .ok (.iand, 1) := by decide +kernel
theorem dX9_counts_218 : decode cX9_counts 218 = .ok (.iconst 1, 1) := by decide +kernel
theorem dX9_counts_219 : decode cX9_counts 219 = .ok (.if_icmp .ne 9, 3) := by decide +kernel
theorem dX9_counts_222 : decode cX9_counts 222 = .ok (.iinc 7 1, 3) := by decide +kernel
theorem dX9_counts_225 : decode cX9_counts 225 = .ok (.goto (-14), 3) := by decide +kernel
theorem dX9_counts_228 : decode cX9_counts 228 = .ok (.aload_n 0, 1) := by decide +kernel
theorem dX9_counts_229 : decode cX9_counts 229 = .ok (.iload_n 1, 1) := by decide +kernel
theorem dX9_counts_230 : decode cX9_counts 230 = .ok (.iload_n 2, 1) := by decide +kernel
theorem dX9_counts_231 : decode cX9_counts 231 = .ok (.iload 6, 2) := by decide +kernel
theorem dX9_counts_233 : decode cX9_counts 233 = .ok (.iconst 1, 1) := by decide +kernel
theorem dX9_counts_234 : decode cX9_counts 234 = .ok (.iload 7, 2) := by decide +kernel
theorem dX9_counts_236 : decode cX9_counts 236 = .ok (.ishl, 1) := by decide +kernel
theorem dX9_counts_237 : decode cX9_counts 237 = .ok (.ior, 1) := by decide +kernel
theorem dX9_counts_238 : decode cX9_counts 238 = .ok (.invokevirtual 128, 3) := by decide +kernel
theorem dX9_counts_241 : decode cX9_counts 241 = .ok (.return_, 1) := by decide +kernel
set_option maxRecDepth 20000 in
theorem ggX9_goesThrough_X9_ofP : GoodIn wsX9_goesThrough wsX9_ofP := goodIn_r _ [6, 7, 35, 36, 37, 38, 39, 40, 41, 42, 43, 44, 45, 46] (by decide +kernel) (by decide +kernel)
set_option maxRecDepth 20000 in
theorem gX9_goesThrough_X9_ofP : GoodIn wsX9_goesThrough (wsV RX9 54 RX9 yX9_ofP wsX9_ofP) := goodIn_app (goodIn_of _ (by decide +kernel)) ggX9_goesThrough_X9_ofP
set_option maxRecDepth 20000 in
theorem ggX9_goesThrough_X9_counts : GoodIn wsX9_goesThrough wsX9_counts := goodIn_r _ [11, 1, 7, 12, 13, 14, 5, 15, 16, 17, 18, 19, 20, 21, 22, 23, 24, 25, 26, 27, 28, 29, 30, 35, 36, 37, 38, 39, 40, 41, 42, 43, 44, 45, 46] (by decide +kernel) (by decide +kernel)
set_option maxRecDepth 20000 in
theorem gX9_goesThrough_X9_counts : GoodIn wsX9_goesThrough (wsV RX9 137 RX9 yX9_counts wsX9_counts) := goodIn_app (goodIn_of _ (by decide +kernel)) ggX9_goesThrough_X9_counts
set_option maxRecDepth 20000 in
theorem ggX9_goesThrough_X9_framesIn : GoodIn wsX9_goesThrough wsX9_framesIn := goodIn_r _ [34, 2, 3, 4, 5, 6, 7, 35, 36, 37, 38, 39, 40, 41, 42, 43, 44, 45, 46] (by decide +kernel) (by decide +kernel)
set_option maxRecDepth 20000 in
theorem gX9_goesThrough_X9_framesIn : GoodIn wsX9_goesThrough (wsV RX9 58 RX9 yX9_framesIn wsX9_framesIn) := goodIn_app (goodIn_of _ (by decide +kernel)) ggX9_goesThrough_X9_framesIn
theorem dX9_goesThrough_0 : decode cX9_goesThrough 0 = .ok (.aload_n 0, 1) := by decide +kernel
theorem dX9_goesThrough_1 : decode cX9_goesThrough 1 = .ok (.iload_n 1, 1) := by decide +kernel
theorem dX9_goesThrough_2 : decode cX9_goesThrough 2 = .ok (.iconst 1, 1) := by decide +kernel
theorem dX9_goesThrough_3 : decode cX9_goesThrough 3 = .ok (.invokevirtual 54, 3) := by decide +kernel
theorem dX9_goesThrough_6 : decode cX9_goesThrough 6 = .ok (.istore_n 3, 1) := by decide +kernel
theorem dX9_goesThrough_7 : decode cX9_goesThrough 7 = .ok (.iload_n 3, 1) := by decide +kernel
theorem dX9_goesThrough_8 : decode cX9_goesThrough 8 = .ok (.aload_n 0, 1) := by decide +kernel
theorem dX9_goesThrough_9 : decode cX9_goesThrough 9 = .ok (.iload_n 1, 1) := by decide +kernel
theorem dX9_goesThrough_10 : decode cX9_goesThrough 10 = .ok (.iconst 2, 1) := by decide +kernel
theorem dX9_goesThrough_11 : decode cX9_goesThrough 11 = .ok (.invokevirtual 54, 3) := by decide +kernel
theorem dX9_goesThrough_14 : decode cX9_goesThrough 14 = .ok (.if_icmp .gt 21, 3) := by decide +kernel
theorem dX9_goesThrough_17 : decode cX9_goesThrough 17 = .ok (.aload_n 0, 1) := by decide +kernel
theorem dX9_goesThrough_18 : decode cX9_goesThrough 18 = .ok (.aload_n 0, 1) := by decide +kernel
theorem dX9_goesThrough_19 : decode cX9_goesThrough 19 = .ok (.iload_n 1, 1) := by decide +kernel
theorem dX9_goesThrough_20 : decode cX9_goesThrough 20 = .ok (.iconst 0, 1) := by decide +kernel
theorem dX9_goesThrough_21 : decode cX9_goesThrough 21 = .ok (.invokevirtual 54, 3) := by decide +kernel
theorem dX9_goesThrough_24 : decode cX9_goesThrough 24 = .ok (.iload_n 3, 1) := by decide +kernel
theorem dX9_goesThrough_25 : decode cX9_goesThrough 25 = .ok (.iload_n 2, 1) := by decide +kernel
theorem dX9_goesThrough_26 : decode cX9_goesThrough 26 = .ok (.invokevirtual 137, 3) := by decide +kernel
theorem dX9_goesThrough_29 : decode cX9_goesThrough 29 = .ok (.iinc 3 1, 3) := by decide +kernel
theorem dX9_goesThrough_32 : decode cX9_goesThrough 32 = .ok (.goto (-25), 3) := by decide +kernel
theorem dX9_goesThrough_35 : decode cX9_goesThrough 35 = .ok (.iload_n 2, 1) := by decide +kernel
theorem dX9_goesThrough_36 : decode cX9_goesThrough 36 = .ok (.ifCond .eq 60, 3) := by decide +kernel
theorem dX9_goesThrough_39 : decode cX9_goesThrough 39 = .ok (.aload_n 0, 1) := by decide +kernel
theorem dX9_goesThrough_40 : decode cX9_goesThrough 40 = .ok (.getfield 17, 3) := by decide +kernel
theorem dX9_goesThrough_43 : decode cX9_goesThrough 43 = .ok (.bipush 7, 2) := by decide +kernel
theorem dX9_goesThrough_45 : decode cX9_goesThrough 45 = .ok (.dup2, 1) := by decide +kernel
theorem dX9_goesThrough_46 : decode cX9_goesThrough 46 = .ok (.iaload, 1) := by decide +kernel
theorem dX9_goesThrough_47 : decode cX9_goesThrough 47 = .ok (.iconst 1, 1) := by decide +kernel
theorem dX9_goesThrough_48 : decode cX9_goesThrough 48 = .ok (.iadd, 1) := by decide +kernel
theorem dX9_goesThrough_49 : decode cX9_goesThrough 49 = .ok (.iastore, 1) := by decide +kernel
theorem dX9_goesThrough_50 : decode cX9_goesThrough 50 = .ok (.aload_n 0, 1) := by decide +kernel
theorem dX9_goesThrough_51 : decode cX9_goesThrough 51 = .ok (.iload_n 1, 1) := by decide +kernel
theorem dX9_goesThrough_52 : decode cX9_goesThrough 52 = .ok (.invokevirtual 58, 3) := by decide +kernel
theorem dX9_goesThrough_55 : decode cX9_goesThrough 55 = .ok (.iconst 3, 1) := by decide +kernel
theorem dX9_goesThrough_56 : decode cX9_goesThrough 56 = .ok (.iadd, 1) := by decide +kernel
theorem dX9_goesThrough_57 : decode cX9_goesThrough 57 = .ok (.iconst 4, 1) := by decide +kernel
theorem dX9_goesThrough_58 : decode cX9_goesThrough 58 = .ok (.idiv, 1) := by decide +kernel
theorem dX9_goesThrough_59 : decode cX9_goesThrough 59 = .ok (.istore_n 3, 1) := by decide +kernel
theorem dX9_goesThrough_60 : decode cX9_goesThrough 60 = .ok (.iload_n 3, 1) := by decide +kernel
theorem dX9_goesThrough_61 : decode cX9_goesThrough 61 = .ok (.ifCond .le 35, 3) := by decide +kernel
theorem dX9_goesThrough_64 : decode cX9_goesThrough 64 = .ok (.aload_n 0, 1) := by decide +kernel
theorem dX9_goesThrough_65 : decode cX9_goesThrough 65 = .ok (.getfield 17, 3) := by decide +kernel
theorem dX9_goesThrough_68 : decode cX9_goesThrough 68 = .ok (.bipush 8, 2) := by decide +kernel
theorem dX9_goesThrough_70 : decode cX9_goesThrough 70 = .ok (.aload_n 0, 1) := by decide +kernel
theorem dX9_goesThrough_71 : decode cX9_goesThrough 71 = .ok (.getfield 17, 3) := by decide +kernel
theorem dX9_goesThrough_74 : decode cX9_goesThrough 74 = .ok (.iconst 0, 1) := by decide +kernel
theorem dX9_goesThrough_75 : decode cX9_goesThrough 75 = .ok (.iaload, 1) := by decide +kernel
theorem dX9_goesThrough_76 : decode cX9_goesThrough 76 = .ok (.iadd, 1) := by decide +kernel
theorem dX9_goesThrough_77 : decode cX9_goesThrough 77 = .ok (.bipush (-5), 2) := by decide +kernel
theorem dX9_goesThrough_79 : decode cX9_goesThrough 79 = .ok (.iastore, 1) := by decide +kernel
theorem dX9_goesThrough_80 : decode cX9_goesThrough 80 = .ok (.aload_n 0, 1) := by decide +kernel
theorem dX9_goesThrough_81 : decode cX9_goesThrough 81 = .ok (.getfield 17, 3) := by decide +kernel
theorem dX9_goesThrough_84 : decode cX9_goesThrough 84 = .ok (.iconst 0, 1) := by decide +kernel
theorem dX9_goesThrough_85 : decode cX9_goesThrough 85 = .ok (.dup2, 1) := by decide +kernel
theorem dX9_goesThrough_86 : decode cX9_goesThrough 86 = .ok (.iaload, 1) := by decide +kernel
theorem dX9_goesThrough_87 : decode cX9_goesThrough 87 = .ok (.iconst 1, 1) := by decide +kernel
theorem dX9_goesThrough_88 : decode cX9_goesThrough 88 = .ok (.iadd, 1) := by decide +kernel
theorem dX9_goesThrough_89 : decode cX9_goesThrough 89 = .ok (.iastore, 1) := by decide +kernel
theorem dX9_goesThrough_90 : decode cX9_goesThrough 90 = .ok (.iinc 3 (-1), 3) := by decide +kernel
theorem dX9_goesThrough_93 : decode cX9_goesThrough 93 = .ok (.goto (-33), 3) := by decide +kernel
theorem dX9_goesThrough_96 : decode cX9_goesThrough 96 = .ok (.return_, 1) := by decide +kernel
set_option maxRecDepth 20000 in
theorem ggX9_shows_X9_ofP : GoodIn wsX9_shows wsX9_ofP := goodIn_r _ [7, 2, 43, 44, 45, 46, 47, 48, 49, 50, 51, 52, 53, 54] (by decide +kernel) (by decide +kernel)
set_option maxRecDepth 20000 in
theorem gX9_shows_X9_ofP : GoodIn wsX9_shows (wsV RX9 54 RX9 yX9_ofP wsX9_ofP) := goodIn_app (goodIn_of _ (by decide +kernel)) ggX9_shows_X9_ofP
set_option maxRecDepth 20000 in
theorem ggX9_shows_X9_setsP : GoodIn wsX9_shows wsX9_setsP := goodIn_r _ [11, 2, 43, 44, 45, 46, 47, 48, 49, 50, 51, 52, 53, 54] (by decide +kernel) (by decide +kernel)
set_option maxRecDepth 20000 in
theorem gX9_shows_X9_setsP : GoodIn wsX9_shows (wsV RX9 70 RX9 yX9_setsP wsX9_setsP) := goodIn_app (goodIn_of _ (by decide +kernel)) ggX9_shows_X9_setsP
set_option maxRecDepth 20000 in
theorem ggX9_shows_X9_goesThrough : GoodIn wsX9_shows wsX9_goesThrough := goodIn_r _ [15, 1, 3, 4, 5, 6, 7, 2, 16, 17, 18, 19, 20, 21, 22, 23, 24, 25, 26, 27, 28, 29, 30, 31, 32, 33, 34, 35, 36, 37, 38, 39, 40, 41, 42, 43, 44, 45, 46, 47, 48, 49, 50, 51, 52, 53, 54] (by decide +kernel) (by decide +kernel)
set_option maxRecDepth 20000 in
theorem gX9_shows_X9_goesThrough : GoodIn wsX9_shows (wsV RX9 141 RX9 yX9_goesThrough wsX9_goesThrough) := goodIn_app (goodIn_of _ (by decide +kernel)) ggX9_shows_X9_goesThrough
theorem dX9_shows_0 : decode cX9_shows 0 = .ok (.iconst 0, 1) := by decide +kernel
theorem dX9_shows_1 : decode cX9_shows 1 = .ok (.istore_n 1, 1) := by decide +kernel
theorem dX9_shows_2 : decode cX9_shows 2 = .ok (.iload_n 1, 1) := by decide +kernel
theorem dX9_shows_3 : decode cX9_shows 3 = .ok (.sipush 488, 3) := by decide +kernel
theorem dX9_shows_6 : decode cX9_shows 6 = .ok (.if_icmp .ge 16, 3) := by decide +kernel
theorem dX9_shows_9 : decode cX9_shows 9 = .ok (.aload_n 0, 1) := by decide +kernel
theorem dX9_shows_10 : decode cX9_shows 10 = .ok (.getfield 17, 3) := by decide +kernel
theorem dX9_shows_13 : decode cX9_shows 13 = .ok (.iload_n 1, 1) := by decide +kernel
theorem dX9_shows_14 : decode cX9_shows 14 = .ok (.iconst 0, 1) := by decide +kernel
theorem dX9_shows_15 : decode cX9_shows 15 = .ok (.iastore, 1) := by decide +kernel
theorem dX9_shows_16 : decode cX9_shows 16 = .ok (.iinc 1 1, 3) := by decide +kernel
theorem dX9_shows_19 : decode cX9_shows 19 = .ok (.goto (-17), 3) := by decide +kernel
theorem dX9_shows_22 : decode cX9_shows 22 = .ok (.aload_n 0, 1) := by decide +kernel
theorem dX9_shows_23 : decode cX9_shows 23 = .ok (.getfield 17, 3) := by decide +kernel
theorem dX9_shows_26 : decode cX9_shows 26 = .ok (.bipush 6, 2) := by decide +kernel
theorem dX9_shows_28 : decode cX9_shows 28 = .ok (.bipush (-5), 2) := by decide +kernel
theorem dX9_shows_30 : decode cX9_shows 30 = .ok (.iastore, 1) := by decide +kernel
theorem dX9_shows_31 : decode cX9_shows 31 = .ok (.iconst 0, 1) := by decide +kernel
theorem dX9_shows_32 : decode cX9_shows 32 = .ok (.istore_n 1, 1) := by decide +kernel
theorem dX9_shows_33 : decode cX9_shows 33 = .ok (.iload_n 1, 1) := by decide +kernel
theorem dX9_shows_34 : decode cX9_shows 34 = .ok (.aload_n 0, 1) := by decide +kernel
theorem dX9_shows_35 : decode cX9_shows 35 = .ok (.getfield 7, 3) := by decide +kernel
theorem dX9_shows_38 : decode cX9_shows 38 = .ok (.iconst 1, 1) := by decide +kernel
theorem dX9_shows_39 : decode cX9_shows 39 = .ok (.iaload, 1) := by decide +kernel
theorem dX9_shows_40 : decode cX9_shows 40 = .ok (.if_icmp .ge 146, 3) := by decide +kernel
theorem dX9_shows_43 : decode cX9_shows 43 = .ok (.aload_n 0, 1) := by decide +kernel
theorem dX9_shows_44 : decode cX9_shows 44 = .ok (.getfield 17, 3) := by decide +kernel
theorem dX9_shows_47 : decode cX9_shows 47 = .ok (.bipush 6, 2) := by decide +kernel
theorem dX9_shows_49 : decode cX9_shows 49 = .ok (.iaload, 1) := by decide +kernel
theorem dX9_shows_50 : decode cX9_shows 50 = .ok (.bipush (-5), 2) := by decide +kernel
theorem dX9_shows_52 : decode cX9_shows 52 = .ok (.if_icmp .ne 134, 3) := by decide +kernel
theorem dX9_shows_55 : decode cX9_shows 55 = .ok (.iload_n 1, 1) := by decide +kernel
theorem dX9_shows_56 : decode cX9_shows 56 = .ok (.ifCond .le 46, 3) := by decide +kernel
theorem dX9_shows_59 : decode cX9_shows 59 = .ok (.aload_n 0, 1) := by decide +kernel
theorem dX9_shows_60 : decode cX9_shows 60 = .ok (.iload_n 1, 1) := by decide +kernel
theorem dX9_shows_61 : decode cX9_shows 61 = .ok (.iconst 3, 1) := by decide +kernel
theorem dX9_shows_62 : decode cX9_shows 62 = .ok (.aload_n 0, 1) := by decide +kernel
theorem dX9_shows_63 : decode cX9_shows 63 = .ok (.iload_n 1, 1) := by decide +kernel
theorem dX9_shows_64 : decode cX9_shows 64 = .ok (.iconst 3, 1) := by decide +kernel
theorem dX9_shows_65 : decode cX9_shows 65 = .ok (.invokevirtual 54, 3) := by decide +kernel
theorem dX9_shows_68 : decode cX9_shows 68 = .ok (.iconst 1, 1) := by decide +kernel
theorem dX9_shows_69 : decode cX9_shows 69 = .ok (.iadd, 1) := by decide +kernel
theorem dX9_shows_70 : decode cX9_shows 70 = .ok (.invokevirtual 70, 3) := by decide +kernel
theorem dX9_shows_73 : decode cX9_shows 73 = .ok (.aload_n 0, 1) := by decide +kernel
theorem dX9_shows_74 : decode cX9_shows 74 = .ok (.getfield 17, 3) := by decide +kernel
theorem dX9_shows_77 : decode cX9_shows 77 = .ok (.bipush 6, 2) := by decide +kernel
theorem dX9_shows_79 : decode cX9_shows 79 = .ok (.aload_n 0, 1) := by decide +kernel
theorem dX9_shows_80 : decode cX9_shows 80 = .ok (.iload_n 1, 1) := by decide +kernel
theorem dX9_shows_81 : decode cX9_shows 81 = .ok (.iconst 3, 1) := by decide +kernel
theorem dX9_shows_82 : decode cX9_shows 82 = .ok (.invokevirtual 54, 3) := by decide +kernel
theorem dX9_shows_85 : decode cX9_shows 85 = .ok (.aload_n 0, 1) := by decide +kernel
theorem dX9_shows_86 : decode cX9_shows 86 = .ok (.getfield 7, 3) := by decide +kernel
theorem dX9_shows_89 : decode cX9_shows 89 = .ok (.bipush 7, 2) := by decide +kernel
theorem dX9_shows_91 : decode cX9_shows 91 = .ok (.iaload, 1) := by decide +kernel
theorem dX9_shows_92 : decode cX9_shows 92 = .ok (.if_icmp .le 7, 3) := by decide +kernel
theorem dX9_shows_95 : decode cX9_shows 95 = .ok (.iload_n 1, 1) := by decide +kernel
theorem dX9_shows_96 : decode cX9_shows 96 = .ok (.goto 5, 3) := by decide +kernel
theorem dX9_shows_99 : decode cX9_shows 99 = .ok (.bipush (-5), 2) := by decide +kernel
theorem dX9_shows_101 : decode cX9_shows 101 = .ok (.iastore, 1) := by decide +kernel
theorem dX9_shows_102 : decode cX9_shows 102 = .ok (.aload_n 0, 1) := by decide +kernel
theorem dX9_shows_103 : decode cX9_shows 103 = .ok (.getfield 17, 3) := by decide +kernel
theorem dX9_shows_106 : decode cX9_shows 106 = .ok (.bipush 6, 2) := by decide +kernel
theorem dX9_shows_108 : decode cX9_shows 108 = .ok (.iaload, 1) := by decide +kernel
theorem dX9_shows_109 : decode cX9_shows 109 = .ok (.bipush (-5), 2) := by decide +kernel
theorem dX9_shows_111 : decode cX9_shows 111 = .ok (.if_icmp .ne 69, 3) := by decide +kernel
theorem dX9_shows_114 : decode cX9_shows 114 = .ok (.aload_n 0, 1) := by decide +kernel
theorem dX9_shows_115 : decode cX9_shows 115 = .ok (.getfield 7, 3) := by decide +kernel
theorem dX9_shows_118 : decode cX9_shows 118 = .ok (.iconst 5, 1) := by decide +kernel
theorem dX9_shows_119 : decode cX9_shows 119 = .ok (.iaload, 1) := by decide +kernel
theorem dX9_shows_120 : decode cX9_shows 120 = .ok (.aload_n 0, 1) := by decide +kernel
theorem dX9_shows_121 : decode cX9_shows 121 = .ok (.getfield 7, 3) := by decide +kernel
theorem dX9_shows_124 : decode cX9_shows 124 = .ok (.bipush 8, 2) := by decide +kernel
theorem dX9_shows_126 : decode cX9_shows 126 = .ok (.iconst 2, 1) := by decide +kernel
theorem dX9_shows_127 : decode cX9_shows 127 = .ok (.aload_n 0, 1) := by decide +kernel
theorem dX9_shows_128 : decode cX9_shows 128 = .ok (.iload_n 1, 1) := by decide +kernel
theorem dX9_shows_129 : decode cX9_shows 129 = .ok (.iconst 0, 1) := by decide +kernel
theorem dX9_shows_130 : decode cX9_shows 130 = .ok (.invokevirtual 54, 3) := by decide +kernel
theorem dX9_shows_133 : decode cX9_shows 133 = .ok (.imul, 1) := by decide +kernel
theorem dX9_shows_134 : decode cX9_shows 134 = .ok (.iadd, 1) := by decide +kernel
theorem dX9_shows_135 : decode cX9_shows 135 = .ok (.iaload, 1) := by decide +kernel
theorem dX9_shows_136 : decode cX9_shows 136 = .ok (.ishr, 1) := by decide +kernel
theorem dX9_shows_137 : decode cX9_shows 137 = .ok (.iconst 1, 1) := by decide +kernel
theorem dX9_shows_138 : decode cX9_shows 138 = .ok (.iand, 1) := by decide +kernel
theorem dX9_shows_139 : decode cX9_shows 139 = .ok (.iconst 1, 1) := by decide +kernel
theorem dX9_shows_140 : decode cX9_shows 140 = .ok (.if_icmp .ne 7, 3) := by decide +kernel
theorem dX9_shows_143 : decode cX9_shows 143 = .ok (.iconst 1, 1) := by decide +kernel
theorem dX9_shows_144 : decode cX9_shows 144 = .ok (.goto 4, 3) := by decide +kernel
theorem dX9_shows_147 : decode cX9_shows 147 = .ok (.iconst 0, 1) := by decide +kernel
theorem dX9_shows_148 : decode cX9_shows 148 = .ok (.istore_n 2, 1) := by decide +kernel
theorem dX9_shows_149 : decode cX9_shows 149 = .ok (.aload_n 0, 1) := by decide +kernel
theorem dX9_shows_150 : decode cX9_shows 150 = .ok (.iload_n 1, 1) := by decide +kernel
theorem dX9_shows_151 : decode cX9_shows 151 = .ok (.iload_n 2, 1) := by decide +kernel
theorem dX9_shows_152 : decode cX9_shows 152 = .ok (.ifCond .eq 24, 3) := by decide +kernel
theorem dX9_shows_155 : decode cX9_shows 155 = .ok (.aload_n 0, 1) := by decide +kernel
theorem dX9_shows_156 : decode cX9_shows 156 = .ok (.getfield 17, 3) := by decide +kernel
theorem dX9_shows_159 : decode cX9_shows 159 = .ok (.bipush 7, 2) := by decide +kernel
theorem dX9_shows_161 : decode cX9_shows 161 = .ok (.iaload, 1) := by decide +kernel
theorem dX9_shows_162 : decode cX9_shows 162 = .ok (.aload_n 0, 1) := by decide +kernel
theorem dX9_shows_163 : decode cX9_shows 163 = .ok (.getfield 7, 3) := by decide +kernel
theorem dX9_shows_166 : decode cX9_shows 166 = .ok (.bipush 6, 2) := by decide +kernel
theorem dX9_shows_168 : decode cX9_shows 168 = .ok (.iaload, 1) := by decide +kernel
theorem dX9_shows_169 : decode cX9_shows 169 = .ok (.if_icmp .ge 7, 3) := by decide +kernel
theorem dX9_shows_172 : decode cX9_shows 172 = .ok (.iconst 1, 1) := by decide +kernel
theorem dX9_shows_173 : decode cX9_shows 173 = .ok (.goto 4, 3) := by decide +kernel
theorem dX9_shows_176 : decode cX9_shows 176 = .ok (.iconst 0, 1) := by decide +kernel
theorem dX9_shows_177 : decode cX9_shows 177 = .ok (.invokevirtual 141, 3) := by decide +kernel
theorem dX9_shows_180 : decode cX9_shows 180 = .ok (.iinc 1 1, 3) := by decide +kernel
theorem dX9_shows_183 : decode cX9_shows 183 = .ok (.goto (-150), 3) := by decide +kernel
theorem dX9_shows_186 : decode cX9_shows 186 = .ok (.return_, 1) := by decide +kernel
set_option maxRecDepth 20000 in
theorem ggX9_run_X9_records : GoodIn wsX9_run wsX9_records := goodIn_r _ [7, 8, 9, 1, 53, 54, 55, 56, 57, 58, 59, 60, 61, 62, 63, 64] (by decide +kernel) (by decide +kernel)
set_option maxRecDepth 20000 in
theorem gX9_run_X9_records : GoodIn wsX9_run (wsV RX9 38 RX9 yX9_records wsX9_records) := goodIn_app (goodIn_of _ (by decide +kernel)) ggX9_run_X9_records
set_option maxRecDepth 20000 in
theorem ggX9_run_X9_shows : GoodIn wsX9_run wsX9_shows := goodIn_r _ [13, 2, 1, 14, 15, 16, 6, 17, 18, 19, 20, 21, 22, 23, 24, 25, 26, 27, 28, 29, 30, 31, 32, 33, 34, 35, 36, 37, 38, 39, 40, 41, 42, 43, 44, 45, 46, 47, 48, 49, 50, 51, 52, 53, 54, 55, 56, 57, 58, 59, 60, 61, 62, 63, 64] (by decide +kernel) (by decide +kernel)
set_option maxRecDepth 20000 in
theorem gX9_run_X9_shows : GoodIn wsX9_run (wsV RX9 145 RX9 yX9_shows wsX9_shows) := goodIn_app (goodIn_of _ (by decide +kernel)) ggX9_run_X9_shows
theorem dX9_run_0 : decode cX9_run 0 = .ok (.aload_n 0, 1) := by decide +kernel
theorem dX9_run_1 : decode cX9_run 1 = .ok (.getfield 7, 3) := by decide +kernel
theorem dX9_run_4 : decode cX9_run 4 = .ok (.iconst 1, 1) := by decide +kernel
theorem dX9_run_5 : decode cX9_run 5 = .ok (.iaload, 1) := by decide +kernel
theorem dX9_run_6 : decode cX9_run 6 = .ok (.ifCond .ne 6, 3) := by decide +kernel
theorem dX9_run_9 : decode cX9_run 9 = .ok (.bipush (-4), 2) := by decide +kernel
theorem dX9_run_11 : decode cX9_run 11 = .ok (.ireturn, 1) := by decide +kernel
theorem dX9_run_12 : decode cX9_run 12 = .ok (.aload_n 0, 1) := by decide +kernel
theorem dX9_run_13 : decode cX9_run 13 = .ok (.getfield 7, 3) := by decide +kernel
theorem dX9_run_16 : decode cX9_run 16 = .ok (.iconst 3, 1) := by decide +kernel
theorem dX9_run_17 : decode cX9_run 17 = .ok (.iaload, 1) := by decide +kernel
theorem dX9_run_18 : decode cX9_run 18 = .ok (.bipush 10, 2) := by decide +kernel
theorem dX9_run_20 : decode cX9_run 20 = .ok (.if_icmp .ne 6, 3) := by decide +kernel
theorem dX9_run_23 : decode cX9_run 23 = .ok (.bipush (-3), 2) := by decide +kernel
theorem dX9_run_25 : decode cX9_run 25 = .ok (.ireturn, 1) := by decide +kernel
theorem dX9_run_26 : decode cX9_run 26 = .ok (.aload_n 0, 1) := by decide +kernel
theorem dX9_run_27 : decode cX9_run 27 = .ok (.iconst 0, 1) := by decide +kernel
theorem dX9_run_28 : decode cX9_run 28 = .ok (.invokevirtual 38, 3) := by decide +kernel
theorem dX9_run_31 : decode cX9_run 31 = .ok (.aload_n 0, 1) := by decide +kernel
theorem dX9_run_32 : decode cX9_run 32 = .ok (.invokevirtual 145, 3) := by decide +kernel
theorem dX9_run_35 : decode cX9_run 35 = .ok (.iconst 0, 1) := by decide +kernel
theorem dX9_run_36 : decode cX9_run 36 = .ok (.istore_n 1, 1) := by decide +kernel
theorem dX9_run_37 : decode cX9_run 37 = .ok (.iload_n 1, 1) := by decide +kernel
theorem dX9_run_38 : decode cX9_run 38 = .ok (.sipush 488, 3) := by decide +kernel
theorem dX9_run_41 : decode cX9_run 41 = .ok (.if_icmp .ge 36, 3) := by decide +kernel
theorem dX9_run_44 : decode cX9_run 44 = .ok (.aload_n 0, 1) := by decide +kernel
theorem dX9_run_45 : decode cX9_run 45 = .ok (.getfield 7, 3) := by decide +kernel
theorem dX9_run_48 : decode cX9_run 48 = .ok (.sipush 1132, 3) := by decide +kernel
theorem dX9_run_51 : decode cX9_run 51 = .ok (.sipush 488, 3) := by decide +kernel
theorem dX9_run_54 : decode cX9_run 54 = .ok (.aload_n 0, 1) := by decide +kernel
theorem dX9_run_55 : decode cX9_run 55 = .ok (.getfield 7, 3) := by decide +kernel
theorem dX9_run_58 : decode cX9_run 58 = .ok (.iconst 3, 1) := by decide +kernel
theorem dX9_run_59 : decode cX9_run 59 = .ok (.iaload, 1) := by decide +kernel
theorem dX9_run_60 : decode cX9_run 60 = .ok (.imul, 1) := by decide +kernel
theorem dX9_run_61 : decode cX9_run 61 = .ok (.iadd, 1) := by decide +kernel
theorem dX9_run_62 : decode cX9_run 62 = .ok (.iload_n 1, 1) := by decide +kernel
theorem dX9_run_63 : decode cX9_run 63 = .ok (.iadd, 1) := by decide +kernel
theorem dX9_run_64 : decode cX9_run 64 = .ok (.aload_n 0, 1) := by decide +kernel
theorem dX9_run_65 : decode cX9_run 65 = .ok (.getfield 17, 3) := by decide +kernel
theorem dX9_run_68 : decode cX9_run 68 = .ok (.iload_n 1, 1) := by decide +kernel
theorem dX9_run_69 : decode cX9_run 69 = .ok (.iaload, 1) := by decide +kernel
theorem dX9_run_70 : decode cX9_run 70 = .ok (.iastore, 1) := by decide +kernel
theorem dX9_run_71 : decode cX9_run 71 = .ok (.iinc 1 1, 3) := by decide +kernel
theorem dX9_run_74 : decode cX9_run 74 = .ok (.goto (-37), 3) := by decide +kernel
theorem dX9_run_77 : decode cX9_run 77 = .ok (.aload_n 0, 1) := by decide +kernel
theorem dX9_run_78 : decode cX9_run 78 = .ok (.getfield 7, 3) := by decide +kernel
theorem dX9_run_81 : decode cX9_run 81 = .ok (.iconst 3, 1) := by decide +kernel
theorem dX9_run_82 : decode cX9_run 82 = .ok (.dup2, 1) := by decide +kernel
theorem dX9_run_83 : decode cX9_run 83 = .ok (.iaload, 1) := by decide +kernel
theorem dX9_run_84 : decode cX9_run 84 = .ok (.iconst 1, 1) := by decide +kernel
theorem dX9_run_85 : decode cX9_run 85 = .ok (.iadd, 1) := by decide +kernel
theorem dX9_run_86 : decode cX9_run 86 = .ok (.iastore, 1) := by decide +kernel
theorem dX9_run_87 : decode cX9_run 87 = .ok (.aload_n 0, 1) := by decide +kernel
theorem dX9_run_88 : decode cX9_run 88 = .ok (.getfield 7, 3) := by decide +kernel
theorem dX9_run_91 : decode cX9_run 91 = .ok (.iconst 3, 1) := by decide +kernel
theorem dX9_run_92 : decode cX9_run 92 = .ok (.iaload, 1) := by decide +kernel
theorem dX9_run_93 : decode cX9_run 93 = .ok (.iconst 1, 1) := by decide +kernel
theorem dX9_run_94 : decode cX9_run 94 = .ok (.isub, 1) := by decide +kernel
theorem dX9_run_95 : decode cX9_run 95 = .ok (.ireturn, 1) := by decide +kernel
set_option maxRecDepth 20000 in
theorem ggX9_tries_X9_keeps : GoodIn wsX9_tries wsX9_keeps := goodIn_r _ [6, 7, 8, 56, 57, 58, 59, 60, 61, 62, 63, 64, 65, 66, 67] (by decide +kernel) (by decide +kernel)
set_option maxRecDepth 20000 in
theorem gX9_tries_X9_keeps : GoodIn wsX9_tries (wsV RX9 31 RX9 yX9_keeps wsX9_keeps) := goodIn_app (goodIn_of _ (by decide +kernel)) ggX9_tries_X9_keeps
set_option maxRecDepth 20000 in
theorem ggX9_tries_X9_shows : GoodIn wsX9_tries wsX9_shows := goodIn_r _ [12, 1, 8, 13, 14, 15, 5, 16, 17, 18, 19, 20, 21, 22, 23, 24, 25, 26, 27, 28, 29, 30, 31, 32, 33, 34, 35, 36, 37, 38, 39, 40, 41, 42, 43, 44, 45, 46, 47, 48, 49, 50, 51, 56, 57, 58, 59, 60, 61, 62, 63, 64, 65, 66, 67] (by decide +kernel) (by decide +kernel)
set_option maxRecDepth 20000 in
theorem gX9_tries_X9_shows : GoodIn wsX9_tries (wsV RX9 145 RX9 yX9_shows wsX9_shows) := goodIn_app (goodIn_of _ (by decide +kernel)) ggX9_tries_X9_shows
set_option maxRecDepth 20000 in
theorem ggX9_tries_X9_brings : GoodIn wsX9_tries wsX9_brings := goodIn_r _ [55, 8, 7, 56, 57, 58, 59, 60, 61, 62, 63, 64, 65, 66, 67] (by decide +kernel) (by decide +kernel)
set_option maxRecDepth 20000 in
theorem gX9_tries_X9_brings : GoodIn wsX9_tries (wsV RX9 27 RX9 yX9_brings wsX9_brings) := goodIn_app (goodIn_of _ (by decide +kernel)) ggX9_tries_X9_brings
theorem dX9_tries_0 : decode cX9_tries 0 = .ok (.aload_n 0, 1) := by decide +kernel
theorem dX9_tries_1 : decode cX9_tries 1 = .ok (.iconst 5, 1) := by decide +kernel
theorem dX9_tries_2 : decode cX9_tries 2 = .ok (.invokevirtual 31, 3) := by decide +kernel
theorem dX9_tries_5 : decode cX9_tries 5 = .ok (.aload_n 0, 1) := by decide +kernel
theorem dX9_tries_6 : decode cX9_tries 6 = .ok (.invokevirtual 145, 3) := by decide +kernel
theorem dX9_tries_9 : decode cX9_tries 9 = .ok (.aload_n 0, 1) := by decide +kernel
theorem dX9_tries_10 : decode cX9_tries 10 = .ok (.iconst 5, 1) := by decide +kernel
theorem dX9_tries_11 : decode cX9_tries 11 = .ok (.invokevirtual 27, 3) := by decide +kernel
theorem dX9_tries_14 : decode cX9_tries 14 = .ok (.aload_n 0, 1) := by decide +kernel
theorem dX9_tries_15 : decode cX9_tries 15 = .ok (.getfield 17, 3) := by decide +kernel
theorem dX9_tries_18 : decode cX9_tries 18 = .ok (.iload_n 1, 1) := by decide +kernel
theorem dX9_tries_19 : decode cX9_tries 19 = .ok (.iaload, 1) := by decide +kernel
theorem dX9_tries_20 : decode cX9_tries 20 = .ok (.ireturn, 1) := by decide +kernel
set_option maxRecDepth 20000 in
theorem ggX9_next_X9_isIn : GoodIn wsX9_next wsX9_isIn := goodIn_r _ [5] (by decide +kernel) (by decide +kernel)
set_option maxRecDepth 20000 in
theorem gX9_next_X9_isIn : GoodIn wsX9_next (va_wsS RX9 42 yX9_isIn wsX9_isIn) := goodIn_app (goodIn_of _ (by decide +kernel)) ggX9_next_X9_isIn
set_option maxRecDepth 20000 in
theorem ggX9_next_X9_tries : GoodIn wsX9_next wsX9_tries := goodIn_r _ [9, 10, 11, 12, 13, 4, 14, 15, 1, 16, 17, 18, 19, 20, 21, 22, 23, 24, 25, 26, 27, 28, 29, 30, 31, 32, 33, 34, 35, 36, 37, 38, 39, 40, 41, 42, 43, 44, 45, 46, 47, 48, 49, 50, 51, 52, 53, 54, 55, 56, 57, 58, 59, 60, 61, 62, 63, 64, 65, 66, 67, 68, 69, 70, 71, 72, 73, 74] (by decide +kernel) (by decide +kernel)
set_option maxRecDepth 20000 in
theorem gX9_next_X9_tries : GoodIn wsX9_next (wsV RX9 148 RX9 yX9_tries wsX9_tries) := goodIn_app (goodIn_of _ (by decide +kernel)) ggX9_next_X9_tries
theorem dX9_next_0 : decode cX9_next 0 = .ok (.iload_n 1, 1) := by decide +kernel
theorem dX9_next_1 : decode cX9_next 1 = .ok (.iconst 0, 1) := by decide +kernel
theorem dX9_next_2 : decode cX9_next 2 = .ok (.bipush 7, 2) := by decide +kernel
theorem dX9_next_4 : decode cX9_next 4 = .ok (.invokestatic 42, 3) := by decide +kernel
theorem dX9_next_7 : decode cX9_next 7 = .ok (.ifCond .ne 6, 3) := by decide +kernel
theorem dX9_next_10 : decode cX9_next 10 = .ok (.bipush (-2), 2) := by decide +kernel
theorem dX9_next_12 : decode cX9_next 12 = .ok (.ireturn, 1) := by decide +kernel
theorem dX9_next_13 : decode cX9_next 13 = .ok (.aload_n 0, 1) := by decide +kernel
theorem dX9_next_14 : decode cX9_next 14 = .ok (.getfield 7, 3) := by decide +kernel
theorem dX9_next_17 : decode cX9_next 17 = .ok (.iconst 1, 1) := by decide +kernel
theorem dX9_next_18 : decode cX9_next 18 = .ok (.iaload, 1) := by decide +kernel
theorem dX9_next_19 : decode cX9_next 19 = .ok (.ifCond .ne 8, 3) := by decide +kernel
theorem dX9_next_22 : decode cX9_next 22 = .ok (.bipush (-4), 2) := by decide +kernel
theorem dX9_next_24 : decode cX9_next 24 = .ok (.goto 8, 3) := by decide +kernel
theorem dX9_next_27 : decode cX9_next 27 = .ok (.aload_n 0, 1) := by decide +kernel
theorem dX9_next_28 : decode cX9_next 28 = .ok (.iload_n 1, 1) := by decide +kernel
theorem dX9_next_29 : decode cX9_next 29 = .ok (.invokevirtual 148, 3) := by decide +kernel
theorem dX9_next_32 : decode cX9_next 32 = .ok (.ireturn, 1) := by decide +kernel
set_option maxRecDepth 20000 in
theorem ggX9_isShow_X9_isIn : GoodIn wsX9_isShow wsX9_isIn := goodIn_r _ [5] (by decide +kernel) (by decide +kernel)
set_option maxRecDepth 20000 in
theorem gX9_isShow_X9_isIn : GoodIn wsX9_isShow (va_wsS RX9 42 yX9_isIn wsX9_isIn) := goodIn_app (goodIn_of _ (by decide +kernel)) ggX9_isShow_X9_isIn
theorem dX9_isShow_0 : decode cX9_isShow 0 = .ok (.iload_n 1, 1) := by decide +kernel
theorem dX9_isShow_1 : decode cX9_isShow 1 = .ok (.iconst 0, 1) := by decide +kernel
theorem dX9_isShow_2 : decode cX9_isShow 2 = .ok (.aload_n 0, 1) := by decide +kernel
theorem dX9_isShow_3 : decode cX9_isShow 3 = .ok (.getfield 7, 3) := by decide +kernel
theorem dX9_isShow_6 : decode cX9_isShow 6 = .ok (.iconst 3, 1) := by decide +kernel
theorem dX9_isShow_7 : decode cX9_isShow 7 = .ok (.iaload, 1) := by decide +kernel
theorem dX9_isShow_8 : decode cX9_isShow 8 = .ok (.iconst 1, 1) := by decide +kernel
theorem dX9_isShow_9 : decode cX9_isShow 9 = .ok (.isub, 1) := by decide +kernel
theorem dX9_isShow_10 : decode cX9_isShow 10 = .ok (.invokestatic 42, 3) := by decide +kernel
theorem dX9_isShow_13 : decode cX9_isShow 13 = .ok (.ireturn, 1) := by decide +kernel
theorem dX9_ofS_0 : decode cX9_ofS 0 = .ok (.aload_n 0, 1) := by decide +kernel
theorem dX9_ofS_1 : decode cX9_ofS 1 = .ok (.getfield 7, 3) := by decide +kernel
theorem dX9_ofS_4 : decode cX9_ofS 4 = .ok (.sipush 1132, 3) := by decide +kernel
theorem dX9_ofS_7 : decode cX9_ofS 7 = .ok (.sipush 488, 3) := by decide +kernel
theorem dX9_ofS_10 : decode cX9_ofS 10 = .ok (.iload_n 1, 1) := by decide +kernel
theorem dX9_ofS_11 : decode cX9_ofS 11 = .ok (.imul, 1) := by decide +kernel
theorem dX9_ofS_12 : decode cX9_ofS 12 = .ok (.iadd, 1) := by decide +kernel
theorem dX9_ofS_13 : decode cX9_ofS 13 = .ok (.iload_n 2, 1) := by decide +kernel
theorem dX9_ofS_14 : decode cX9_ofS 14 = .ok (.iadd, 1) := by decide +kernel
theorem dX9_ofS_15 : decode cX9_ofS 15 = .ok (.iaload, 1) := by decide +kernel
theorem dX9_ofS_16 : decode cX9_ofS 16 = .ok (.ireturn, 1) := by decide +kernel
set_option maxRecDepth 20000 in
theorem ggX9_show_X9_isShow : GoodIn wsX9_show wsX9_isShow := goodIn_r _ [5, 6, 7, 8, 4, 9, 14, 15, 16, 17, 18, 19, 20, 21, 22, 23, 24, 25] (by decide +kernel) (by decide +kernel)
set_option maxRecDepth 20000 in
theorem gX9_show_X9_isShow : GoodIn wsX9_show (wsV RX9 151 RX9 yX9_isShow wsX9_isShow) := goodIn_app (goodIn_of _ (by decide +kernel)) ggX9_show_X9_isShow
set_option maxRecDepth 20000 in
theorem ggX9_show_X9_isIn : GoodIn wsX9_show wsX9_isIn := goodIn_r _ [9] (by decide +kernel) (by decide +kernel)
set_option maxRecDepth 20000 in
theorem gX9_show_X9_isIn : GoodIn wsX9_show (va_wsS RX9 42 yX9_isIn wsX9_isIn) := goodIn_app (goodIn_of _ (by decide +kernel)) ggX9_show_X9_isIn
set_option maxRecDepth 20000 in
theorem ggX9_show_X9_ofS : GoodIn wsX9_show wsX9_ofS := goodIn_r _ [13, 6, 14, 15, 16, 17, 18, 19, 20, 21, 22, 23, 24, 25] (by decide +kernel) (by decide +kernel)
set_option maxRecDepth 20000 in
theorem gX9_show_X9_ofS : GoodIn wsX9_show (wsV RX9 154 RX9 yX9_ofS wsX9_ofS) := goodIn_app (goodIn_of _ (by decide +kernel)) ggX9_show_X9_ofS
theorem dX9_show_0 : decode cX9_show 0 = .ok (.aload_n 0, 1) := by decide +kernel
theorem dX9_show_1 : decode cX9_show 1 = .ok (.iload_n 1, 1) := by decide +kernel
theorem dX9_show_2 : decode cX9_show 2 = .ok (.invokevirtual 151, 3) := by decide +kernel
theorem dX9_show_5 : decode cX9_show 5 = .ok (.ifCond .ne 5, 3) := by decide +kernel
theorem dX9_show_8 : decode cX9_show 8 = .ok (.iconst (-1), 1) := by decide +kernel
theorem dX9_show_9 : decode cX9_show 9 = .ok (.ireturn, 1) := by decide +kernel
theorem dX9_show_10 : decode cX9_show 10 = .ok (.iload_n 2, 1) := by decide +kernel
theorem dX9_show_11 : decode cX9_show 11 = .ok (.iconst 0, 1) := by decide +kernel
theorem dX9_show_12 : decode cX9_show 12 = .ok (.bipush 7, 2) := by decide +kernel
theorem dX9_show_14 : decode cX9_show 14 = .ok (.invokestatic 42, 3) := by decide +kernel
theorem dX9_show_17 : decode cX9_show 17 = .ok (.ifCond .eq 12, 3) := by decide +kernel
theorem dX9_show_20 : decode cX9_show 20 = .ok (.aload_n 0, 1) := by decide +kernel
theorem dX9_show_21 : decode cX9_show 21 = .ok (.iload_n 1, 1) := by decide +kernel
theorem dX9_show_22 : decode cX9_show 22 = .ok (.iload_n 2, 1) := by decide +kernel
theorem dX9_show_23 : decode cX9_show 23 = .ok (.invokevirtual 154, 3) := by decide +kernel
theorem dX9_show_26 : decode cX9_show 26 = .ok (.goto 5, 3) := by decide +kernel
theorem dX9_show_29 : decode cX9_show 29 = .ok (.bipush (-2), 2) := by decide +kernel
theorem dX9_show_31 : decode cX9_show 31 = .ok (.ireturn, 1) := by decide +kernel
set_option maxRecDepth 20000 in
theorem ggX9_seen_X9_isShow : GoodIn wsX9_seen wsX9_isShow := goodIn_r _ [5, 6, 7, 8, 4, 9, 14, 15, 16, 17, 18, 19, 20, 21, 22, 23, 24, 25] (by decide +kernel) (by decide +kernel)
set_option maxRecDepth 20000 in
theorem gX9_seen_X9_isShow : GoodIn wsX9_seen (wsV RX9 151 RX9 yX9_isShow wsX9_isShow) := goodIn_app (goodIn_of _ (by decide +kernel)) ggX9_seen_X9_isShow
set_option maxRecDepth 20000 in
theorem ggX9_seen_X9_ofS : GoodIn wsX9_seen wsX9_ofS := goodIn_r _ [13, 6, 14, 15, 16, 17, 18, 19, 20, 21, 22, 23, 24, 25] (by decide +kernel) (by decide +kernel)
set_option maxRecDepth 20000 in
theorem gX9_seen_X9_ofS : GoodIn wsX9_seen (wsV RX9 154 RX9 yX9_ofS wsX9_ofS) := goodIn_app (goodIn_of _ (by decide +kernel)) ggX9_seen_X9_ofS
set_option maxRecDepth 20000 in
theorem ggX9_seen_X9_isIn : GoodIn wsX9_seen wsX9_isIn := goodIn_r _ [9] (by decide +kernel) (by decide +kernel)
set_option maxRecDepth 20000 in
theorem gX9_seen_X9_isIn : GoodIn wsX9_seen (va_wsS RX9 42 yX9_isIn wsX9_isIn) := goodIn_app (goodIn_of _ (by decide +kernel)) ggX9_seen_X9_isIn
theorem dX9_seen_0 : decode cX9_seen 0 = .ok (.aload_n 0, 1) := by decide +kernel
theorem dX9_seen_1 : decode cX9_seen 1 = .ok (.iload_n 1, 1) := by decide +kernel
theorem dX9_seen_2 : decode cX9_seen 2 = .ok (.invokevirtual 151, 3) := by decide +kernel
theorem dX9_seen_5 : decode cX9_seen 5 = .ok (.ifCond .ne 5, 3) := by decide +kernel
theorem dX9_seen_8 : decode cX9_seen 8 = .ok (.iconst (-1), 1) := by decide +kernel
theorem dX9_seen_9 : decode cX9_seen 9 = .ok (.ireturn, 1) := by decide +kernel
theorem dX9_seen_10 : decode cX9_seen 10 = .ok (.iload_n 2, 1) := by decide +kernel
theorem dX9_seen_11 : decode cX9_seen 11 = .ok (.iconst 0, 1) := by decide +kernel
theorem dX9_seen_12 : decode cX9_seen 12 = .ok (.aload_n 0, 1) := by decide +kernel
theorem dX9_seen_13 : decode cX9_seen 13 = .ok (.iload_n 1, 1) := by decide +kernel
theorem dX9_seen_14 : decode cX9_seen 14 = .ok (.iconst 0, 1) := by decide +kernel
theorem dX9_seen_15 : decode cX9_seen 15 = .ok (.invokevirtual 154, 3) := by decide +kernel
theorem dX9_seen_18 : decode cX9_seen 18 = .ok (.iconst 1, 1) := by decide +kernel
theorem dX9_seen_19 : decode cX9_seen 19 = .ok (.isub, 1) := by decide +kernel
theorem dX9_seen_20 : decode cX9_seen 20 = .ok (.invokestatic 42, 3) := by decide +kernel
theorem dX9_seen_23 : decode cX9_seen 23 = .ok (.ifCond .eq 15, 3) := by decide +kernel
theorem dX9_seen_26 : decode cX9_seen 26 = .ok (.aload_n 0, 1) := by decide +kernel
theorem dX9_seen_27 : decode cX9_seen 27 = .ok (.iload_n 1, 1) := by decide +kernel
theorem dX9_seen_28 : decode cX9_seen 28 = .ok (.bipush 8, 2) := by decide +kernel
theorem dX9_seen_30 : decode cX9_seen 30 = .ok (.iload_n 2, 1) := by decide +kernel
theorem dX9_seen_31 : decode cX9_seen 31 = .ok (.iadd, 1) := by decide +kernel
theorem dX9_seen_32 : decode cX9_seen 32 = .ok (.invokevirtual 154, 3) := by decide +kernel
theorem dX9_seen_35 : decode cX9_seen 35 = .ok (.goto 5, 3) := by decide +kernel
theorem dX9_seen_38 : decode cX9_seen 38 = .ok (.bipush (-2), 2) := by decide +kernel
theorem dX9_seen_40 : decode cX9_seen 40 = .ok (.ireturn, 1) := by decide +kernel
set_option maxRecDepth 20000 in
theorem ggX9_addWitness_X9_isShow : GoodIn wsX9_addWitness wsX9_isShow := goodIn_r _ [6, 1, 7, 8, 5, 9, 20, 21, 22, 23, 24, 25, 26, 27, 28, 29, 30, 31] (by decide +kernel) (by decide +kernel)
set_option maxRecDepth 20000 in
theorem gX9_addWitness_X9_isShow : GoodIn wsX9_addWitness (wsV RX9 151 RX9 yX9_isShow wsX9_isShow) := goodIn_app (goodIn_of _ (by decide +kernel)) ggX9_addWitness_X9_isShow
set_option maxRecDepth 20000 in
theorem ggX9_addWitness_X9_ofS : GoodIn wsX9_addWitness wsX9_ofS := goodIn_r _ [13, 1, 20, 21, 22, 23, 24, 25, 26, 27, 28, 29, 30, 31] (by decide +kernel) (by decide +kernel)
set_option maxRecDepth 20000 in
theorem gX9_addWitness_X9_ofS : GoodIn wsX9_addWitness (wsV RX9 154 RX9 yX9_ofS wsX9_ofS) := goodIn_app (goodIn_of _ (by decide +kernel)) ggX9_addWitness_X9_ofS
set_option maxRecDepth 20000 in
theorem ggX9_addWitness_X9_records : GoodIn wsX9_addWitness wsX9_records := goodIn_r _ [17, 18, 19, 1, 20, 21, 22, 23, 24, 25, 26, 27, 28, 29, 30, 31] (by decide +kernel) (by decide +kernel)
set_option maxRecDepth 20000 in
theorem gX9_addWitness_X9_records : GoodIn wsX9_addWitness (wsV RX9 38 RX9 yX9_records wsX9_records) := goodIn_app (goodIn_of _ (by decide +kernel)) ggX9_addWitness_X9_records
theorem dX9_addWitness_0 : decode cX9_addWitness 0 = .ok (.aload_n 0, 1) := by decide +kernel
theorem dX9_addWitness_1 : decode cX9_addWitness 1 = .ok (.iload_n 1, 1) := by decide +kernel
theorem dX9_addWitness_2 : decode cX9_addWitness 2 = .ok (.invokevirtual 151, 3) := by decide +kernel
theorem dX9_addWitness_5 : decode cX9_addWitness 5 = .ok (.ifCond .ne 5, 3) := by decide +kernel
theorem dX9_addWitness_8 : decode cX9_addWitness 8 = .ok (.iconst (-1), 1) := by decide +kernel
theorem dX9_addWitness_9 : decode cX9_addWitness 9 = .ok (.ireturn, 1) := by decide +kernel
theorem dX9_addWitness_10 : decode cX9_addWitness 10 = .ok (.iload_n 2, 1) := by decide +kernel
theorem dX9_addWitness_11 : decode cX9_addWitness 11 = .ok (.ifCond .lt 18, 3) := by decide +kernel
theorem dX9_addWitness_14 : decode cX9_addWitness 14 = .ok (.iload_n 3, 1) := by decide +kernel
theorem dX9_addWitness_15 : decode cX9_addWitness 15 = .ok (.iload_n 2, 1) := by decide +kernel
theorem dX9_addWitness_16 : decode cX9_addWitness 16 = .ok (.if_icmp .le 13, 3) := by decide +kernel
theorem dX9_addWitness_19 : decode cX9_addWitness 19 = .ok (.iload_n 3, 1) := by decide +kernel
theorem dX9_addWitness_20 : decode cX9_addWitness 20 = .ok (.aload_n 0, 1) := by decide +kernel
theorem dX9_addWitness_21 : decode cX9_addWitness 21 = .ok (.iload_n 1, 1) := by decide +kernel
theorem dX9_addWitness_22 : decode cX9_addWitness 22 = .ok (.iconst 0, 1) := by decide +kernel
theorem dX9_addWitness_23 : decode cX9_addWitness 23 = .ok (.invokevirtual 154, 3) := by decide +kernel
theorem dX9_addWitness_26 : decode cX9_addWitness 26 = .ok (.if_icmp .le 6, 3) := by decide +kernel
theorem dX9_addWitness_29 : decode cX9_addWitness 29 = .ok (.bipush (-2), 2) := by decide +kernel
theorem dX9_addWitness_31 : decode cX9_addWitness 31 = .ok (.ireturn, 1) := by decide +kernel
theorem dX9_addWitness_32 : decode cX9_addWitness 32 = .ok (.aload_n 0, 1) := by decide +kernel
theorem dX9_addWitness_33 : decode cX9_addWitness 33 = .ok (.getfield 7, 3) := by decide +kernel
theorem dX9_addWitness_36 : decode cX9_addWitness 36 = .ok (.iconst 4, 1) := by decide +kernel
theorem dX9_addWitness_37 : decode cX9_addWitness 37 = .ok (.iaload, 1) := by decide +kernel
theorem dX9_addWitness_38 : decode cX9_addWitness 38 = .ok (.bipush 8, 2) := by decide +kernel
theorem dX9_addWitness_40 : decode cX9_addWitness 40 = .ok (.if_icmp .ne 6, 3) := by decide +kernel
theorem dX9_addWitness_43 : decode cX9_addWitness 43 = .ok (.bipush (-3), 2) := by decide +kernel
theorem dX9_addWitness_45 : decode cX9_addWitness 45 = .ok (.ireturn, 1) := by decide +kernel
theorem dX9_addWitness_46 : decode cX9_addWitness 46 = .ok (.aload_n 0, 1) := by decide +kernel
theorem dX9_addWitness_47 : decode cX9_addWitness 47 = .ok (.iconst 0, 1) := by decide +kernel
theorem dX9_addWitness_48 : decode cX9_addWitness 48 = .ok (.invokevirtual 38, 3) := by decide +kernel
theorem dX9_addWitness_51 : decode cX9_addWitness 51 = .ok (.sipush 6012, 3) := by decide +kernel
theorem dX9_addWitness_54 : decode cX9_addWitness 54 = .ok (.iconst 3, 1) := by decide +kernel
theorem dX9_addWitness_55 : decode cX9_addWitness 55 = .ok (.aload_n 0, 1) := by decide +kernel
theorem dX9_addWitness_56 : decode cX9_addWitness 56 = .ok (.getfield 7, 3) := by decide +kernel
theorem dX9_addWitness_59 : decode cX9_addWitness 59 = .ok (.iconst 4, 1) := by decide +kernel
theorem dX9_addWitness_60 : decode cX9_addWitness 60 = .ok (.iaload, 1) := by decide +kernel
theorem dX9_addWitness_61 : decode cX9_addWitness 61 = .ok (.imul, 1) := by decide +kernel
theorem dX9_addWitness_62 : decode cX9_addWitness 62 = .ok (.iadd, 1) := by decide +kernel
theorem dX9_addWitness_63 : decode cX9_addWitness 63 = .ok (.istore 4, 2) := by decide +kernel
theorem dX9_addWitness_65 : decode cX9_addWitness 65 = .ok (.aload_n 0, 1) := by decide +kernel
theorem dX9_addWitness_66 : decode cX9_addWitness 66 = .ok (.getfield 7, 3) := by decide +kernel
theorem dX9_addWitness_69 : decode cX9_addWitness 69 = .ok (.iload 4, 2) := by decide +kernel
theorem dX9_addWitness_71 : decode cX9_addWitness 71 = .ok (.iload_n 1, 1) := by decide +kernel
theorem dX9_addWitness_72 : decode cX9_addWitness 72 = .ok (.iastore, 1) := by decide +kernel
theorem dX9_addWitness_73 : decode cX9_addWitness 73 = .ok (.aload_n 0, 1) := by decide +kernel
theorem dX9_addWitness_74 : decode cX9_addWitness 74 = .ok (.getfield 7, 3) := by decide +kernel
theorem dX9_addWitness_77 : decode cX9_addWitness 77 = .ok (.iload 4, 2) := by decide +kernel
theorem dX9_addWitness_79 : decode cX9_addWitness 79 = .ok (.iconst 1, 1) := by decide +kernel
theorem dX9_addWitness_80 : decode cX9_addWitness 80 = .ok (.iadd, 1) := by decide +kernel
theorem dX9_addWitness_81 : decode cX9_addWitness 81 = .ok (.iload_n 2, 1) := by decide +kernel
theorem dX9_addWitness_82 : decode cX9_addWitness 82 = .ok (.iastore, 1) := by decide +kernel
theorem dX9_addWitness_83 : decode cX9_addWitness 83 = .ok (.aload_n 0, 1) := by decide +kernel
theorem dX9_addWitness_84 : decode cX9_addWitness 84 = .ok (.getfield 7, 3) := by decide +kernel
theorem dX9_addWitness_87 : decode cX9_addWitness 87 = .ok (.iload 4, 2) := by decide +kernel
theorem dX9_addWitness_89 : decode cX9_addWitness 89 = .ok (.iconst 2, 1) := by decide +kernel
theorem dX9_addWitness_90 : decode cX9_addWitness 90 = .ok (.iadd, 1) := by decide +kernel
theorem dX9_addWitness_91 : decode cX9_addWitness 91 = .ok (.iload_n 3, 1) := by decide +kernel
theorem dX9_addWitness_92 : decode cX9_addWitness 92 = .ok (.iastore, 1) := by decide +kernel
theorem dX9_addWitness_93 : decode cX9_addWitness 93 = .ok (.aload_n 0, 1) := by decide +kernel
theorem dX9_addWitness_94 : decode cX9_addWitness 94 = .ok (.getfield 7, 3) := by decide +kernel
theorem dX9_addWitness_97 : decode cX9_addWitness 97 = .ok (.iconst 4, 1) := by decide +kernel
theorem dX9_addWitness_98 : decode cX9_addWitness 98 = .ok (.dup2, 1) := by decide +kernel
theorem dX9_addWitness_99 : decode cX9_addWitness 99 = .ok (.iaload, 1) := by decide +kernel
theorem dX9_addWitness_100 : decode cX9_addWitness 100 = .ok (.iconst 1, 1) := by decide +kernel
theorem dX9_addWitness_101 : decode cX9_addWitness 101 = .ok (.iadd, 1) := by decide +kernel
theorem dX9_addWitness_102 : decode cX9_addWitness 102 = .ok (.iastore, 1) := by decide +kernel
theorem dX9_addWitness_103 : decode cX9_addWitness 103 = .ok (.aload_n 0, 1) := by decide +kernel
theorem dX9_addWitness_104 : decode cX9_addWitness 104 = .ok (.getfield 7, 3) := by decide +kernel
theorem dX9_addWitness_107 : decode cX9_addWitness 107 = .ok (.iconst 4, 1) := by decide +kernel
theorem dX9_addWitness_108 : decode cX9_addWitness 108 = .ok (.iaload, 1) := by decide +kernel
theorem dX9_addWitness_109 : decode cX9_addWitness 109 = .ok (.iconst 1, 1) := by decide +kernel
theorem dX9_addWitness_110 : decode cX9_addWitness 110 = .ok (.isub, 1) := by decide +kernel
theorem dX9_addWitness_111 : decode cX9_addWitness 111 = .ok (.ireturn, 1) := by decide +kernel
set_option maxRecDepth 20000 in
theorem ggX9_isWitness_X9_isIn : GoodIn wsX9_isWitness wsX9_isIn := goodIn_r _ [5] (by decide +kernel) (by decide +kernel)
set_option maxRecDepth 20000 in
theorem gX9_isWitness_X9_isIn : GoodIn wsX9_isWitness (va_wsS RX9 42 yX9_isIn wsX9_isIn) := goodIn_app (goodIn_of _ (by decide +kernel)) ggX9_isWitness_X9_isIn
theorem dX9_isWitness_0 : decode cX9_isWitness 0 = .ok (.iload_n 1, 1) := by decide +kernel
theorem dX9_isWitness_1 : decode cX9_isWitness 1 = .ok (.iconst 0, 1) := by decide +kernel
theorem dX9_isWitness_2 : decode cX9_isWitness 2 = .ok (.aload_n 0, 1) := by decide +kernel
theorem dX9_isWitness_3 : decode cX9_isWitness 3 = .ok (.getfield 7, 3) := by decide +kernel
theorem dX9_isWitness_6 : decode cX9_isWitness 6 = .ok (.iconst 4, 1) := by decide +kernel
theorem dX9_isWitness_7 : decode cX9_isWitness 7 = .ok (.iaload, 1) := by decide +kernel
theorem dX9_isWitness_8 : decode cX9_isWitness 8 = .ok (.iconst 1, 1) := by decide +kernel
theorem dX9_isWitness_9 : decode cX9_isWitness 9 = .ok (.isub, 1) := by decide +kernel
theorem dX9_isWitness_10 : decode cX9_isWitness 10 = .ok (.invokestatic 42, 3) := by decide +kernel
theorem dX9_isWitness_13 : decode cX9_isWitness 13 = .ok (.ireturn, 1) := by decide +kernel
theorem dX9_ofW_0 : decode cX9_ofW 0 = .ok (.aload_n 0, 1) := by decide +kernel
theorem dX9_ofW_1 : decode cX9_ofW 1 = .ok (.getfield 7, 3) := by decide +kernel
theorem dX9_ofW_4 : decode cX9_ofW 4 = .ok (.sipush 6012, 3) := by decide +kernel
theorem dX9_ofW_7 : decode cX9_ofW 7 = .ok (.iconst 3, 1) := by decide +kernel
theorem dX9_ofW_8 : decode cX9_ofW 8 = .ok (.iload_n 1, 1) := by decide +kernel
theorem dX9_ofW_9 : decode cX9_ofW 9 = .ok (.imul, 1) := by decide +kernel
theorem dX9_ofW_10 : decode cX9_ofW 10 = .ok (.iadd, 1) := by decide +kernel
theorem dX9_ofW_11 : decode cX9_ofW 11 = .ok (.iload_n 2, 1) := by decide +kernel
theorem dX9_ofW_12 : decode cX9_ofW 12 = .ok (.iadd, 1) := by decide +kernel
theorem dX9_ofW_13 : decode cX9_ofW 13 = .ok (.iaload, 1) := by decide +kernel
theorem dX9_ofW_14 : decode cX9_ofW 14 = .ok (.ireturn, 1) := by decide +kernel
set_option maxRecDepth 20000 in
theorem ggX9_sees_X9_ofW : GoodIn wsX9_sees wsX9_ofW := goodIn_r _ [5, 6, 11, 12, 13, 14, 15, 16, 17, 18, 19, 20, 21, 22] (by decide +kernel) (by decide +kernel)
set_option maxRecDepth 20000 in
theorem gX9_sees_X9_ofW : GoodIn wsX9_sees (wsV RX9 157 RX9 yX9_ofW wsX9_ofW) := goodIn_app (goodIn_of _ (by decide +kernel)) ggX9_sees_X9_ofW
set_option maxRecDepth 20000 in
theorem ggX9_sees_X9_ofS : GoodIn wsX9_sees wsX9_ofS := goodIn_r _ [10, 6, 11, 12, 13, 14, 15, 16, 17, 18, 19, 20, 21, 22] (by decide +kernel) (by decide +kernel)
set_option maxRecDepth 20000 in
theorem gX9_sees_X9_ofS : GoodIn wsX9_sees (wsV RX9 154 RX9 yX9_ofS wsX9_ofS) := goodIn_app (goodIn_of _ (by decide +kernel)) ggX9_sees_X9_ofS
theorem dX9_sees_0 : decode cX9_sees 0 = .ok (.iconst 0, 1) := by decide +kernel
theorem dX9_sees_1 : decode cX9_sees 1 = .ok (.istore_n 3, 1) := by decide +kernel
theorem dX9_sees_2 : decode cX9_sees 2 = .ok (.aload_n 0, 1) := by decide +kernel
theorem dX9_sees_3 : decode cX9_sees 3 = .ok (.iload_n 1, 1) := by decide +kernel
theorem dX9_sees_4 : decode cX9_sees 4 = .ok (.iconst 1, 1) := by decide +kernel
theorem dX9_sees_5 : decode cX9_sees 5 = .ok (.invokevirtual 157, 3) := by decide +kernel
theorem dX9_sees_8 : decode cX9_sees 8 = .ok (.istore 4, 2) := by decide +kernel
theorem dX9_sees_10 : decode cX9_sees 10 = .ok (.iload 4, 2) := by decide +kernel
theorem dX9_sees_12 : decode cX9_sees 12 = .ok (.aload_n 0, 1) := by decide +kernel
theorem dX9_sees_13 : decode cX9_sees 13 = .ok (.iload_n 1, 1) := by decide +kernel
theorem dX9_sees_14 : decode cX9_sees 14 = .ok (.iconst 2, 1) := by decide +kernel
theorem dX9_sees_15 : decode cX9_sees 15 = .ok (.invokevirtual 157, 3) := by decide +kernel
theorem dX9_sees_18 : decode cX9_sees 18 = .ok (.if_icmp .ge 50, 3) := by decide +kernel
theorem dX9_sees_21 : decode cX9_sees 21 = .ok (.aload_n 0, 1) := by decide +kernel
theorem dX9_sees_22 : decode cX9_sees 22 = .ok (.aload_n 0, 1) := by decide +kernel
theorem dX9_sees_23 : decode cX9_sees 23 = .ok (.iload_n 1, 1) := by decide +kernel
theorem dX9_sees_24 : decode cX9_sees 24 = .ok (.iconst 0, 1) := by decide +kernel
theorem dX9_sees_25 : decode cX9_sees 25 = .ok (.invokevirtual 157, 3) := by decide +kernel
theorem dX9_sees_28 : decode cX9_sees 28 = .ok (.bipush 8, 2) := by decide +kernel
theorem dX9_sees_30 : decode cX9_sees 30 = .ok (.iload 4, 2) := by decide +kernel
theorem dX9_sees_32 : decode cX9_sees 32 = .ok (.iadd, 1) := by decide +kernel
theorem dX9_sees_33 : decode cX9_sees 33 = .ok (.invokevirtual 154, 3) := by decide +kernel
theorem dX9_sees_36 : decode cX9_sees 36 = .ok (.istore 5, 2) := by decide +kernel
theorem dX9_sees_38 : decode cX9_sees 38 = .ok (.iload_n 3, 1) := by decide +kernel
theorem dX9_sees_39 : decode cX9_sees 39 = .ok (.iload 5, 2) := by decide +kernel
theorem dX9_sees_41 : decode cX9_sees 41 = .ok (.bipush (-5), 2) := by decide +kernel
theorem dX9_sees_43 : decode cX9_sees 43 = .ok (.if_icmp .eq 16, 3) := by decide +kernel
theorem dX9_sees_46 : decode cX9_sees 46 = .ok (.iload 5, 2) := by decide +kernel
theorem dX9_sees_48 : decode cX9_sees 48 = .ok (.bipush 100, 2) := by decide +kernel
theorem dX9_sees_50 : decode cX9_sees 50 = .ok (.idiv, 1) := by decide +kernel
theorem dX9_sees_51 : decode cX9_sees 51 = .ok (.iload_n 2, 1) := by decide +kernel
theorem dX9_sees_52 : decode cX9_sees 52 = .ok (.if_icmp .ne 7, 3) := by decide +kernel
theorem dX9_sees_55 : decode cX9_sees 55 = .ok (.iconst 1, 1) := by decide +kernel
theorem dX9_sees_56 : decode cX9_sees 56 = .ok (.goto 4, 3) := by decide +kernel
theorem dX9_sees_59 : decode cX9_sees 59 = .ok (.iconst 0, 1) := by decide +kernel
theorem dX9_sees_60 : decode cX9_sees 60 = .ok (.iadd, 1) := by decide +kernel
theorem dX9_sees_61 : decode cX9_sees 61 = .ok (.istore_n 3, 1) := by decide +kernel
theorem dX9_sees_62 : decode cX9_sees 62 = .ok (.iinc 4 1, 3) := by decide +kernel
theorem dX9_sees_65 : decode cX9_sees 65 = .ok (.goto (-55), 3) := by decide +kernel
theorem dX9_sees_68 : decode cX9_sees 68 = .ok (.iload_n 3, 1) := by decide +kernel
theorem dX9_sees_69 : decode cX9_sees 69 = .ok (.ireturn, 1) := by decide +kernel
set_option maxRecDepth 20000 in
theorem ggX9_scenesBy_X9_sees : GoodIn wsX9_scenesBy wsX9_sees := goodIn_r _ [5, 6, 7, 8, 4, 9, 10, 11, 12, 13, 14, 15, 16, 17, 18, 19, 20, 21, 22, 23, 24, 25, 26] (by decide +kernel) (by decide +kernel)
set_option maxRecDepth 20000 in
theorem gX9_scenesBy_X9_sees : GoodIn wsX9_scenesBy (wsV RX9 160 RX9 yX9_sees wsX9_sees) := goodIn_app (goodIn_of _ (by decide +kernel)) ggX9_scenesBy_X9_sees
theorem dX9_scenesBy_0 : decode cX9_scenesBy 0 = .ok (.iconst 0, 1) := by decide +kernel
theorem dX9_scenesBy_1 : decode cX9_scenesBy 1 = .ok (.istore_n 2, 1) := by decide +kernel
theorem dX9_scenesBy_2 : decode cX9_scenesBy 2 = .ok (.iconst 0, 1) := by decide +kernel
theorem dX9_scenesBy_3 : decode cX9_scenesBy 3 = .ok (.istore_n 3, 1) := by decide +kernel
theorem dX9_scenesBy_4 : decode cX9_scenesBy 4 = .ok (.iload_n 3, 1) := by decide +kernel
theorem dX9_scenesBy_5 : decode cX9_scenesBy 5 = .ok (.bipush 12, 2) := by decide +kernel
theorem dX9_scenesBy_7 : decode cX9_scenesBy 7 = .ok (.if_icmp .ge 28, 3) := by decide +kernel
theorem dX9_scenesBy_10 : decode cX9_scenesBy 10 = .ok (.iload_n 2, 1) := by decide +kernel
theorem dX9_scenesBy_11 : decode cX9_scenesBy 11 = .ok (.aload_n 0, 1) := by decide +kernel
theorem dX9_scenesBy_12 : decode cX9_scenesBy 12 = .ok (.iload_n 1, 1) := by decide +kernel
theorem dX9_scenesBy_13 : decode cX9_scenesBy 13 = .ok (.iload_n 3, 1) := by decide +kernel
theorem dX9_scenesBy_14 : decode cX9_scenesBy 14 = .ok (.invokevirtual 160, 3) := by decide +kernel
theorem dX9_scenesBy_17 : decode cX9_scenesBy 17 = .ok (.ifCond .le 9, 3) := by decide +kernel
theorem dX9_scenesBy_20 : decode cX9_scenesBy 20 = .ok (.iconst 1, 1) := by decide +kernel
theorem dX9_scenesBy_21 : decode cX9_scenesBy 21 = .ok (.iload_n 3, 1) := by decide +kernel
theorem dX9_scenesBy_22 : decode cX9_scenesBy 22 = .ok (.ishl, 1) := by decide +kernel
theorem dX9_scenesBy_23 : decode cX9_scenesBy 23 = .ok (.goto 4, 3) := by decide +kernel
theorem dX9_scenesBy_26 : decode cX9_scenesBy 26 = .ok (.iconst 0, 1) := by decide +kernel
theorem dX9_scenesBy_27 : decode cX9_scenesBy 27 = .ok (.ior, 1) := by decide +kernel
theorem dX9_scenesBy_28 : decode cX9_scenesBy 28 = .ok (.istore_n 2, 1) := by decide +kernel
theorem dX9_scenesBy_29 : decode cX9_scenesBy 29 = .ok (.iinc 3 1, 3) := by decide +kernel
theorem dX9_scenesBy_32 : decode cX9_scenesBy 32 = .ok (.goto (-28), 3) := by decide +kernel
theorem dX9_scenesBy_35 : decode cX9_scenesBy 35 = .ok (.iload_n 2, 1) := by decide +kernel
theorem dX9_scenesBy_36 : decode cX9_scenesBy 36 = .ok (.ireturn, 1) := by decide +kernel
set_option maxRecDepth 20000 in
theorem ggX9_framesBy_X9_sees : GoodIn wsX9_framesBy wsX9_sees := goodIn_r _ [5, 6, 7, 8, 4, 9, 10, 11, 12, 13, 14, 15, 16, 17, 18, 19, 20, 21, 22, 23, 24, 25, 26] (by decide +kernel) (by decide +kernel)
set_option maxRecDepth 20000 in
theorem gX9_framesBy_X9_sees : GoodIn wsX9_framesBy (wsV RX9 160 RX9 yX9_sees wsX9_sees) := goodIn_app (goodIn_of _ (by decide +kernel)) ggX9_framesBy_X9_sees
theorem dX9_framesBy_0 : decode cX9_framesBy 0 = .ok (.iconst 0, 1) := by decide +kernel
theorem dX9_framesBy_1 : decode cX9_framesBy 1 = .ok (.istore_n 2, 1) := by decide +kernel
theorem dX9_framesBy_2 : decode cX9_framesBy 2 = .ok (.iconst 0, 1) := by decide +kernel
theorem dX9_framesBy_3 : decode cX9_framesBy 3 = .ok (.istore_n 3, 1) := by decide +kernel
theorem dX9_framesBy_4 : decode cX9_framesBy 4 = .ok (.iload_n 3, 1) := by decide +kernel
theorem dX9_framesBy_5 : decode cX9_framesBy 5 = .ok (.bipush 12, 2) := by decide +kernel
theorem dX9_framesBy_7 : decode cX9_framesBy 7 = .ok (.if_icmp .ge 18, 3) := by decide +kernel
theorem dX9_framesBy_10 : decode cX9_framesBy 10 = .ok (.iload_n 2, 1) := by decide +kernel
theorem dX9_framesBy_11 : decode cX9_framesBy 11 = .ok (.aload_n 0, 1) := by decide +kernel
theorem dX9_framesBy_12 : decode cX9_framesBy 12 = .ok (.iload_n 1, 1) := by decide +kernel
theorem dX9_framesBy_13 : decode cX9_framesBy 13 = .ok (.iload_n 3, 1) := by decide +kernel
theorem dX9_framesBy_14 : decode cX9_framesBy 14 = .ok (.invokevirtual 160, 3) := by decide +kernel
theorem dX9_framesBy_17 : decode cX9_framesBy 17 = .ok (.iadd, 1) := by decide +kernel
theorem dX9_framesBy_18 : decode cX9_framesBy 18 = .ok (.istore_n 2, 1) := by decide +kernel
theorem dX9_framesBy_19 : decode cX9_framesBy 19 = .ok (.iinc 3 1, 3) := by decide +kernel
theorem dX9_framesBy_22 : decode cX9_framesBy 22 = .ok (.goto (-18), 3) := by decide +kernel
theorem dX9_framesBy_25 : decode cX9_framesBy 25 = .ok (.iload_n 2, 1) := by decide +kernel
theorem dX9_framesBy_26 : decode cX9_framesBy 26 = .ok (.ireturn, 1) := by decide +kernel
set_option maxRecDepth 20000 in
theorem ggX9_witness_X9_isWitness : GoodIn wsX9_witness wsX9_isWitness := goodIn_r _ [5, 6, 7, 8, 4, 9, 30, 31, 32, 33, 34, 35, 36, 37, 38, 39, 40, 41] (by decide +kernel) (by decide +kernel)
set_option maxRecDepth 20000 in
theorem gX9_witness_X9_isWitness : GoodIn wsX9_witness (wsV RX9 163 RX9 yX9_isWitness wsX9_isWitness) := goodIn_app (goodIn_of _ (by decide +kernel)) ggX9_witness_X9_isWitness
set_option maxRecDepth 20000 in
theorem ggX9_witness_X9_ofW : GoodIn wsX9_witness wsX9_ofW := goodIn_r _ [13, 6, 30, 31, 32, 33, 34, 35, 36, 37, 38, 39, 40, 41] (by decide +kernel) (by decide +kernel)
set_option maxRecDepth 20000 in
theorem gX9_witness_X9_ofW : GoodIn wsX9_witness (wsV RX9 157 RX9 yX9_ofW wsX9_ofW) := goodIn_app (goodIn_of _ (by decide +kernel)) ggX9_witness_X9_ofW
set_option maxRecDepth 20000 in
theorem ggX9_witness_X9_framesBy : GoodIn wsX9_witness wsX9_framesBy := goodIn_r _ [17, 18, 19, 20, 4, 21, 10, 11, 12, 13, 6, 22, 23, 24, 25, 30, 31, 32, 33, 34, 35, 36, 37, 38, 39, 40, 41] (by decide +kernel) (by decide +kernel)
set_option maxRecDepth 20000 in
theorem gX9_witness_X9_framesBy : GoodIn wsX9_witness (wsV RX9 166 RX9 yX9_framesBy wsX9_framesBy) := goodIn_app (goodIn_of _ (by decide +kernel)) ggX9_witness_X9_framesBy
set_option maxRecDepth 20000 in
theorem ggX9_witness_X9_scenesBy : GoodIn wsX9_witness wsX9_scenesBy := goodIn_r _ [29, 18, 19, 20, 4, 21, 10, 11, 12, 13, 6, 22, 23, 24, 25, 30, 31, 32, 33, 34, 35, 36, 37, 38, 39, 40, 41] (by decide +kernel) (by decide +kernel)
set_option maxRecDepth 20000 in
theorem gX9_witness_X9_scenesBy : GoodIn wsX9_witness (wsV RX9 169 RX9 yX9_scenesBy wsX9_scenesBy) := goodIn_app (goodIn_of _ (by decide +kernel)) ggX9_witness_X9_scenesBy
theorem dX9_witness_0 : decode cX9_witness 0 = .ok (.aload_n 0, 1) := by decide +kernel
theorem dX9_witness_1 : decode cX9_witness 1 = .ok (.iload_n 1, 1) := by decide +kernel
theorem dX9_witness_2 : decode cX9_witness 2 = .ok (.invokevirtual 163, 3) := by decide +kernel
theorem dX9_witness_5 : decode cX9_witness 5 = .ok (.ifCond .ne 5, 3) := by decide +kernel
theorem dX9_witness_8 : decode cX9_witness 8 = .ok (.iconst (-1), 1) := by decide +kernel
theorem dX9_witness_9 : decode cX9_witness 9 = .ok (.ireturn, 1) := by decide +kernel
theorem dX9_witness_10 : decode cX9_witness 10 = .ok (.iload_n 2, 1) := by decide +kernel
theorem dX9_witness_11 : decode cX9_witness 11 = .ok (.tableswitch 76 0 5 #[37, 37, 37, 44, 50, 70], 37) := by decide +kernel
theorem dX9_witness_48 : decode cX9_witness 48 = .ok (.aload_n 0, 1) := by decide +kernel
theorem dX9_witness_49 : decode cX9_witness 49 = .ok (.iload_n 1, 1) := by decide +kernel
theorem dX9_witness_50 : decode cX9_witness 50 = .ok (.iload_n 2, 1) := by decide +kernel
theorem dX9_witness_51 : decode cX9_witness 51 = .ok (.invokevirtual 157, 3) := by decide +kernel
theorem dX9_witness_54 : decode cX9_witness 54 = .ok (.ireturn, 1) := by decide +kernel
theorem dX9_witness_55 : decode cX9_witness 55 = .ok (.aload_n 0, 1) := by decide +kernel
theorem dX9_witness_56 : decode cX9_witness 56 = .ok (.iload_n 1, 1) := by decide +kernel
theorem dX9_witness_57 : decode cX9_witness 57 = .ok (.invokevirtual 166, 3) := by decide +kernel
theorem dX9_witness_60 : decode cX9_witness 60 = .ok (.ireturn, 1) := by decide +kernel
theorem dX9_witness_61 : decode cX9_witness 61 = .ok (.aload_n 0, 1) := by decide +kernel
theorem dX9_witness_62 : decode cX9_witness 62 = .ok (.iload_n 1, 1) := by decide +kernel
theorem dX9_witness_63 : decode cX9_witness 63 = .ok (.iconst 2, 1) := by decide +kernel
theorem dX9_witness_64 : decode cX9_witness 64 = .ok (.invokevirtual 157, 3) := by decide +kernel
theorem dX9_witness_67 : decode cX9_witness 67 = .ok (.aload_n 0, 1) := by decide +kernel
theorem dX9_witness_68 : decode cX9_witness 68 = .ok (.iload_n 1, 1) := by decide +kernel
theorem dX9_witness_69 : decode cX9_witness 69 = .ok (.iconst 1, 1) := by decide +kernel
theorem dX9_witness_70 : decode cX9_witness 70 = .ok (.invokevirtual 157, 3) := by decide +kernel
theorem dX9_witness_73 : decode cX9_witness 73 = .ok (.isub, 1) := by decide +kernel
theorem dX9_witness_74 : decode cX9_witness 74 = .ok (.aload_n 0, 1) := by decide +kernel
theorem dX9_witness_75 : decode cX9_witness 75 = .ok (.iload_n 1, 1) := by decide +kernel
theorem dX9_witness_76 : decode cX9_witness 76 = .ok (.invokevirtual 166, 3) := by decide +kernel
theorem dX9_witness_79 : decode cX9_witness 79 = .ok (.isub, 1) := by decide +kernel
theorem dX9_witness_80 : decode cX9_witness 80 = .ok (.ireturn, 1) := by decide +kernel
theorem dX9_witness_81 : decode cX9_witness 81 = .ok (.aload_n 0, 1) := by decide +kernel
theorem dX9_witness_82 : decode cX9_witness 82 = .ok (.iload_n 1, 1) := by decide +kernel
theorem dX9_witness_83 : decode cX9_witness 83 = .ok (.invokevirtual 169, 3) := by decide +kernel
theorem dX9_witness_86 : decode cX9_witness 86 = .ok (.ireturn, 1) := by decide +kernel
theorem dX9_witness_87 : decode cX9_witness 87 = .ok (.bipush (-2), 2) := by decide +kernel
theorem dX9_witness_89 : decode cX9_witness 89 = .ok (.ireturn, 1) := by decide +kernel
set_option maxRecDepth 20000 in
theorem ggX9_saw_X9_isWitness : GoodIn wsX9_saw wsX9_isWitness := goodIn_r _ [5, 6, 7, 8, 4, 9, 26, 27, 28, 29, 30, 31, 32, 33, 34, 35, 36, 37] (by decide +kernel) (by decide +kernel)
set_option maxRecDepth 20000 in
theorem gX9_saw_X9_isWitness : GoodIn wsX9_saw (wsV RX9 163 RX9 yX9_isWitness wsX9_isWitness) := goodIn_app (goodIn_of _ (by decide +kernel)) ggX9_saw_X9_isWitness
set_option maxRecDepth 20000 in
theorem ggX9_saw_X9_isScene : GoodIn wsX9_saw wsX9_isScene := goodIn_r _ [13, 6, 7, 8, 4, 9, 26, 27, 28, 29, 30, 31, 32, 33, 34, 35, 36, 37] (by decide +kernel) (by decide +kernel)
set_option maxRecDepth 20000 in
theorem gX9_saw_X9_isScene : GoodIn wsX9_saw (wsV RX9 46 RX9 yX9_isScene wsX9_isScene) := goodIn_app (goodIn_of _ (by decide +kernel)) ggX9_saw_X9_isScene
set_option maxRecDepth 20000 in
theorem ggX9_saw_X9_sees : GoodIn wsX9_saw wsX9_sees := goodIn_r _ [17, 18, 19, 20, 4, 21, 6, 22, 23, 24, 25, 26, 27, 28, 29, 30, 31, 32, 33, 34, 35, 36, 37] (by decide +kernel) (by decide +kernel)
set_option maxRecDepth 20000 in
theorem gX9_saw_X9_sees : GoodIn wsX9_saw (wsV RX9 160 RX9 yX9_sees wsX9_sees) := goodIn_app (goodIn_of _ (by decide +kernel)) ggX9_saw_X9_sees
theorem dX9_saw_0 : decode cX9_saw 0 = .ok (.aload_n 0, 1) := by decide +kernel
theorem dX9_saw_1 : decode cX9_saw 1 = .ok (.iload_n 1, 1) := by decide +kernel
theorem dX9_saw_2 : decode cX9_saw 2 = .ok (.invokevirtual 163, 3) := by decide +kernel
theorem dX9_saw_5 : decode cX9_saw 5 = .ok (.ifCond .eq 20, 3) := by decide +kernel
theorem dX9_saw_8 : decode cX9_saw 8 = .ok (.aload_n 0, 1) := by decide +kernel
theorem dX9_saw_9 : decode cX9_saw 9 = .ok (.iload_n 2, 1) := by decide +kernel
theorem dX9_saw_10 : decode cX9_saw 10 = .ok (.invokevirtual 46, 3) := by decide +kernel
theorem dX9_saw_13 : decode cX9_saw 13 = .ok (.ifCond .eq 12, 3) := by decide +kernel
theorem dX9_saw_16 : decode cX9_saw 16 = .ok (.aload_n 0, 1) := by decide +kernel
theorem dX9_saw_17 : decode cX9_saw 17 = .ok (.iload_n 1, 1) := by decide +kernel
theorem dX9_saw_18 : decode cX9_saw 18 = .ok (.iload_n 2, 1) := by decide +kernel
theorem dX9_saw_19 : decode cX9_saw 19 = .ok (.invokevirtual 160, 3) := by decide +kernel
theorem dX9_saw_22 : decode cX9_saw 22 = .ok (.goto 4, 3) := by decide +kernel
theorem dX9_saw_25 : decode cX9_saw 25 = .ok (.iconst (-1), 1) := by decide +kernel
theorem dX9_saw_26 : decode cX9_saw 26 = .ok (.ireturn, 1) := by decide +kernel
set_option maxRecDepth 20000 in
theorem ggX9_differ_X9_isWitness : GoodIn wsX9_differ wsX9_isWitness := goodIn_r _ [5, 6, 7, 8, 4, 9, 29, 30, 31, 32, 33, 34, 35, 36, 37, 38, 39, 40] (by decide +kernel) (by decide +kernel)
set_option maxRecDepth 20000 in
theorem gX9_differ_X9_isWitness : GoodIn wsX9_differ (wsV RX9 163 RX9 yX9_isWitness wsX9_isWitness) := goodIn_app (goodIn_of _ (by decide +kernel)) ggX9_differ_X9_isWitness
set_option maxRecDepth 20000 in
theorem ggX9_differ_X9_ofW : GoodIn wsX9_differ wsX9_ofW := goodIn_r _ [13, 6, 29, 30, 31, 32, 33, 34, 35, 36, 37, 38, 39, 40] (by decide +kernel) (by decide +kernel)
set_option maxRecDepth 20000 in
theorem gX9_differ_X9_ofW : GoodIn wsX9_differ (wsV RX9 157 RX9 yX9_ofW wsX9_ofW) := goodIn_app (goodIn_of _ (by decide +kernel)) ggX9_differ_X9_ofW
set_option maxRecDepth 20000 in
theorem ggX9_differ_X9_scenesBy : GoodIn wsX9_differ wsX9_scenesBy := goodIn_r _ [17, 18, 19, 20, 4, 21, 10, 11, 12, 13, 6, 22, 23, 24, 25, 29, 30, 31, 32, 33, 34, 35, 36, 37, 38, 39, 40] (by decide +kernel) (by decide +kernel)
set_option maxRecDepth 20000 in
theorem gX9_differ_X9_scenesBy : GoodIn wsX9_differ (wsV RX9 169 RX9 yX9_scenesBy wsX9_scenesBy) := goodIn_app (goodIn_of _ (by decide +kernel)) ggX9_differ_X9_scenesBy
set_option maxRecDepth 20000 in
theorem ggX9_differ_X9_ones : GoodIn wsX9_differ wsX9_ones := goodIn_r _ [28] (by decide +kernel) (by decide +kernel)
set_option maxRecDepth 20000 in
theorem gX9_differ_X9_ones : GoodIn wsX9_differ (va_wsS RX9 67 yX9_ones wsX9_ones) := goodIn_app (goodIn_of _ (by decide +kernel)) ggX9_differ_X9_ones
theorem dX9_differ_0 : decode cX9_differ 0 = .ok (.aload_n 0, 1) := by decide +kernel
theorem dX9_differ_1 : decode cX9_differ 1 = .ok (.iload_n 1, 1) := by decide +kernel
theorem dX9_differ_2 : decode cX9_differ 2 = .ok (.invokevirtual 163, 3) := by decide +kernel
theorem dX9_differ_5 : decode cX9_differ 5 = .ok (.ifCond .eq 11, 3) := by decide +kernel
theorem dX9_differ_8 : decode cX9_differ 8 = .ok (.aload_n 0, 1) := by decide +kernel
theorem dX9_differ_9 : decode cX9_differ 9 = .ok (.iload_n 2, 1) := by decide +kernel
theorem dX9_differ_10 : decode cX9_differ 10 = .ok (.invokevirtual 163, 3) := by decide +kernel
theorem dX9_differ_13 : decode cX9_differ 13 = .ok (.ifCond .ne 5, 3) := by decide +kernel
theorem dX9_differ_16 : decode cX9_differ 16 = .ok (.iconst (-1), 1) := by decide +kernel
theorem dX9_differ_17 : decode cX9_differ 17 = .ok (.ireturn, 1) := by decide +kernel
theorem dX9_differ_18 : decode cX9_differ 18 = .ok (.aload_n 0, 1) := by decide +kernel
theorem dX9_differ_19 : decode cX9_differ 19 = .ok (.iload_n 1, 1) := by decide +kernel
theorem dX9_differ_20 : decode cX9_differ 20 = .ok (.iconst 0, 1) := by decide +kernel
theorem dX9_differ_21 : decode cX9_differ 21 = .ok (.invokevirtual 157, 3) := by decide +kernel
theorem dX9_differ_24 : decode cX9_differ 24 = .ok (.aload_n 0, 1) := by decide +kernel
theorem dX9_differ_25 : decode cX9_differ 25 = .ok (.iload_n 2, 1) := by decide +kernel
theorem dX9_differ_26 : decode cX9_differ 26 = .ok (.iconst 0, 1) := by decide +kernel
theorem dX9_differ_27 : decode cX9_differ 27 = .ok (.invokevirtual 157, 3) := by decide +kernel
theorem dX9_differ_30 : decode cX9_differ 30 = .ok (.if_icmp .ne 20, 3) := by decide +kernel
theorem dX9_differ_33 : decode cX9_differ 33 = .ok (.aload_n 0, 1) := by decide +kernel
theorem dX9_differ_34 : decode cX9_differ 34 = .ok (.iload_n 1, 1) := by decide +kernel
theorem dX9_differ_35 : decode cX9_differ 35 = .ok (.invokevirtual 169, 3) := by decide +kernel
theorem dX9_differ_38 : decode cX9_differ 38 = .ok (.aload_n 0, 1) := by decide +kernel
theorem dX9_differ_39 : decode cX9_differ 39 = .ok (.iload_n 2, 1) := by decide +kernel
theorem dX9_differ_40 : decode cX9_differ 40 = .ok (.invokevirtual 169, 3) := by decide +kernel
theorem dX9_differ_43 : decode cX9_differ 43 = .ok (.ixor, 1) := by decide +kernel
theorem dX9_differ_44 : decode cX9_differ 44 = .ok (.invokestatic 67, 3) := by decide +kernel
theorem dX9_differ_47 : decode cX9_differ 47 = .ok (.goto 5, 3) := by decide +kernel
theorem dX9_differ_50 : decode cX9_differ 50 = .ok (.bipush (-4), 2) := by decide +kernel
theorem dX9_differ_52 : decode cX9_differ 52 = .ok (.ireturn, 1) := by decide +kernel
theorem dX9_type_0 : decode cX9_type 0 = .ok (.aload_n 0, 1) := by decide +kernel
theorem dX9_type_1 : decode cX9_type 1 = .ok (.getfield 172, 3) := by decide +kernel
theorem dX9_type_4 : decode cX9_type 4 = .ok (.bipush 60, 2) := by decide +kernel
theorem dX9_type_6 : decode cX9_type 6 = .ok (.if_icmp .ne 6, 3) := by decide +kernel
theorem dX9_type_9 : decode cX9_type 9 = .ok (.bipush (-3), 2) := by decide +kernel
theorem dX9_type_11 : decode cX9_type 11 = .ok (.ireturn, 1) := by decide +kernel
theorem dX9_type_12 : decode cX9_type 12 = .ok (.aload_n 0, 1) := by decide +kernel
theorem dX9_type_13 : decode cX9_type 13 = .ok (.getfield 20, 3) := by decide +kernel
theorem dX9_type_16 : decode cX9_type 16 = .ok (.aload_n 0, 1) := by decide +kernel
theorem dX9_type_17 : decode cX9_type 17 = .ok (.getfield 172, 3) := by decide +kernel
theorem dX9_type_20 : decode cX9_type 20 = .ok (.iload_n 1, 1) := by decide +kernel
theorem dX9_type_21 : decode cX9_type 21 = .ok (.iastore, 1) := by decide +kernel
theorem dX9_type_22 : decode cX9_type 22 = .ok (.aload_n 0, 1) := by decide +kernel
theorem dX9_type_23 : decode cX9_type 23 = .ok (.dup, 1) := by decide +kernel
theorem dX9_type_24 : decode cX9_type 24 = .ok (.getfield 172, 3) := by decide +kernel
theorem dX9_type_27 : decode cX9_type 27 = .ok (.iconst 1, 1) := by decide +kernel
theorem dX9_type_28 : decode cX9_type 28 = .ok (.iadd, 1) := by decide +kernel
theorem dX9_type_29 : decode cX9_type 29 = .ok (.putfield 172, 3) := by decide +kernel
theorem dX9_type_32 : decode cX9_type 32 = .ok (.aload_n 0, 1) := by decide +kernel
theorem dX9_type_33 : decode cX9_type 33 = .ok (.getfield 172, 3) := by decide +kernel
theorem dX9_type_36 : decode cX9_type 36 = .ok (.ireturn, 1) := by decide +kernel
theorem dX9_clearText_0 : decode cX9_clearText 0 = .ok (.aload_n 0, 1) := by decide +kernel
theorem dX9_clearText_1 : decode cX9_clearText 1 = .ok (.getfield 172, 3) := by decide +kernel
theorem dX9_clearText_4 : decode cX9_clearText 4 = .ok (.istore_n 1, 1) := by decide +kernel
theorem dX9_clearText_5 : decode cX9_clearText 5 = .ok (.aload_n 0, 1) := by decide +kernel
theorem dX9_clearText_6 : decode cX9_clearText 6 = .ok (.iconst 0, 1) := by decide +kernel
theorem dX9_clearText_7 : decode cX9_clearText 7 = .ok (.putfield 172, 3) := by decide +kernel
theorem dX9_clearText_10 : decode cX9_clearText 10 = .ok (.iload_n 1, 1) := by decide +kernel
theorem dX9_clearText_11 : decode cX9_clearText 11 = .ok (.ireturn, 1) := by decide +kernel
set_option maxRecDepth 20000 in
theorem ggX9_isHere_X9_isIn : GoodIn wsX9_isHere wsX9_isIn := goodIn_r _ [7] (by decide +kernel) (by decide +kernel)
set_option maxRecDepth 20000 in
theorem gX9_isHere_X9_isIn : GoodIn wsX9_isHere (va_wsS RX9 42 yX9_isIn wsX9_isIn) := goodIn_app (goodIn_of _ (by decide +kernel)) ggX9_isHere_X9_isIn
theorem dX9_isHere_0 : decode cX9_isHere 0 = .ok (.aload_n 0, 1) := by decide +kernel
theorem dX9_isHere_1 : decode cX9_isHere 1 = .ok (.getfield 175, 3) := by decide +kernel
theorem dX9_isHere_4 : decode cX9_isHere 4 = .ok (.aload_n 0, 1) := by decide +kernel
theorem dX9_isHere_5 : decode cX9_isHere 5 = .ok (.getfield 172, 3) := by decide +kernel
theorem dX9_isHere_8 : decode cX9_isHere 8 = .ok (.if_icmp .ge 24, 3) := by decide +kernel
theorem dX9_isHere_11 : decode cX9_isHere 11 = .ok (.aload_n 0, 1) := by decide +kernel
theorem dX9_isHere_12 : decode cX9_isHere 12 = .ok (.getfield 20, 3) := by decide +kernel
theorem dX9_isHere_15 : decode cX9_isHere 15 = .ok (.aload_n 0, 1) := by decide +kernel
theorem dX9_isHere_16 : decode cX9_isHere 16 = .ok (.getfield 175, 3) := by decide +kernel
theorem dX9_isHere_19 : decode cX9_isHere 19 = .ok (.iaload, 1) := by decide +kernel
theorem dX9_isHere_20 : decode cX9_isHere 20 = .ok (.iload_n 1, 1) := by decide +kernel
theorem dX9_isHere_21 : decode cX9_isHere 21 = .ok (.iload_n 2, 1) := by decide +kernel
theorem dX9_isHere_22 : decode cX9_isHere 22 = .ok (.invokestatic 42, 3) := by decide +kernel
theorem dX9_isHere_25 : decode cX9_isHere 25 = .ok (.ifCond .eq 7, 3) := by decide +kernel
theorem dX9_isHere_28 : decode cX9_isHere 28 = .ok (.iconst 1, 1) := by decide +kernel
theorem dX9_isHere_29 : decode cX9_isHere 29 = .ok (.goto 4, 3) := by decide +kernel
theorem dX9_isHere_32 : decode cX9_isHere 32 = .ok (.iconst 0, 1) := by decide +kernel
theorem dX9_isHere_33 : decode cX9_isHere 33 = .ok (.ireturn, 1) := by decide +kernel
set_option maxRecDepth 20000 in
theorem ggX9_passesSign_X9_isHere : GoodIn wsX9_passesSign wsX9_isHere := goodIn_r _ [6, 1, 7, 8, 9, 10, 5, 11, 12, 13, 14, 15, 16, 17, 18, 19, 20, 21, 22, 23] (by decide +kernel) (by decide +kernel)
set_option maxRecDepth 20000 in
theorem gX9_passesSign_X9_isHere : GoodIn wsX9_passesSign (wsV RX9 178 RX9 yX9_isHere wsX9_isHere) := goodIn_app (goodIn_of _ (by decide +kernel)) ggX9_passesSign_X9_isHere
theorem dX9_passesSign_0 : decode cX9_passesSign 0 = .ok (.aload_n 0, 1) := by decide +kernel
theorem dX9_passesSign_1 : decode cX9_passesSign 1 = .ok (.iload_n 1, 1) := by decide +kernel
theorem dX9_passesSign_2 : decode cX9_passesSign 2 = .ok (.iload_n 1, 1) := by decide +kernel
theorem dX9_passesSign_3 : decode cX9_passesSign 3 = .ok (.invokevirtual 178, 3) := by decide +kernel
theorem dX9_passesSign_6 : decode cX9_passesSign 6 = .ok (.istore_n 2, 1) := by decide +kernel
theorem dX9_passesSign_7 : decode cX9_passesSign 7 = .ok (.aload_n 0, 1) := by decide +kernel
theorem dX9_passesSign_8 : decode cX9_passesSign 8 = .ok (.dup, 1) := by decide +kernel
theorem dX9_passesSign_9 : decode cX9_passesSign 9 = .ok (.getfield 175, 3) := by decide +kernel
theorem dX9_passesSign_12 : decode cX9_passesSign 12 = .ok (.iload_n 2, 1) := by decide +kernel
theorem dX9_passesSign_13 : decode cX9_passesSign 13 = .ok (.ifCond .eq 7, 3) := by decide +kernel
theorem dX9_passesSign_16 : decode cX9_passesSign 16 = .ok (.iconst 1, 1) := by decide +kernel
theorem dX9_passesSign_17 : decode cX9_passesSign 17 = .ok (.goto 4, 3) := by decide +kernel
theorem dX9_passesSign_20 : decode cX9_passesSign 20 = .ok (.iconst 0, 1) := by decide +kernel
theorem dX9_passesSign_21 : decode cX9_passesSign 21 = .ok (.iadd, 1) := by decide +kernel
theorem dX9_passesSign_22 : decode cX9_passesSign 22 = .ok (.putfield 175, 3) := by decide +kernel
theorem dX9_passesSign_25 : decode cX9_passesSign 25 = .ok (.iload_n 2, 1) := by decide +kernel
theorem dX9_passesSign_26 : decode cX9_passesSign 26 = .ok (.ireturn, 1) := by decide +kernel
set_option maxRecDepth 20000 in
theorem ggX9_passesNumber_X9_isHere : GoodIn wsX9_passesNumber wsX9_isHere := goodIn_r _ [8, 2, 9, 1, 10, 11, 7, 12, 13, 14, 15, 16, 17, 18, 19, 20, 21, 22, 23, 24] (by decide +kernel) (by decide +kernel)
set_option maxRecDepth 20000 in
theorem gX9_passesNumber_X9_isHere : GoodIn wsX9_passesNumber (wsV RX9 178 RX9 yX9_isHere wsX9_isHere) := goodIn_app (goodIn_of _ (by decide +kernel)) ggX9_passesNumber_X9_isHere
theorem dX9_passesNumber_0 : decode cX9_passesNumber 0 = .ok (.aload_n 0, 1) := by decide +kernel
theorem dX9_passesNumber_1 : decode cX9_passesNumber 1 = .ok (.bipush 48, 2) := by decide +kernel
theorem dX9_passesNumber_3 : decode cX9_passesNumber 3 = .ok (.bipush 57, 2) := by decide +kernel
theorem dX9_passesNumber_5 : decode cX9_passesNumber 5 = .ok (.invokevirtual 178, 3) := by decide +kernel
theorem dX9_passesNumber_8 : decode cX9_passesNumber 8 = .ok (.ifCond .ne 5, 3) := by decide +kernel
theorem dX9_passesNumber_11 : decode cX9_passesNumber 11 = .ok (.iconst 0, 1) := by decide +kernel
theorem dX9_passesNumber_12 : decode cX9_passesNumber 12 = .ok (.ireturn, 1) := by decide +kernel
theorem dX9_passesNumber_13 : decode cX9_passesNumber 13 = .ok (.aload_n 0, 1) := by decide +kernel
theorem dX9_passesNumber_14 : decode cX9_passesNumber 14 = .ok (.getfield 20, 3) := by decide +kernel
theorem dX9_passesNumber_17 : decode cX9_passesNumber 17 = .ok (.aload_n 0, 1) := by decide +kernel
theorem dX9_passesNumber_18 : decode cX9_passesNumber 18 = .ok (.getfield 175, 3) := by decide +kernel
theorem dX9_passesNumber_21 : decode cX9_passesNumber 21 = .ok (.iaload, 1) := by decide +kernel
theorem dX9_passesNumber_22 : decode cX9_passesNumber 22 = .ok (.bipush 48, 2) := by decide +kernel
theorem dX9_passesNumber_24 : decode cX9_passesNumber 24 = .ok (.isub, 1) := by decide +kernel
theorem dX9_passesNumber_25 : decode cX9_passesNumber 25 = .ok (.istore_n 1, 1) := by decide +kernel
theorem dX9_passesNumber_26 : decode cX9_passesNumber 26 = .ok (.aload_n 0, 1) := by decide +kernel
theorem dX9_passesNumber_27 : decode cX9_passesNumber 27 = .ok (.dup, 1) := by decide +kernel
theorem dX9_passesNumber_28 : decode cX9_passesNumber 28 = .ok (.getfield 175, 3) := by decide +kernel
theorem dX9_passesNumber_31 : decode cX9_passesNumber 31 = .ok (.iconst 1, 1) := by decide +kernel
theorem dX9_passesNumber_32 : decode cX9_passesNumber 32 = .ok (.iadd, 1) := by decide +kernel
theorem dX9_passesNumber_33 : decode cX9_passesNumber 33 = .ok (.putfield 175, 3) := by decide +kernel
theorem dX9_passesNumber_36 : decode cX9_passesNumber 36 = .ok (.iconst 1, 1) := by decide +kernel
theorem dX9_passesNumber_37 : decode cX9_passesNumber 37 = .ok (.istore_n 2, 1) := by decide +kernel
theorem dX9_passesNumber_38 : decode cX9_passesNumber 38 = .ok (.iload_n 2, 1) := by decide +kernel
theorem dX9_passesNumber_39 : decode cX9_passesNumber 39 = .ok (.iconst 3, 1) := by decide +kernel
theorem dX9_passesNumber_40 : decode cX9_passesNumber 40 = .ok (.if_icmp .ge 52, 3) := by decide +kernel
theorem dX9_passesNumber_43 : decode cX9_passesNumber 43 = .ok (.iload_n 1, 1) := by decide +kernel
theorem dX9_passesNumber_44 : decode cX9_passesNumber 44 = .ok (.ifCond .le 48, 3) := by decide +kernel
theorem dX9_passesNumber_47 : decode cX9_passesNumber 47 = .ok (.aload_n 0, 1) := by decide +kernel
theorem dX9_passesNumber_48 : decode cX9_passesNumber 48 = .ok (.bipush 48, 2) := by decide +kernel
theorem dX9_passesNumber_50 : decode cX9_passesNumber 50 = .ok (.bipush 57, 2) := by decide +kernel
theorem dX9_passesNumber_52 : decode cX9_passesNumber 52 = .ok (.invokevirtual 178, 3) := by decide +kernel
theorem dX9_passesNumber_55 : decode cX9_passesNumber 55 = .ok (.ifCond .eq 37, 3) := by decide +kernel
theorem dX9_passesNumber_58 : decode cX9_passesNumber 58 = .ok (.bipush 10, 2) := by decide +kernel
theorem dX9_passesNumber_60 : decode cX9_passesNumber 60 = .ok (.iload_n 1, 1) := by decide +kernel
theorem dX9_passesNumber_61 : decode cX9_passesNumber 61 = .ok (.imul, 1) := by decide +kernel
theorem dX9_passesNumber_62 : decode cX9_passesNumber 62 = .ok (.aload_n 0, 1) := by decide +kernel
theorem dX9_passesNumber_63 : decode cX9_passesNumber 63 = .ok (.getfield 20, 3) := by decide +kernel
theorem dX9_passesNumber_66 : decode cX9_passesNumber 66 = .ok (.aload_n 0, 1) := by decide +kernel
theorem dX9_passesNumber_67 : decode cX9_passesNumber 67 = .ok (.getfield 175, 3) := by decide +kernel
theorem dX9_passesNumber_70 : decode cX9_passesNumber 70 = .ok (.iaload, 1) := by decide +kernel
theorem dX9_passesNumber_71 : decode cX9_passesNumber 71 = .ok (.iadd, 1) := by decide +kernel
theorem dX9_passesNumber_72 : decode cX9_passesNumber 72 = .ok (.bipush 48, 2) := by decide +kernel
theorem dX9_passesNumber_74 : decode cX9_passesNumber 74 = .ok (.isub, 1) := by decide +kernel
theorem dX9_passesNumber_75 : decode cX9_passesNumber 75 = .ok (.istore_n 1, 1) := by decide +kernel
theorem dX9_passesNumber_76 : decode cX9_passesNumber 76 = .ok (.aload_n 0, 1) := by decide +kernel
theorem dX9_passesNumber_77 : decode cX9_passesNumber 77 = .ok (.dup, 1) := by decide +kernel
theorem dX9_passesNumber_78 : decode cX9_passesNumber 78 = .ok (.getfield 175, 3) := by decide +kernel
theorem dX9_passesNumber_81 : decode cX9_passesNumber 81 = .ok (.iconst 1, 1) := by decide +kernel
theorem dX9_passesNumber_82 : decode cX9_passesNumber 82 = .ok (.iadd, 1) := by decide +kernel
theorem dX9_passesNumber_83 : decode cX9_passesNumber 83 = .ok (.putfield 175, 3) := by decide +kernel
theorem dX9_passesNumber_86 : decode cX9_passesNumber 86 = .ok (.iinc 2 1, 3) := by decide +kernel
theorem dX9_passesNumber_89 : decode cX9_passesNumber 89 = .ok (.goto (-51), 3) := by decide +kernel
theorem dX9_passesNumber_92 : decode cX9_passesNumber 92 = .ok (.aload_n 0, 1) := by decide +kernel
theorem dX9_passesNumber_93 : decode cX9_passesNumber 93 = .ok (.iload_n 1, 1) := by decide +kernel
theorem dX9_passesNumber_94 : decode cX9_passesNumber 94 = .ok (.putfield 181, 3) := by decide +kernel
theorem dX9_passesNumber_97 : decode cX9_passesNumber 97 = .ok (.iconst 1, 1) := by decide +kernel
theorem dX9_passesNumber_98 : decode cX9_passesNumber 98 = .ok (.ireturn, 1) := by decide +kernel
set_option maxRecDepth 20000 in
theorem ggX9_passesEdit_X9_passesNumber : GoodIn wsX9_passesEdit wsX9_passesNumber := goodIn_r _ [12, 3, 1, 5, 13, 14, 15, 11, 16, 2, 17, 18, 19, 24, 25, 26, 27, 28, 29, 30, 31, 32, 33, 34, 35] (by decide +kernel) (by decide +kernel)
set_option maxRecDepth 20000 in
theorem gX9_passesEdit_X9_passesNumber : GoodIn wsX9_passesEdit (wsV RX9 187 RX9 yX9_passesNumber wsX9_passesNumber) := goodIn_app (goodIn_of _ (by decide +kernel)) ggX9_passesEdit_X9_passesNumber
set_option maxRecDepth 20000 in
theorem ggX9_passesEdit_X9_passesSign : GoodIn wsX9_passesEdit wsX9_passesSign := goodIn_r _ [23, 1, 13, 14, 15, 11, 16, 2, 3, 17, 18, 19, 24, 25, 26, 27, 28, 29, 30, 31, 32, 33, 34, 35] (by decide +kernel) (by decide +kernel)
set_option maxRecDepth 20000 in
theorem gX9_passesEdit_X9_passesSign : GoodIn wsX9_passesEdit (wsV RX9 194 RX9 yX9_passesSign wsX9_passesSign) := goodIn_app (goodIn_of _ (by decide +kernel)) ggX9_passesEdit_X9_passesSign
theorem dX9_passesEdit_0 : decode cX9_passesEdit 0 = .ok (.aload_n 0, 1) := by decide +kernel
theorem dX9_passesEdit_1 : decode cX9_passesEdit 1 = .ok (.aload_n 0, 1) := by decide +kernel
theorem dX9_passesEdit_2 : decode cX9_passesEdit 2 = .ok (.getfield 175, 3) := by decide +kernel
theorem dX9_passesEdit_5 : decode cX9_passesEdit 5 = .ok (.aload_n 0, 1) := by decide +kernel
theorem dX9_passesEdit_6 : decode cX9_passesEdit 6 = .ok (.getfield 172, 3) := by decide +kernel
theorem dX9_passesEdit_9 : decode cX9_passesEdit 9 = .ok (.if_icmp .ge 15, 3) := by decide +kernel
theorem dX9_passesEdit_12 : decode cX9_passesEdit 12 = .ok (.aload_n 0, 1) := by decide +kernel
theorem dX9_passesEdit_13 : decode cX9_passesEdit 13 = .ok (.getfield 20, 3) := by decide +kernel
theorem dX9_passesEdit_16 : decode cX9_passesEdit 16 = .ok (.aload_n 0, 1) := by decide +kernel
theorem dX9_passesEdit_17 : decode cX9_passesEdit 17 = .ok (.getfield 175, 3) := by decide +kernel
theorem dX9_passesEdit_20 : decode cX9_passesEdit 20 = .ok (.iaload, 1) := by decide +kernel
theorem dX9_passesEdit_21 : decode cX9_passesEdit 21 = .ok (.goto 4, 3) := by decide +kernel
theorem dX9_passesEdit_24 : decode cX9_passesEdit 24 = .ok (.iconst 0, 1) := by decide +kernel
theorem dX9_passesEdit_25 : decode cX9_passesEdit 25 = .ok (.putfield 184, 3) := by decide +kernel
theorem dX9_passesEdit_28 : decode cX9_passesEdit 28 = .ok (.aload_n 0, 1) := by decide +kernel
theorem dX9_passesEdit_29 : decode cX9_passesEdit 29 = .ok (.getfield 184, 3) := by decide +kernel
theorem dX9_passesEdit_32 : decode cX9_passesEdit 32 = .ok (.bipush 99, 2) := by decide +kernel
theorem dX9_passesEdit_34 : decode cX9_passesEdit 34 = .ok (.if_icmp .eq 41, 3) := by decide +kernel
theorem dX9_passesEdit_37 : decode cX9_passesEdit 37 = .ok (.aload_n 0, 1) := by decide +kernel
theorem dX9_passesEdit_38 : decode cX9_passesEdit 38 = .ok (.getfield 184, 3) := by decide +kernel
theorem dX9_passesEdit_41 : decode cX9_passesEdit 41 = .ok (.bipush 106, 2) := by decide +kernel
theorem dX9_passesEdit_43 : decode cX9_passesEdit 43 = .ok (.if_icmp .eq 32, 3) := by decide +kernel
theorem dX9_passesEdit_46 : decode cX9_passesEdit 46 = .ok (.aload_n 0, 1) := by decide +kernel
theorem dX9_passesEdit_47 : decode cX9_passesEdit 47 = .ok (.getfield 184, 3) := by decide +kernel
theorem dX9_passesEdit_50 : decode cX9_passesEdit 50 = .ok (.bipush 111, 2) := by decide +kernel
theorem dX9_passesEdit_52 : decode cX9_passesEdit 52 = .ok (.if_icmp .eq 23, 3) := by decide +kernel
theorem dX9_passesEdit_55 : decode cX9_passesEdit 55 = .ok (.aload_n 0, 1) := by decide +kernel
theorem dX9_passesEdit_56 : decode cX9_passesEdit 56 = .ok (.getfield 184, 3) := by decide +kernel
theorem dX9_passesEdit_59 : decode cX9_passesEdit 59 = .ok (.bipush 105, 2) := by decide +kernel
theorem dX9_passesEdit_61 : decode cX9_passesEdit 61 = .ok (.if_icmp .eq 14, 3) := by decide +kernel
theorem dX9_passesEdit_64 : decode cX9_passesEdit 64 = .ok (.aload_n 0, 1) := by decide +kernel
theorem dX9_passesEdit_65 : decode cX9_passesEdit 65 = .ok (.getfield 184, 3) := by decide +kernel
theorem dX9_passesEdit_68 : decode cX9_passesEdit 68 = .ok (.bipush 109, 2) := by decide +kernel
theorem dX9_passesEdit_70 : decode cX9_passesEdit 70 = .ok (.if_icmp .eq 5, 3) := by decide +kernel
theorem dX9_passesEdit_73 : decode cX9_passesEdit 73 = .ok (.iconst 0, 1) := by decide +kernel
theorem dX9_passesEdit_74 : decode cX9_passesEdit 74 = .ok (.ireturn, 1) := by decide +kernel
theorem dX9_passesEdit_75 : decode cX9_passesEdit 75 = .ok (.aload_n 0, 1) := by decide +kernel
theorem dX9_passesEdit_76 : decode cX9_passesEdit 76 = .ok (.dup, 1) := by decide +kernel
theorem dX9_passesEdit_77 : decode cX9_passesEdit 77 = .ok (.getfield 175, 3) := by decide +kernel
theorem dX9_passesEdit_80 : decode cX9_passesEdit 80 = .ok (.iconst 1, 1) := by decide +kernel
theorem dX9_passesEdit_81 : decode cX9_passesEdit 81 = .ok (.iadd, 1) := by decide +kernel
theorem dX9_passesEdit_82 : decode cX9_passesEdit 82 = .ok (.putfield 175, 3) := by decide +kernel
theorem dX9_passesEdit_85 : decode cX9_passesEdit 85 = .ok (.aload_n 0, 1) := by decide +kernel
theorem dX9_passesEdit_86 : decode cX9_passesEdit 86 = .ok (.invokevirtual 187, 3) := by decide +kernel
theorem dX9_passesEdit_89 : decode cX9_passesEdit 89 = .ok (.ifCond .ne 5, 3) := by decide +kernel
theorem dX9_passesEdit_92 : decode cX9_passesEdit 92 = .ok (.iconst 0, 1) := by decide +kernel
theorem dX9_passesEdit_93 : decode cX9_passesEdit 93 = .ok (.ireturn, 1) := by decide +kernel
theorem dX9_passesEdit_94 : decode cX9_passesEdit 94 = .ok (.aload_n 0, 1) := by decide +kernel
theorem dX9_passesEdit_95 : decode cX9_passesEdit 95 = .ok (.aload_n 0, 1) := by decide +kernel
theorem dX9_passesEdit_96 : decode cX9_passesEdit 96 = .ok (.getfield 181, 3) := by decide +kernel
theorem dX9_passesEdit_99 : decode cX9_passesEdit 99 = .ok (.putfield 191, 3) := by decide +kernel
theorem dX9_passesEdit_102 : decode cX9_passesEdit 102 = .ok (.aload_n 0, 1) := by decide +kernel
theorem dX9_passesEdit_103 : decode cX9_passesEdit 103 = .ok (.getfield 184, 3) := by decide +kernel
theorem dX9_passesEdit_106 : decode cX9_passesEdit 106 = .ok (.bipush 105, 2) := by decide +kernel
theorem dX9_passesEdit_108 : decode cX9_passesEdit 108 = .ok (.if_icmp .eq 12, 3) := by decide +kernel
theorem dX9_passesEdit_111 : decode cX9_passesEdit 111 = .ok (.aload_n 0, 1) := by decide +kernel
theorem dX9_passesEdit_112 : decode cX9_passesEdit 112 = .ok (.getfield 184, 3) := by decide +kernel
theorem dX9_passesEdit_115 : decode cX9_passesEdit 115 = .ok (.bipush 109, 2) := by decide +kernel
theorem dX9_passesEdit_117 : decode cX9_passesEdit 117 = .ok (.if_icmp .ne 29, 3) := by decide +kernel
theorem dX9_passesEdit_120 : decode cX9_passesEdit 120 = .ok (.aload_n 0, 1) := by decide +kernel
theorem dX9_passesEdit_121 : decode cX9_passesEdit 121 = .ok (.bipush 44, 2) := by decide +kernel
theorem dX9_passesEdit_123 : decode cX9_passesEdit 123 = .ok (.invokevirtual 194, 3) := by decide +kernel
theorem dX9_passesEdit_126 : decode cX9_passesEdit 126 = .ok (.ifCond .eq 10, 3) := by decide +kernel
theorem dX9_passesEdit_129 : decode cX9_passesEdit 129 = .ok (.aload_n 0, 1) := by decide +kernel
theorem dX9_passesEdit_130 : decode cX9_passesEdit 130 = .ok (.invokevirtual 187, 3) := by decide +kernel
theorem dX9_passesEdit_133 : decode cX9_passesEdit 133 = .ok (.ifCond .ne 5, 3) := by decide +kernel
theorem dX9_passesEdit_136 : decode cX9_passesEdit 136 = .ok (.iconst 0, 1) := by decide +kernel
theorem dX9_passesEdit_137 : decode cX9_passesEdit 137 = .ok (.ireturn, 1) := by decide +kernel
theorem dX9_passesEdit_138 : decode cX9_passesEdit 138 = .ok (.aload_n 0, 1) := by decide +kernel
theorem dX9_passesEdit_139 : decode cX9_passesEdit 139 = .ok (.aload_n 0, 1) := by decide +kernel
theorem dX9_passesEdit_140 : decode cX9_passesEdit 140 = .ok (.getfield 181, 3) := by decide +kernel
theorem dX9_passesEdit_143 : decode cX9_passesEdit 143 = .ok (.putfield 197, 3) := by decide +kernel
theorem dX9_passesEdit_146 : decode cX9_passesEdit 146 = .ok (.iconst 1, 1) := by decide +kernel
theorem dX9_passesEdit_147 : decode cX9_passesEdit 147 = .ok (.ireturn, 1) := by decide +kernel
set_option maxRecDepth 20000 in
theorem ggX9_faultOf_X9_passesEdit : GoodIn wsX9_faultOf wsX9_passesEdit := goodIn_r _ [7, 1, 2, 8, 9, 10, 11, 12, 13, 14, 15, 6, 16, 17, 18, 19, 20, 21, 22, 23, 24, 25, 26, 27, 28, 29, 30, 31, 32, 33, 34, 35, 36, 37, 38, 39] (by decide +kernel) (by decide +kernel)
set_option maxRecDepth 20000 in
theorem gX9_faultOf_X9_passesEdit : GoodIn wsX9_faultOf (wsV RX9 200 RX9 yX9_passesEdit wsX9_passesEdit) := goodIn_app (goodIn_of _ (by decide +kernel)) ggX9_faultOf_X9_passesEdit
set_option maxRecDepth 20000 in
theorem ggX9_faultOf_X9_passesSign : GoodIn wsX9_faultOf wsX9_passesSign := goodIn_r _ [27, 1, 17, 18, 19, 6, 20, 2, 8, 21, 22, 23, 28, 29, 30, 31, 32, 33, 34, 35, 36, 37, 38, 39] (by decide +kernel) (by decide +kernel)
set_option maxRecDepth 20000 in
theorem gX9_faultOf_X9_passesSign : GoodIn wsX9_faultOf (wsV RX9 194 RX9 yX9_passesSign wsX9_passesSign) := goodIn_app (goodIn_of _ (by decide +kernel)) ggX9_faultOf_X9_passesSign
theorem dX9_faultOf_0 : decode cX9_faultOf 0 = .ok (.aload_n 0, 1) := by decide +kernel
theorem dX9_faultOf_1 : decode cX9_faultOf 1 = .ok (.iconst 0, 1) := by decide +kernel
theorem dX9_faultOf_2 : decode cX9_faultOf 2 = .ok (.putfield 175, 3) := by decide +kernel
theorem dX9_faultOf_5 : decode cX9_faultOf 5 = .ok (.aload_n 0, 1) := by decide +kernel
theorem dX9_faultOf_6 : decode cX9_faultOf 6 = .ok (.invokevirtual 200, 3) := by decide +kernel
theorem dX9_faultOf_9 : decode cX9_faultOf 9 = .ok (.ifCond .ne 8, 3) := by decide +kernel
theorem dX9_faultOf_12 : decode cX9_faultOf 12 = .ok (.aload_n 0, 1) := by decide +kernel
theorem dX9_faultOf_13 : decode cX9_faultOf 13 = .ok (.getfield 175, 3) := by decide +kernel
theorem dX9_faultOf_16 : decode cX9_faultOf 16 = .ok (.ireturn, 1) := by decide +kernel
theorem dX9_faultOf_17 : decode cX9_faultOf 17 = .ok (.aload_n 0, 1) := by decide +kernel
theorem dX9_faultOf_18 : decode cX9_faultOf 18 = .ok (.getfield 175, 3) := by decide +kernel
theorem dX9_faultOf_21 : decode cX9_faultOf 21 = .ok (.aload_n 0, 1) := by decide +kernel
theorem dX9_faultOf_22 : decode cX9_faultOf 22 = .ok (.getfield 172, 3) := by decide +kernel
theorem dX9_faultOf_25 : decode cX9_faultOf 25 = .ok (.if_icmp .ge 24, 3) := by decide +kernel
theorem dX9_faultOf_28 : decode cX9_faultOf 28 = .ok (.aload_n 0, 1) := by decide +kernel
theorem dX9_faultOf_29 : decode cX9_faultOf 29 = .ok (.bipush 59, 2) := by decide +kernel
theorem dX9_faultOf_31 : decode cX9_faultOf 31 = .ok (.invokevirtual 194, 3) := by decide +kernel
theorem dX9_faultOf_34 : decode cX9_faultOf 34 = .ok (.ifCond .eq 10, 3) := by decide +kernel
theorem dX9_faultOf_37 : decode cX9_faultOf 37 = .ok (.aload_n 0, 1) := by decide +kernel
theorem dX9_faultOf_38 : decode cX9_faultOf 38 = .ok (.invokevirtual 200, 3) := by decide +kernel
theorem dX9_faultOf_41 : decode cX9_faultOf 41 = .ok (.ifCond .ne (-24), 3) := by decide +kernel
theorem dX9_faultOf_44 : decode cX9_faultOf 44 = .ok (.aload_n 0, 1) := by decide +kernel
theorem dX9_faultOf_45 : decode cX9_faultOf 45 = .ok (.getfield 175, 3) := by decide +kernel
theorem dX9_faultOf_48 : decode cX9_faultOf 48 = .ok (.ireturn, 1) := by decide +kernel
theorem dX9_faultOf_49 : decode cX9_faultOf 49 = .ok (.bipush (-5), 2) := by decide +kernel
theorem dX9_faultOf_51 : decode cX9_faultOf 51 = .ok (.ireturn, 1) := by decide +kernel
set_option maxRecDepth 20000 in
theorem ggX9_editError_X9_cutError : GoodIn wsX9_editError wsX9_cutError := goodIn_r _ [8, 9, 10, 11, 12, 7, 13, 14, 15, 16, 17, 18, 19, 20, 21, 22, 23, 24, 25, 26, 27, 28, 29, 30, 31, 32, 53, 54, 55, 56, 57, 58, 59, 60, 61, 62, 63, 64] (by decide +kernel) (by decide +kernel)
set_option maxRecDepth 20000 in
theorem gX9_editError_X9_cutError : GoodIn wsX9_editError (wsV RX9 88 RX9 yX9_cutError wsX9_cutError) := goodIn_app (goodIn_of _ (by decide +kernel)) ggX9_editError_X9_cutError
set_option maxRecDepth 20000 in
theorem ggX9_editError_X9_joinError : GoodIn wsX9_editError wsX9_joinError := goodIn_r _ [36, 37, 38, 39, 7, 40, 9, 26, 27, 28, 22, 23, 24, 25, 53, 54, 55, 56, 57, 58, 59, 60, 61, 62, 63, 64] (by decide +kernel) (by decide +kernel)
set_option maxRecDepth 20000 in
theorem gX9_editError_X9_joinError : GoodIn wsX9_editError (wsV RX9 97 RX9 yX9_joinError wsX9_joinError) := goodIn_app (goodIn_of _ (by decide +kernel)) ggX9_editError_X9_joinError
set_option maxRecDepth 20000 in
theorem ggX9_editError_X9_takeError : GoodIn wsX9_editError wsX9_takeError := goodIn_r _ [44, 9, 37, 38, 39, 7, 40, 26, 27, 28, 53, 54, 55, 56, 57, 58, 59, 60, 61, 62, 63, 64] (by decide +kernel) (by decide +kernel)
set_option maxRecDepth 20000 in
theorem gX9_editError_X9_takeError : GoodIn wsX9_editError (wsV RX9 103 RX9 yX9_takeError wsX9_takeError) := goodIn_app (goodIn_of _ (by decide +kernel)) ggX9_editError_X9_takeError
set_option maxRecDepth 20000 in
theorem ggX9_editError_X9_putError : GoodIn wsX9_editError wsX9_putError := goodIn_r _ [48, 9, 26, 27, 7, 28, 53, 54, 55, 56, 57, 58, 59, 60, 61, 62, 63, 64] (by decide +kernel) (by decide +kernel)
set_option maxRecDepth 20000 in
theorem gX9_editError_X9_putError : GoodIn wsX9_editError (wsV RX9 112 RX9 yX9_putError wsX9_putError) := goodIn_app (goodIn_of _ (by decide +kernel)) ggX9_editError_X9_putError
set_option maxRecDepth 20000 in
theorem ggX9_editError_X9_moveError : GoodIn wsX9_editError wsX9_moveError := goodIn_r _ [52, 37, 38, 39, 7, 40, 9, 26, 27, 28, 53, 54, 55, 56, 57, 58, 59, 60, 61, 62, 63, 64] (by decide +kernel) (by decide +kernel)
set_option maxRecDepth 20000 in
theorem gX9_editError_X9_moveError : GoodIn wsX9_editError (wsV RX9 118 RX9 yX9_moveError wsX9_moveError) := goodIn_app (goodIn_of _ (by decide +kernel)) ggX9_editError_X9_moveError
theorem dX9_editError_0 : decode cX9_editError 0 = .ok (.aload_n 0, 1) := by decide +kernel
theorem dX9_editError_1 : decode cX9_editError 1 = .ok (.getfield 184, 3) := by decide +kernel
theorem dX9_editError_4 : decode cX9_editError 4 = .ok (.lookupswitch 84 #[(99, 44), (105, 71), (106, 53), (111, 62)], 44) := by decide +kernel
theorem dX9_editError_48 : decode cX9_editError 48 = .ok (.aload_n 0, 1) := by decide +kernel
theorem dX9_editError_49 : decode cX9_editError 49 = .ok (.aload_n 0, 1) := by decide +kernel
theorem dX9_editError_50 : decode cX9_editError 50 = .ok (.getfield 191, 3) := by decide +kernel
theorem dX9_editError_53 : decode cX9_editError 53 = .ok (.invokevirtual 88, 3) := by decide +kernel
theorem dX9_editError_56 : decode cX9_editError 56 = .ok (.ireturn, 1) := by decide +kernel
theorem dX9_editError_57 : decode cX9_editError 57 = .ok (.aload_n 0, 1) := by decide +kernel
theorem dX9_editError_58 : decode cX9_editError 58 = .ok (.aload_n 0, 1) := by decide +kernel
theorem dX9_editError_59 : decode cX9_editError 59 = .ok (.getfield 191, 3) := by decide +kernel
theorem dX9_editError_62 : decode cX9_editError 62 = .ok (.invokevirtual 97, 3) := by decide +kernel
theorem dX9_editError_65 : decode cX9_editError 65 = .ok (.ireturn, 1) := by decide +kernel
theorem dX9_editError_66 : decode cX9_editError 66 = .ok (.aload_n 0, 1) := by decide +kernel
theorem dX9_editError_67 : decode cX9_editError 67 = .ok (.aload_n 0, 1) := by decide +kernel
theorem dX9_editError_68 : decode cX9_editError 68 = .ok (.getfield 191, 3) := by decide +kernel
theorem dX9_editError_71 : decode cX9_editError 71 = .ok (.invokevirtual 103, 3) := by decide +kernel
theorem dX9_editError_74 : decode cX9_editError 74 = .ok (.ireturn, 1) := by decide +kernel
theorem dX9_editError_75 : decode cX9_editError 75 = .ok (.aload_n 0, 1) := by decide +kernel
theorem dX9_editError_76 : decode cX9_editError 76 = .ok (.aload_n 0, 1) := by decide +kernel
theorem dX9_editError_77 : decode cX9_editError 77 = .ok (.getfield 191, 3) := by decide +kernel
theorem dX9_editError_80 : decode cX9_editError 80 = .ok (.aload_n 0, 1) := by decide +kernel
theorem dX9_editError_81 : decode cX9_editError 81 = .ok (.getfield 197, 3) := by decide +kernel
theorem dX9_editError_84 : decode cX9_editError 84 = .ok (.invokevirtual 112, 3) := by decide +kernel
theorem dX9_editError_87 : decode cX9_editError 87 = .ok (.ireturn, 1) := by decide +kernel
theorem dX9_editError_88 : decode cX9_editError 88 = .ok (.aload_n 0, 1) := by decide +kernel
theorem dX9_editError_89 : decode cX9_editError 89 = .ok (.aload_n 0, 1) := by decide +kernel
theorem dX9_editError_90 : decode cX9_editError 90 = .ok (.getfield 191, 3) := by decide +kernel
theorem dX9_editError_93 : decode cX9_editError 93 = .ok (.aload_n 0, 1) := by decide +kernel
theorem dX9_editError_94 : decode cX9_editError 94 = .ok (.getfield 197, 3) := by decide +kernel
theorem dX9_editError_97 : decode cX9_editError 97 = .ok (.invokevirtual 118, 3) := by decide +kernel
theorem dX9_editError_100 : decode cX9_editError 100 = .ok (.ireturn, 1) := by decide +kernel
set_option maxRecDepth 20000 in
theorem ggX9_does_X9_cuts : GoodIn wsX9_does wsX9_cuts := goodIn_r _ [8, 9, 10, 11, 7, 12, 13, 14, 15, 16, 17, 18, 19, 20, 21, 22, 23, 24, 25, 26, 27, 28, 29, 30, 31, 32, 33, 34, 35, 36, 37, 38, 39, 40, 65, 66, 67, 68, 69, 70, 71, 72, 73, 74, 75, 76] (by decide +kernel) (by decide +kernel)
set_option maxRecDepth 20000 in
theorem gX9_does_X9_cuts : GoodIn wsX9_does (wsV RX9 91 RX9 yX9_cuts wsX9_cuts) := goodIn_app (goodIn_of _ (by decide +kernel)) ggX9_does_X9_cuts
set_option maxRecDepth 20000 in
theorem ggX9_does_X9_joins : GoodIn wsX9_does wsX9_joins := goodIn_r _ [44, 26, 27, 28, 7, 29, 25, 30, 31, 32, 21, 22, 23, 24, 33, 34, 35, 36, 45, 46, 47, 48, 17, 18, 19, 20, 65, 66, 67, 68, 69, 70, 71, 72, 73, 74, 75, 76] (by decide +kernel) (by decide +kernel)
set_option maxRecDepth 20000 in
theorem gX9_does_X9_joins : GoodIn wsX9_does (wsV RX9 100 RX9 yX9_joins wsX9_joins) := goodIn_app (goodIn_of _ (by decide +kernel)) ggX9_does_X9_joins
set_option maxRecDepth 20000 in
theorem ggX9_does_X9_takes : GoodIn wsX9_does wsX9_takes := goodIn_r _ [52, 25, 21, 22, 23, 7, 24, 45, 46, 47, 48, 26, 27, 28, 29, 30, 31, 32, 33, 34, 35, 36, 65, 66, 67, 68, 69, 70, 71, 72, 73, 74, 75, 76] (by decide +kernel) (by decide +kernel)
set_option maxRecDepth 20000 in
theorem gX9_does_X9_takes : GoodIn wsX9_does (wsV RX9 106 RX9 yX9_takes wsX9_takes) := goodIn_app (goodIn_of _ (by decide +kernel)) ggX9_does_X9_takes
set_option maxRecDepth 20000 in
theorem ggX9_does_X9_puts : GoodIn wsX9_does wsX9_puts := goodIn_r _ [56, 25, 57, 58, 59, 7, 60, 37, 38, 39, 40, 33, 34, 35, 36, 26, 27, 28, 29, 30, 31, 32, 65, 66, 67, 68, 69, 70, 71, 72, 73, 74, 75, 76] (by decide +kernel) (by decide +kernel)
set_option maxRecDepth 20000 in
theorem gX9_does_X9_puts : GoodIn wsX9_does (wsV RX9 115 RX9 yX9_puts wsX9_puts) := goodIn_app (goodIn_of _ (by decide +kernel)) ggX9_does_X9_puts
set_option maxRecDepth 20000 in
theorem ggX9_does_X9_moves : GoodIn wsX9_does wsX9_moves := goodIn_r _ [64, 21, 22, 23, 7, 24, 25, 45, 46, 47, 48, 26, 27, 28, 29, 30, 31, 32, 33, 34, 35, 36, 37, 38, 39, 40, 13, 14, 15, 16, 17, 18, 19, 20, 65, 66, 67, 68, 69, 70, 71, 72, 73, 74, 75, 76] (by decide +kernel) (by decide +kernel)
set_option maxRecDepth 20000 in
theorem gX9_does_X9_moves : GoodIn wsX9_does (wsV RX9 121 RX9 yX9_moves wsX9_moves) := goodIn_app (goodIn_of _ (by decide +kernel)) ggX9_does_X9_moves
theorem dX9_does_0 : decode cX9_does 0 = .ok (.aload_n 0, 1) := by decide +kernel
theorem dX9_does_1 : decode cX9_does 1 = .ok (.getfield 184, 3) := by decide +kernel
theorem dX9_does_4 : decode cX9_does 4 = .ok (.lookupswitch 84 #[(99, 44), (105, 71), (106, 53), (111, 62)], 44) := by decide +kernel
theorem dX9_does_48 : decode cX9_does 48 = .ok (.aload_n 0, 1) := by decide +kernel
theorem dX9_does_49 : decode cX9_does 49 = .ok (.aload_n 0, 1) := by decide +kernel
theorem dX9_does_50 : decode cX9_does 50 = .ok (.getfield 191, 3) := by decide +kernel
theorem dX9_does_53 : decode cX9_does 53 = .ok (.invokevirtual 91, 3) := by decide +kernel
theorem dX9_does_56 : decode cX9_does 56 = .ok (.ireturn, 1) := by decide +kernel
theorem dX9_does_57 : decode cX9_does 57 = .ok (.aload_n 0, 1) := by decide +kernel
theorem dX9_does_58 : decode cX9_does 58 = .ok (.aload_n 0, 1) := by decide +kernel
theorem dX9_does_59 : decode cX9_does 59 = .ok (.getfield 191, 3) := by decide +kernel
theorem dX9_does_62 : decode cX9_does 62 = .ok (.invokevirtual 100, 3) := by decide +kernel
theorem dX9_does_65 : decode cX9_does 65 = .ok (.ireturn, 1) := by decide +kernel
theorem dX9_does_66 : decode cX9_does 66 = .ok (.aload_n 0, 1) := by decide +kernel
theorem dX9_does_67 : decode cX9_does 67 = .ok (.aload_n 0, 1) := by decide +kernel
theorem dX9_does_68 : decode cX9_does 68 = .ok (.getfield 191, 3) := by decide +kernel
theorem dX9_does_71 : decode cX9_does 71 = .ok (.invokevirtual 106, 3) := by decide +kernel
theorem dX9_does_74 : decode cX9_does 74 = .ok (.ireturn, 1) := by decide +kernel
theorem dX9_does_75 : decode cX9_does 75 = .ok (.aload_n 0, 1) := by decide +kernel
theorem dX9_does_76 : decode cX9_does 76 = .ok (.aload_n 0, 1) := by decide +kernel
theorem dX9_does_77 : decode cX9_does 77 = .ok (.getfield 191, 3) := by decide +kernel
theorem dX9_does_80 : decode cX9_does 80 = .ok (.aload_n 0, 1) := by decide +kernel
theorem dX9_does_81 : decode cX9_does 81 = .ok (.getfield 197, 3) := by decide +kernel
theorem dX9_does_84 : decode cX9_does 84 = .ok (.invokevirtual 115, 3) := by decide +kernel
theorem dX9_does_87 : decode cX9_does 87 = .ok (.ireturn, 1) := by decide +kernel
theorem dX9_does_88 : decode cX9_does 88 = .ok (.aload_n 0, 1) := by decide +kernel
theorem dX9_does_89 : decode cX9_does 89 = .ok (.aload_n 0, 1) := by decide +kernel
theorem dX9_does_90 : decode cX9_does 90 = .ok (.getfield 191, 3) := by decide +kernel
theorem dX9_does_93 : decode cX9_does 93 = .ok (.aload_n 0, 1) := by decide +kernel
theorem dX9_does_94 : decode cX9_does 94 = .ok (.getfield 197, 3) := by decide +kernel
theorem dX9_does_97 : decode cX9_does 97 = .ok (.invokevirtual 121, 3) := by decide +kernel
theorem dX9_does_100 : decode cX9_does 100 = .ok (.ireturn, 1) := by decide +kernel
set_option maxRecDepth 20000 in
theorem ggX9_edit_X9_faultOf : GoodIn wsX9_edit wsX9_faultOf := goodIn_r _ [7, 1, 2, 8, 9, 10, 6, 11, 12, 13, 14, 15, 16, 17, 18, 19, 20, 21, 22, 23, 24, 25, 26, 27, 28, 29, 30, 31, 135, 136, 137, 138, 139, 140, 141, 142, 143, 144, 145, 146] (by decide +kernel) (by decide +kernel)
set_option maxRecDepth 20000 in
theorem gX9_edit_X9_faultOf : GoodIn wsX9_edit (wsV RX9 203 RX9 yX9_faultOf wsX9_faultOf) := goodIn_app (goodIn_of _ (by decide +kernel)) ggX9_edit_X9_faultOf
set_option maxRecDepth 20000 in
theorem ggX9_edit_X9_keeps : GoodIn wsX9_edit wsX9_keeps := goodIn_r _ [35, 36, 37, 135, 136, 137, 138, 139, 140, 141, 142, 143, 144, 145, 146] (by decide +kernel) (by decide +kernel)
set_option maxRecDepth 20000 in
theorem gX9_edit_X9_keeps : GoodIn wsX9_edit (wsV RX9 31 RX9 yX9_keeps wsX9_keeps) := goodIn_app (goodIn_of _ (by decide +kernel)) ggX9_edit_X9_keeps
set_option maxRecDepth 20000 in
theorem ggX9_edit_X9_passesEdit : GoodIn wsX9_edit wsX9_passesEdit := goodIn_r _ [11, 1, 2, 12, 13, 14, 15, 16, 17, 18, 19, 6, 20, 21, 22, 23, 24, 25, 26, 27, 28, 29, 30, 31, 135, 136, 137, 138, 139, 140, 141, 142, 143, 144, 145, 146] (by decide +kernel) (by decide +kernel)
set_option maxRecDepth 20000 in
theorem gX9_edit_X9_passesEdit : GoodIn wsX9_edit (wsV RX9 200 RX9 yX9_passesEdit wsX9_passesEdit) := goodIn_app (goodIn_of _ (by decide +kernel)) ggX9_edit_X9_passesEdit
set_option maxRecDepth 20000 in
theorem ggX9_edit_X9_editError : GoodIn wsX9_edit wsX9_editError := goodIn_r _ [41, 13, 15, 16, 42, 43, 44, 6, 45, 37, 46, 47, 48, 49, 50, 51, 52, 53, 54, 55, 56, 57, 58, 59, 60, 61, 25, 26, 27, 62, 63, 64, 65, 66, 67, 68, 69, 70, 71, 72, 73, 74, 75, 76, 77, 78, 79, 80, 81, 82, 83, 84, 85, 135, 136, 137, 138, 139, 140, 141, 142, 143, 144, 145, 146] (by decide +kernel) (by decide +kernel)
set_option maxRecDepth 20000 in
theorem gX9_edit_X9_editError : GoodIn wsX9_edit (wsV RX9 206 RX9 yX9_editError wsX9_editError) := goodIn_app (goodIn_of _ (by decide +kernel)) ggX9_edit_X9_editError
set_option maxRecDepth 20000 in
theorem ggX9_edit_X9_does : GoodIn wsX9_edit wsX9_does := goodIn_r _ [89, 13, 15, 16, 90, 91, 92, 6, 93, 62, 63, 64, 65, 50, 51, 52, 53, 54, 55, 56, 57, 58, 59, 60, 61, 37, 70, 71, 72, 73, 25, 26, 27, 94, 95, 96, 97, 98, 99, 100, 101, 102, 103, 104, 105, 106, 107, 108, 109, 110, 111, 112, 113, 114, 115, 116, 117, 118, 119, 120, 121, 122, 123, 124, 125, 135, 136, 137, 138, 139, 140, 141, 142, 143, 144, 145, 146] (by decide +kernel) (by decide +kernel)
set_option maxRecDepth 20000 in
theorem gX9_edit_X9_does : GoodIn wsX9_edit (wsV RX9 209 RX9 yX9_does wsX9_does) := goodIn_app (goodIn_of _ (by decide +kernel)) ggX9_edit_X9_does
set_option maxRecDepth 20000 in
theorem ggX9_edit_X9_brings : GoodIn wsX9_edit wsX9_brings := goodIn_r _ [129, 37, 36, 135, 136, 137, 138, 139, 140, 141, 142, 143, 144, 145, 146] (by decide +kernel) (by decide +kernel)
set_option maxRecDepth 20000 in
theorem gX9_edit_X9_brings : GoodIn wsX9_edit (wsV RX9 27 RX9 yX9_brings wsX9_brings) := goodIn_app (goodIn_of _ (by decide +kernel)) ggX9_edit_X9_brings
set_option maxRecDepth 20000 in
theorem ggX9_edit_X9_records : GoodIn wsX9_edit wsX9_records := goodIn_r _ [133, 134, 36, 37, 135, 136, 137, 138, 139, 140, 141, 142, 143, 144, 145, 146] (by decide +kernel) (by decide +kernel)
set_option maxRecDepth 20000 in
theorem gX9_edit_X9_records : GoodIn wsX9_edit (wsV RX9 38 RX9 yX9_records wsX9_records) := goodIn_app (goodIn_of _ (by decide +kernel)) ggX9_edit_X9_records
theorem dX9_edit_0 : decode cX9_edit 0 = .ok (.aload_n 0, 1) := by decide +kernel
theorem dX9_edit_1 : decode cX9_edit 1 = .ok (.invokevirtual 203, 3) := by decide +kernel
theorem dX9_edit_4 : decode cX9_edit 4 = .ok (.istore_n 1, 1) := by decide +kernel
theorem dX9_edit_5 : decode cX9_edit 5 = .ok (.iload_n 1, 1) := by decide +kernel
theorem dX9_edit_6 : decode cX9_edit 6 = .ok (.bipush (-5), 2) := by decide +kernel
theorem dX9_edit_8 : decode cX9_edit 8 = .ok (.if_icmp .eq 8, 3) := by decide +kernel
theorem dX9_edit_11 : decode cX9_edit 11 = .ok (.bipush (-100), 2) := by decide +kernel
theorem dX9_edit_13 : decode cX9_edit 13 = .ok (.iload_n 1, 1) := by decide +kernel
theorem dX9_edit_14 : decode cX9_edit 14 = .ok (.isub, 1) := by decide +kernel
theorem dX9_edit_15 : decode cX9_edit 15 = .ok (.ireturn, 1) := by decide +kernel
theorem dX9_edit_16 : decode cX9_edit 16 = .ok (.aload_n 0, 1) := by decide +kernel
theorem dX9_edit_17 : decode cX9_edit 17 = .ok (.iconst 5, 1) := by decide +kernel
theorem dX9_edit_18 : decode cX9_edit 18 = .ok (.invokevirtual 31, 3) := by decide +kernel
theorem dX9_edit_21 : decode cX9_edit 21 = .ok (.iconst 0, 1) := by decide +kernel
theorem dX9_edit_22 : decode cX9_edit 22 = .ok (.istore_n 2, 1) := by decide +kernel
theorem dX9_edit_23 : decode cX9_edit 23 = .ok (.aload_n 0, 1) := by decide +kernel
theorem dX9_edit_24 : decode cX9_edit 24 = .ok (.iconst 0, 1) := by decide +kernel
theorem dX9_edit_25 : decode cX9_edit 25 = .ok (.putfield 175, 3) := by decide +kernel
theorem dX9_edit_28 : decode cX9_edit 28 = .ok (.aload_n 0, 1) := by decide +kernel
theorem dX9_edit_29 : decode cX9_edit 29 = .ok (.getfield 175, 3) := by decide +kernel
theorem dX9_edit_32 : decode cX9_edit 32 = .ok (.aload_n 0, 1) := by decide +kernel
theorem dX9_edit_33 : decode cX9_edit 33 = .ok (.getfield 172, 3) := by decide +kernel
theorem dX9_edit_36 : decode cX9_edit 36 = .ok (.if_icmp .ge 79, 3) := by decide +kernel
theorem dX9_edit_39 : decode cX9_edit 39 = .ok (.aload_n 0, 1) := by decide +kernel
theorem dX9_edit_40 : decode cX9_edit 40 = .ok (.invokevirtual 200, 3) := by decide +kernel
theorem dX9_edit_43 : decode cX9_edit 43 = .ok (.istore_n 3, 1) := by decide +kernel
theorem dX9_edit_44 : decode cX9_edit 44 = .ok (.aload_n 0, 1) := by decide +kernel
theorem dX9_edit_45 : decode cX9_edit 45 = .ok (.invokevirtual 206, 3) := by decide +kernel
theorem dX9_edit_48 : decode cX9_edit 48 = .ok (.istore 4, 2) := by decide +kernel
theorem dX9_edit_50 : decode cX9_edit 50 = .ok (.iload 4, 2) := by decide +kernel
theorem dX9_edit_52 : decode cX9_edit 52 = .ok (.ifCond .ne 21, 3) := by decide +kernel
theorem dX9_edit_55 : decode cX9_edit 55 = .ok (.iload_n 2, 1) := by decide +kernel
theorem dX9_edit_56 : decode cX9_edit 56 = .ok (.aload_n 0, 1) := by decide +kernel
theorem dX9_edit_57 : decode cX9_edit 57 = .ok (.invokevirtual 209, 3) := by decide +kernel
theorem dX9_edit_60 : decode cX9_edit 60 = .ok (.ifCond .ge 7, 3) := by decide +kernel
theorem dX9_edit_63 : decode cX9_edit 63 = .ok (.iconst 0, 1) := by decide +kernel
theorem dX9_edit_64 : decode cX9_edit 64 = .ok (.goto 4, 3) := by decide +kernel
theorem dX9_edit_67 : decode cX9_edit 67 = .ok (.iconst 1, 1) := by decide +kernel
theorem dX9_edit_68 : decode cX9_edit 68 = .ok (.iadd, 1) := by decide +kernel
theorem dX9_edit_69 : decode cX9_edit 69 = .ok (.istore_n 2, 1) := by decide +kernel
theorem dX9_edit_70 : decode cX9_edit 70 = .ok (.goto 24, 3) := by decide +kernel
theorem dX9_edit_73 : decode cX9_edit 73 = .ok (.iload 4, 2) := by decide +kernel
theorem dX9_edit_75 : decode cX9_edit 75 = .ok (.bipush (-5), 2) := by decide +kernel
theorem dX9_edit_77 : decode cX9_edit 77 = .ok (.if_icmp .ne 9, 3) := by decide +kernel
theorem dX9_edit_80 : decode cX9_edit 80 = .ok (.iinc 2 1, 3) := by decide +kernel
theorem dX9_edit_83 : decode cX9_edit 83 = .ok (.goto 11, 3) := by decide +kernel
theorem dX9_edit_86 : decode cX9_edit 86 = .ok (.aload_n 0, 1) := by decide +kernel
theorem dX9_edit_87 : decode cX9_edit 87 = .ok (.iconst 5, 1) := by decide +kernel
theorem dX9_edit_88 : decode cX9_edit 88 = .ok (.invokevirtual 27, 3) := by decide +kernel
theorem dX9_edit_91 : decode cX9_edit 91 = .ok (.iload 4, 2) := by decide +kernel
theorem dX9_edit_93 : decode cX9_edit 93 = .ok (.ireturn, 1) := by decide +kernel
theorem dX9_edit_94 : decode cX9_edit 94 = .ok (.aload_n 0, 1) := by decide +kernel
theorem dX9_edit_95 : decode cX9_edit 95 = .ok (.dup, 1) := by decide +kernel
theorem dX9_edit_96 : decode cX9_edit 96 = .ok (.getfield 175, 3) := by decide +kernel
theorem dX9_edit_99 : decode cX9_edit 99 = .ok (.iload_n 3, 1) := by decide +kernel
theorem dX9_edit_100 : decode cX9_edit 100 = .ok (.ifCond .eq 7, 3) := by decide +kernel
theorem dX9_edit_103 : decode cX9_edit 103 = .ok (.iconst 1, 1) := by decide +kernel
theorem dX9_edit_104 : decode cX9_edit 104 = .ok (.goto 4, 3) := by decide +kernel
theorem dX9_edit_107 : decode cX9_edit 107 = .ok (.iconst 0, 1) := by decide +kernel
theorem dX9_edit_108 : decode cX9_edit 108 = .ok (.iadd, 1) := by decide +kernel
theorem dX9_edit_109 : decode cX9_edit 109 = .ok (.putfield 175, 3) := by decide +kernel
theorem dX9_edit_112 : decode cX9_edit 112 = .ok (.goto (-84), 3) := by decide +kernel
theorem dX9_edit_115 : decode cX9_edit 115 = .ok (.aload_n 0, 1) := by decide +kernel
theorem dX9_edit_116 : decode cX9_edit 116 = .ok (.iconst 1, 1) := by decide +kernel
theorem dX9_edit_117 : decode cX9_edit 117 = .ok (.invokevirtual 38, 3) := by decide +kernel
theorem dX9_edit_120 : decode cX9_edit 120 = .ok (.iload_n 2, 1) := by decide +kernel
theorem dX9_edit_121 : decode cX9_edit 121 = .ok (.ireturn, 1) := by decide +kernel
set_option maxRecDepth 20000 in
theorem ggX9_placeOf_X9_ofP : GoodIn wsX9_placeOf wsX9_ofP := goodIn_r _ [6, 1, 18, 19, 20, 21, 22, 23, 24, 25, 26, 27, 28, 29] (by decide +kernel) (by decide +kernel)
set_option maxRecDepth 20000 in
theorem gX9_placeOf_X9_ofP : GoodIn wsX9_placeOf (wsV RX9 54 RX9 yX9_ofP wsX9_ofP) := goodIn_app (goodIn_of _ (by decide +kernel)) ggX9_placeOf_X9_ofP
set_option maxRecDepth 20000 in
theorem ggX9_placeOf_X9_isIn : GoodIn wsX9_placeOf wsX9_isIn := goodIn_r _ [9] (by decide +kernel) (by decide +kernel)
set_option maxRecDepth 20000 in
theorem gX9_placeOf_X9_isIn : GoodIn wsX9_placeOf (va_wsS RX9 42 yX9_isIn wsX9_isIn) := goodIn_app (goodIn_of _ (by decide +kernel)) ggX9_placeOf_X9_isIn
set_option maxRecDepth 20000 in
theorem ggX9_placeOf_X9_positionOf : GoodIn wsX9_placeOf wsX9_positionOf := goodIn_r _ [13, 14, 15, 16, 5, 17, 2, 3, 4, 6, 1, 18, 19, 20, 21, 22, 23, 24, 25, 26, 27, 28, 29] (by decide +kernel) (by decide +kernel)
set_option maxRecDepth 20000 in
theorem gX9_placeOf_X9_positionOf : GoodIn wsX9_placeOf (wsV RX9 61 RX9 yX9_positionOf wsX9_positionOf) := goodIn_app (goodIn_of _ (by decide +kernel)) ggX9_placeOf_X9_positionOf
theorem dX9_placeOf_0 : decode cX9_placeOf 0 = .ok (.iconst 0, 1) := by decide +kernel
theorem dX9_placeOf_1 : decode cX9_placeOf 1 = .ok (.istore_n 3, 1) := by decide +kernel
theorem dX9_placeOf_2 : decode cX9_placeOf 2 = .ok (.iload_n 3, 1) := by decide +kernel
theorem dX9_placeOf_3 : decode cX9_placeOf 3 = .ok (.aload_n 0, 1) := by decide +kernel
theorem dX9_placeOf_4 : decode cX9_placeOf 4 = .ok (.getfield 7, 3) := by decide +kernel
theorem dX9_placeOf_7 : decode cX9_placeOf 7 = .ok (.iconst 1, 1) := by decide +kernel
theorem dX9_placeOf_8 : decode cX9_placeOf 8 = .ok (.iaload, 1) := by decide +kernel
theorem dX9_placeOf_9 : decode cX9_placeOf 9 = .ok (.if_icmp .ge 53, 3) := by decide +kernel
theorem dX9_placeOf_12 : decode cX9_placeOf 12 = .ok (.aload_n 0, 1) := by decide +kernel
theorem dX9_placeOf_13 : decode cX9_placeOf 13 = .ok (.iload_n 3, 1) := by decide +kernel
theorem dX9_placeOf_14 : decode cX9_placeOf 14 = .ok (.iconst 0, 1) := by decide +kernel
theorem dX9_placeOf_15 : decode cX9_placeOf 15 = .ok (.invokevirtual 54, 3) := by decide +kernel
theorem dX9_placeOf_18 : decode cX9_placeOf 18 = .ok (.iload_n 1, 1) := by decide +kernel
theorem dX9_placeOf_19 : decode cX9_placeOf 19 = .ok (.if_icmp .ne 37, 3) := by decide +kernel
theorem dX9_placeOf_22 : decode cX9_placeOf 22 = .ok (.iload_n 2, 1) := by decide +kernel
theorem dX9_placeOf_23 : decode cX9_placeOf 23 = .ok (.aload_n 0, 1) := by decide +kernel
theorem dX9_placeOf_24 : decode cX9_placeOf 24 = .ok (.iload_n 3, 1) := by decide +kernel
theorem dX9_placeOf_25 : decode cX9_placeOf 25 = .ok (.iconst 1, 1) := by decide +kernel
theorem dX9_placeOf_26 : decode cX9_placeOf 26 = .ok (.invokevirtual 54, 3) := by decide +kernel
theorem dX9_placeOf_29 : decode cX9_placeOf 29 = .ok (.aload_n 0, 1) := by decide +kernel
theorem dX9_placeOf_30 : decode cX9_placeOf 30 = .ok (.iload_n 3, 1) := by decide +kernel
theorem dX9_placeOf_31 : decode cX9_placeOf 31 = .ok (.iconst 2, 1) := by decide +kernel
theorem dX9_placeOf_32 : decode cX9_placeOf 32 = .ok (.invokevirtual 54, 3) := by decide +kernel
theorem dX9_placeOf_35 : decode cX9_placeOf 35 = .ok (.invokestatic 42, 3) := by decide +kernel
theorem dX9_placeOf_38 : decode cX9_placeOf 38 = .ok (.ifCond .eq 18, 3) := by decide +kernel
theorem dX9_placeOf_41 : decode cX9_placeOf 41 = .ok (.aload_n 0, 1) := by decide +kernel
theorem dX9_placeOf_42 : decode cX9_placeOf 42 = .ok (.iload_n 3, 1) := by decide +kernel
theorem dX9_placeOf_43 : decode cX9_placeOf 43 = .ok (.invokevirtual 61, 3) := by decide +kernel
theorem dX9_placeOf_46 : decode cX9_placeOf 46 = .ok (.iload_n 2, 1) := by decide +kernel
theorem dX9_placeOf_47 : decode cX9_placeOf 47 = .ok (.iadd, 1) := by decide +kernel
theorem dX9_placeOf_48 : decode cX9_placeOf 48 = .ok (.aload_n 0, 1) := by decide +kernel
theorem dX9_placeOf_49 : decode cX9_placeOf 49 = .ok (.iload_n 3, 1) := by decide +kernel
theorem dX9_placeOf_50 : decode cX9_placeOf 50 = .ok (.iconst 1, 1) := by decide +kernel
theorem dX9_placeOf_51 : decode cX9_placeOf 51 = .ok (.invokevirtual 54, 3) := by decide +kernel
theorem dX9_placeOf_54 : decode cX9_placeOf 54 = .ok (.isub, 1) := by decide +kernel
theorem dX9_placeOf_55 : decode cX9_placeOf 55 = .ok (.ireturn, 1) := by decide +kernel
theorem dX9_placeOf_56 : decode cX9_placeOf 56 = .ok (.iinc 3 1, 3) := by decide +kernel
theorem dX9_placeOf_59 : decode cX9_placeOf 59 = .ok (.goto (-57), 3) := by decide +kernel
theorem dX9_placeOf_62 : decode cX9_placeOf 62 = .ok (.bipush (-5), 2) := by decide +kernel
theorem dX9_placeOf_64 : decode cX9_placeOf 64 = .ok (.ireturn, 1) := by decide +kernel
set_option maxRecDepth 20000 in
theorem ggX9_framesOnReel_X9_ofP : GoodIn wsX9_framesOnReel wsX9_ofP := goodIn_r _ [6, 1, 11, 12, 13, 14, 15, 16, 17, 18, 19, 20, 21, 22] (by decide +kernel) (by decide +kernel)
set_option maxRecDepth 20000 in
theorem gX9_framesOnReel_X9_ofP : GoodIn wsX9_framesOnReel (wsV RX9 54 RX9 yX9_ofP wsX9_ofP) := goodIn_app (goodIn_of _ (by decide +kernel)) ggX9_framesOnReel_X9_ofP
set_option maxRecDepth 20000 in
theorem ggX9_framesOnReel_X9_framesIn : GoodIn wsX9_framesOnReel wsX9_framesIn := goodIn_r _ [10, 2, 3, 4, 5, 6, 1, 11, 12, 13, 14, 15, 16, 17, 18, 19, 20, 21, 22] (by decide +kernel) (by decide +kernel)
set_option maxRecDepth 20000 in
theorem gX9_framesOnReel_X9_framesIn : GoodIn wsX9_framesOnReel (wsV RX9 58 RX9 yX9_framesIn wsX9_framesIn) := goodIn_app (goodIn_of _ (by decide +kernel)) ggX9_framesOnReel_X9_framesIn
theorem dX9_framesOnReel_0 : decode cX9_framesOnReel 0 = .ok (.iconst 0, 1) := by decide +kernel
theorem dX9_framesOnReel_1 : decode cX9_framesOnReel 1 = .ok (.istore_n 2, 1) := by decide +kernel
theorem dX9_framesOnReel_2 : decode cX9_framesOnReel 2 = .ok (.iconst 0, 1) := by decide +kernel
theorem dX9_framesOnReel_3 : decode cX9_framesOnReel 3 = .ok (.istore_n 3, 1) := by decide +kernel
theorem dX9_framesOnReel_4 : decode cX9_framesOnReel 4 = .ok (.iload_n 3, 1) := by decide +kernel
theorem dX9_framesOnReel_5 : decode cX9_framesOnReel 5 = .ok (.aload_n 0, 1) := by decide +kernel
theorem dX9_framesOnReel_6 : decode cX9_framesOnReel 6 = .ok (.getfield 7, 3) := by decide +kernel
theorem dX9_framesOnReel_9 : decode cX9_framesOnReel 9 = .ok (.iconst 1, 1) := by decide +kernel
theorem dX9_framesOnReel_10 : decode cX9_framesOnReel 10 = .ok (.iaload, 1) := by decide +kernel
theorem dX9_framesOnReel_11 : decode cX9_framesOnReel 11 = .ok (.if_icmp .ge 31, 3) := by decide +kernel
theorem dX9_framesOnReel_14 : decode cX9_framesOnReel 14 = .ok (.iload_n 2, 1) := by decide +kernel
theorem dX9_framesOnReel_15 : decode cX9_framesOnReel 15 = .ok (.aload_n 0, 1) := by decide +kernel
theorem dX9_framesOnReel_16 : decode cX9_framesOnReel 16 = .ok (.iload_n 3, 1) := by decide +kernel
theorem dX9_framesOnReel_17 : decode cX9_framesOnReel 17 = .ok (.iconst 0, 1) := by decide +kernel
theorem dX9_framesOnReel_18 : decode cX9_framesOnReel 18 = .ok (.invokevirtual 54, 3) := by decide +kernel
theorem dX9_framesOnReel_21 : decode cX9_framesOnReel 21 = .ok (.iload_n 1, 1) := by decide +kernel
theorem dX9_framesOnReel_22 : decode cX9_framesOnReel 22 = .ok (.if_icmp .ne 11, 3) := by decide +kernel
theorem dX9_framesOnReel_25 : decode cX9_framesOnReel 25 = .ok (.aload_n 0, 1) := by decide +kernel
theorem dX9_framesOnReel_26 : decode cX9_framesOnReel 26 = .ok (.iload_n 3, 1) := by decide +kernel
theorem dX9_framesOnReel_27 : decode cX9_framesOnReel 27 = .ok (.invokevirtual 58, 3) := by decide +kernel
theorem dX9_framesOnReel_30 : decode cX9_framesOnReel 30 = .ok (.goto 4, 3) := by decide +kernel
theorem dX9_framesOnReel_33 : decode cX9_framesOnReel 33 = .ok (.iconst 0, 1) := by decide +kernel
theorem dX9_framesOnReel_34 : decode cX9_framesOnReel 34 = .ok (.iadd, 1) := by decide +kernel
theorem dX9_framesOnReel_35 : decode cX9_framesOnReel 35 = .ok (.istore_n 2, 1) := by decide +kernel
theorem dX9_framesOnReel_36 : decode cX9_framesOnReel 36 = .ok (.iinc 3 1, 3) := by decide +kernel
theorem dX9_framesOnReel_39 : decode cX9_framesOnReel 39 = .ok (.goto (-35), 3) := by decide +kernel
theorem dX9_framesOnReel_42 : decode cX9_framesOnReel 42 = .ok (.iload_n 2, 1) := by decide +kernel
theorem dX9_framesOnReel_43 : decode cX9_framesOnReel 43 = .ok (.ireturn, 1) := by decide +kernel
set_option maxRecDepth 20000 in
theorem ggX9_piecesOf_X9_ofP : GoodIn wsX9_piecesOf wsX9_ofP := goodIn_r _ [6, 1, 11, 12, 13, 14, 15, 16, 17, 18, 19, 20, 21, 22] (by decide +kernel) (by decide +kernel)
set_option maxRecDepth 20000 in
theorem gX9_piecesOf_X9_ofP : GoodIn wsX9_piecesOf (wsV RX9 54 RX9 yX9_ofP wsX9_ofP) := goodIn_app (goodIn_of _ (by decide +kernel)) ggX9_piecesOf_X9_ofP
set_option maxRecDepth 20000 in
theorem ggX9_piecesOf_X9_ofC : GoodIn wsX9_piecesOf wsX9_ofC := goodIn_r _ [10, 1, 11, 12, 13, 14, 15, 16, 17, 18, 19, 20, 21, 22] (by decide +kernel) (by decide +kernel)
set_option maxRecDepth 20000 in
theorem gX9_piecesOf_X9_ofC : GoodIn wsX9_piecesOf (wsV RX9 109 RX9 yX9_ofC wsX9_ofC) := goodIn_app (goodIn_of _ (by decide +kernel)) ggX9_piecesOf_X9_ofC
theorem dX9_piecesOf_0 : decode cX9_piecesOf 0 = .ok (.iconst 0, 1) := by decide +kernel
theorem dX9_piecesOf_1 : decode cX9_piecesOf 1 = .ok (.istore_n 2, 1) := by decide +kernel
theorem dX9_piecesOf_2 : decode cX9_piecesOf 2 = .ok (.iconst 0, 1) := by decide +kernel
theorem dX9_piecesOf_3 : decode cX9_piecesOf 3 = .ok (.istore_n 3, 1) := by decide +kernel
theorem dX9_piecesOf_4 : decode cX9_piecesOf 4 = .ok (.iload_n 3, 1) := by decide +kernel
theorem dX9_piecesOf_5 : decode cX9_piecesOf 5 = .ok (.aload_n 0, 1) := by decide +kernel
theorem dX9_piecesOf_6 : decode cX9_piecesOf 6 = .ok (.getfield 7, 3) := by decide +kernel
theorem dX9_piecesOf_9 : decode cX9_piecesOf 9 = .ok (.iconst 1, 1) := by decide +kernel
theorem dX9_piecesOf_10 : decode cX9_piecesOf 10 = .ok (.iaload, 1) := by decide +kernel
theorem dX9_piecesOf_11 : decode cX9_piecesOf 11 = .ok (.if_icmp .ge 27, 3) := by decide +kernel
theorem dX9_piecesOf_14 : decode cX9_piecesOf 14 = .ok (.iload_n 2, 1) := by decide +kernel
theorem dX9_piecesOf_15 : decode cX9_piecesOf 15 = .ok (.aload_n 0, 1) := by decide +kernel
theorem dX9_piecesOf_16 : decode cX9_piecesOf 16 = .ok (.iload_n 3, 1) := by decide +kernel
theorem dX9_piecesOf_17 : decode cX9_piecesOf 17 = .ok (.iconst 0, 1) := by decide +kernel
theorem dX9_piecesOf_18 : decode cX9_piecesOf 18 = .ok (.invokevirtual 54, 3) := by decide +kernel
theorem dX9_piecesOf_21 : decode cX9_piecesOf 21 = .ok (.iload_n 1, 1) := by decide +kernel
theorem dX9_piecesOf_22 : decode cX9_piecesOf 22 = .ok (.if_icmp .ne 7, 3) := by decide +kernel
theorem dX9_piecesOf_25 : decode cX9_piecesOf 25 = .ok (.iconst 1, 1) := by decide +kernel
theorem dX9_piecesOf_26 : decode cX9_piecesOf 26 = .ok (.goto 4, 3) := by decide +kernel
theorem dX9_piecesOf_29 : decode cX9_piecesOf 29 = .ok (.iconst 0, 1) := by decide +kernel
theorem dX9_piecesOf_30 : decode cX9_piecesOf 30 = .ok (.iadd, 1) := by decide +kernel
theorem dX9_piecesOf_31 : decode cX9_piecesOf 31 = .ok (.istore_n 2, 1) := by decide +kernel
theorem dX9_piecesOf_32 : decode cX9_piecesOf 32 = .ok (.iinc 3 1, 3) := by decide +kernel
theorem dX9_piecesOf_35 : decode cX9_piecesOf 35 = .ok (.goto (-31), 3) := by decide +kernel
theorem dX9_piecesOf_38 : decode cX9_piecesOf 38 = .ok (.iconst 0, 1) := by decide +kernel
theorem dX9_piecesOf_39 : decode cX9_piecesOf 39 = .ok (.istore_n 3, 1) := by decide +kernel
theorem dX9_piecesOf_40 : decode cX9_piecesOf 40 = .ok (.iload_n 3, 1) := by decide +kernel
theorem dX9_piecesOf_41 : decode cX9_piecesOf 41 = .ok (.aload_n 0, 1) := by decide +kernel
theorem dX9_piecesOf_42 : decode cX9_piecesOf 42 = .ok (.getfield 7, 3) := by decide +kernel
theorem dX9_piecesOf_45 : decode cX9_piecesOf 45 = .ok (.iconst 2, 1) := by decide +kernel
theorem dX9_piecesOf_46 : decode cX9_piecesOf 46 = .ok (.iaload, 1) := by decide +kernel
theorem dX9_piecesOf_47 : decode cX9_piecesOf 47 = .ok (.if_icmp .ge 27, 3) := by decide +kernel
theorem dX9_piecesOf_50 : decode cX9_piecesOf 50 = .ok (.iload_n 2, 1) := by decide +kernel
theorem dX9_piecesOf_51 : decode cX9_piecesOf 51 = .ok (.aload_n 0, 1) := by decide +kernel
theorem dX9_piecesOf_52 : decode cX9_piecesOf 52 = .ok (.iload_n 3, 1) := by decide +kernel
theorem dX9_piecesOf_53 : decode cX9_piecesOf 53 = .ok (.iconst 0, 1) := by decide +kernel
theorem dX9_piecesOf_54 : decode cX9_piecesOf 54 = .ok (.invokevirtual 109, 3) := by decide +kernel
theorem dX9_piecesOf_57 : decode cX9_piecesOf 57 = .ok (.iload_n 1, 1) := by decide +kernel
theorem dX9_piecesOf_58 : decode cX9_piecesOf 58 = .ok (.if_icmp .ne 7, 3) := by decide +kernel
theorem dX9_piecesOf_61 : decode cX9_piecesOf 61 = .ok (.iconst 1, 1) := by decide +kernel
theorem dX9_piecesOf_62 : decode cX9_piecesOf 62 = .ok (.goto 4, 3) := by decide +kernel
theorem dX9_piecesOf_65 : decode cX9_piecesOf 65 = .ok (.iconst 0, 1) := by decide +kernel
theorem dX9_piecesOf_66 : decode cX9_piecesOf 66 = .ok (.iadd, 1) := by decide +kernel
theorem dX9_piecesOf_67 : decode cX9_piecesOf 67 = .ok (.istore_n 2, 1) := by decide +kernel
theorem dX9_piecesOf_68 : decode cX9_piecesOf 68 = .ok (.iinc 3 1, 3) := by decide +kernel
theorem dX9_piecesOf_71 : decode cX9_piecesOf 71 = .ok (.goto (-31), 3) := by decide +kernel
theorem dX9_piecesOf_74 : decode cX9_piecesOf 74 = .ok (.iload_n 2, 1) := by decide +kernel
theorem dX9_piecesOf_75 : decode cX9_piecesOf 75 = .ok (.ireturn, 1) := by decide +kernel
set_option maxRecDepth 20000 in
theorem ggX9_tornIn_X9_framesOf : GoodIn wsX9_tornIn wsX9_framesOf := goodIn_r _ [5, 6, 14, 15, 16, 17, 18, 19, 20, 21, 22, 23, 24, 25] (by decide +kernel) (by decide +kernel)
set_option maxRecDepth 20000 in
theorem gX9_tornIn_X9_framesOf : GoodIn wsX9_tornIn (wsV RX9 50 RX9 yX9_framesOf wsX9_framesOf) := goodIn_app (goodIn_of _ (by decide +kernel)) ggX9_tornIn_X9_framesOf
set_option maxRecDepth 20000 in
theorem ggX9_tornIn_X9_torn : GoodIn wsX9_tornIn wsX9_torn := goodIn_r _ [10, 6, 14, 15, 16, 17, 18, 19, 20, 21, 22, 23, 24, 25] (by decide +kernel) (by decide +kernel)
set_option maxRecDepth 20000 in
theorem gX9_tornIn_X9_torn : GoodIn wsX9_tornIn (wsV RX9 64 RX9 yX9_torn wsX9_torn) := goodIn_app (goodIn_of _ (by decide +kernel)) ggX9_tornIn_X9_torn
set_option maxRecDepth 20000 in
theorem ggX9_tornIn_X9_ones : GoodIn wsX9_tornIn wsX9_ones := goodIn_r _ [13] (by decide +kernel) (by decide +kernel)
set_option maxRecDepth 20000 in
theorem gX9_tornIn_X9_ones : GoodIn wsX9_tornIn (va_wsS RX9 67 yX9_ones wsX9_ones) := goodIn_app (goodIn_of _ (by decide +kernel)) ggX9_tornIn_X9_ones
theorem dX9_tornIn_0 : decode cX9_tornIn 0 = .ok (.iconst 0, 1) := by decide +kernel
theorem dX9_tornIn_1 : decode cX9_tornIn 1 = .ok (.istore_n 2, 1) := by decide +kernel
theorem dX9_tornIn_2 : decode cX9_tornIn 2 = .ok (.iconst 0, 1) := by decide +kernel
theorem dX9_tornIn_3 : decode cX9_tornIn 3 = .ok (.istore_n 3, 1) := by decide +kernel
theorem dX9_tornIn_4 : decode cX9_tornIn 4 = .ok (.iload_n 3, 1) := by decide +kernel
theorem dX9_tornIn_5 : decode cX9_tornIn 5 = .ok (.aload_n 0, 1) := by decide +kernel
theorem dX9_tornIn_6 : decode cX9_tornIn 6 = .ok (.iload_n 1, 1) := by decide +kernel
theorem dX9_tornIn_7 : decode cX9_tornIn 7 = .ok (.invokevirtual 50, 3) := by decide +kernel
theorem dX9_tornIn_10 : decode cX9_tornIn 10 = .ok (.if_icmp .ge 21, 3) := by decide +kernel
theorem dX9_tornIn_13 : decode cX9_tornIn 13 = .ok (.iload_n 2, 1) := by decide +kernel
theorem dX9_tornIn_14 : decode cX9_tornIn 14 = .ok (.aload_n 0, 1) := by decide +kernel
theorem dX9_tornIn_15 : decode cX9_tornIn 15 = .ok (.iload_n 1, 1) := by decide +kernel
theorem dX9_tornIn_16 : decode cX9_tornIn 16 = .ok (.iload_n 3, 1) := by decide +kernel
theorem dX9_tornIn_17 : decode cX9_tornIn 17 = .ok (.invokevirtual 64, 3) := by decide +kernel
theorem dX9_tornIn_20 : decode cX9_tornIn 20 = .ok (.invokestatic 67, 3) := by decide +kernel
theorem dX9_tornIn_23 : decode cX9_tornIn 23 = .ok (.iadd, 1) := by decide +kernel
theorem dX9_tornIn_24 : decode cX9_tornIn 24 = .ok (.istore_n 2, 1) := by decide +kernel
theorem dX9_tornIn_25 : decode cX9_tornIn 25 = .ok (.iinc 3 1, 3) := by decide +kernel
theorem dX9_tornIn_28 : decode cX9_tornIn 28 = .ok (.goto (-24), 3) := by decide +kernel
theorem dX9_tornIn_31 : decode cX9_tornIn 31 = .ok (.iload_n 2, 1) := by decide +kernel
theorem dX9_tornIn_32 : decode cX9_tornIn 32 = .ok (.ireturn, 1) := by decide +kernel
set_option maxRecDepth 20000 in
theorem ggX9_isInOrder_X9_framesOf : GoodIn wsX9_isInOrder wsX9_framesOf := goodIn_r _ [5, 6, 26, 27, 28, 29, 30, 31, 32, 33, 34, 35, 36, 37] (by decide +kernel) (by decide +kernel)
set_option maxRecDepth 20000 in
theorem gX9_isInOrder_X9_framesOf : GoodIn wsX9_isInOrder (wsV RX9 50 RX9 yX9_framesOf wsX9_framesOf) := goodIn_app (goodIn_of _ (by decide +kernel)) ggX9_isInOrder_X9_framesOf
set_option maxRecDepth 20000 in
theorem ggX9_isInOrder_X9_placeOf : GoodIn wsX9_isInOrder wsX9_placeOf := goodIn_r _ [10, 6, 11, 12, 13, 4, 14, 15, 16, 17, 18, 19, 20, 21, 22, 23, 24, 25, 26, 27, 28, 29, 30, 31, 32, 33, 34, 35, 36, 37] (by decide +kernel) (by decide +kernel)
set_option maxRecDepth 20000 in
theorem gX9_isInOrder_X9_placeOf : GoodIn wsX9_isInOrder (wsV RX9 212 RX9 yX9_placeOf wsX9_placeOf) := goodIn_app (goodIn_of _ (by decide +kernel)) ggX9_isInOrder_X9_placeOf
theorem dX9_isInOrder_0 : decode cX9_isInOrder 0 = .ok (.bipush (-5), 2) := by decide +kernel
theorem dX9_isInOrder_2 : decode cX9_isInOrder 2 = .ok (.istore_n 2, 1) := by decide +kernel
theorem dX9_isInOrder_3 : decode cX9_isInOrder 3 = .ok (.iconst 1, 1) := by decide +kernel
theorem dX9_isInOrder_4 : decode cX9_isInOrder 4 = .ok (.istore_n 3, 1) := by decide +kernel
theorem dX9_isInOrder_5 : decode cX9_isInOrder 5 = .ok (.iconst 0, 1) := by decide +kernel
theorem dX9_isInOrder_6 : decode cX9_isInOrder 6 = .ok (.istore 4, 2) := by decide +kernel
theorem dX9_isInOrder_8 : decode cX9_isInOrder 8 = .ok (.iload 4, 2) := by decide +kernel
theorem dX9_isInOrder_10 : decode cX9_isInOrder 10 = .ok (.aload_n 0, 1) := by decide +kernel
theorem dX9_isInOrder_11 : decode cX9_isInOrder 11 = .ok (.iload_n 1, 1) := by decide +kernel
theorem dX9_isInOrder_12 : decode cX9_isInOrder 12 = .ok (.invokevirtual 50, 3) := by decide +kernel
theorem dX9_isInOrder_15 : decode cX9_isInOrder 15 = .ok (.if_icmp .ge 55, 3) := by decide +kernel
theorem dX9_isInOrder_18 : decode cX9_isInOrder 18 = .ok (.aload_n 0, 1) := by decide +kernel
theorem dX9_isInOrder_19 : decode cX9_isInOrder 19 = .ok (.iload_n 1, 1) := by decide +kernel
theorem dX9_isInOrder_20 : decode cX9_isInOrder 20 = .ok (.iload 4, 2) := by decide +kernel
theorem dX9_isInOrder_22 : decode cX9_isInOrder 22 = .ok (.invokevirtual 212, 3) := by decide +kernel
theorem dX9_isInOrder_25 : decode cX9_isInOrder 25 = .ok (.istore 5, 2) := by decide +kernel
theorem dX9_isInOrder_27 : decode cX9_isInOrder 27 = .ok (.iload_n 3, 1) := by decide +kernel
theorem dX9_isInOrder_28 : decode cX9_isInOrder 28 = .ok (.ifCond .eq 20, 3) := by decide +kernel
theorem dX9_isInOrder_31 : decode cX9_isInOrder 31 = .ok (.iload 5, 2) := by decide +kernel
theorem dX9_isInOrder_33 : decode cX9_isInOrder 33 = .ok (.bipush (-5), 2) := by decide +kernel
theorem dX9_isInOrder_35 : decode cX9_isInOrder 35 = .ok (.if_icmp .eq 9, 3) := by decide +kernel
theorem dX9_isInOrder_38 : decode cX9_isInOrder 38 = .ok (.iload 5, 2) := by decide +kernel
theorem dX9_isInOrder_40 : decode cX9_isInOrder 40 = .ok (.iload_n 2, 1) := by decide +kernel
theorem dX9_isInOrder_41 : decode cX9_isInOrder 41 = .ok (.if_icmp .le 7, 3) := by decide +kernel
theorem dX9_isInOrder_44 : decode cX9_isInOrder 44 = .ok (.iconst 1, 1) := by decide +kernel
theorem dX9_isInOrder_45 : decode cX9_isInOrder 45 = .ok (.goto 4, 3) := by decide +kernel
theorem dX9_isInOrder_48 : decode cX9_isInOrder 48 = .ok (.iconst 0, 1) := by decide +kernel
theorem dX9_isInOrder_49 : decode cX9_isInOrder 49 = .ok (.istore_n 3, 1) := by decide +kernel
theorem dX9_isInOrder_50 : decode cX9_isInOrder 50 = .ok (.iload 5, 2) := by decide +kernel
theorem dX9_isInOrder_52 : decode cX9_isInOrder 52 = .ok (.bipush (-5), 2) := by decide +kernel
theorem dX9_isInOrder_54 : decode cX9_isInOrder 54 = .ok (.if_icmp .ne 7, 3) := by decide +kernel
theorem dX9_isInOrder_57 : decode cX9_isInOrder 57 = .ok (.iload_n 2, 1) := by decide +kernel
theorem dX9_isInOrder_58 : decode cX9_isInOrder 58 = .ok (.goto 5, 3) := by decide +kernel
theorem dX9_isInOrder_61 : decode cX9_isInOrder 61 = .ok (.iload 5, 2) := by decide +kernel
theorem dX9_isInOrder_63 : decode cX9_isInOrder 63 = .ok (.istore_n 2, 1) := by decide +kernel
theorem dX9_isInOrder_64 : decode cX9_isInOrder 64 = .ok (.iinc 4 1, 3) := by decide +kernel
theorem dX9_isInOrder_67 : decode cX9_isInOrder 67 = .ok (.goto (-59), 3) := by decide +kernel
theorem dX9_isInOrder_70 : decode cX9_isInOrder 70 = .ok (.iload_n 3, 1) := by decide +kernel
theorem dX9_isInOrder_71 : decode cX9_isInOrder 71 = .ok (.ireturn, 1) := by decide +kernel
set_option maxRecDepth 20000 in
theorem ggX9_scene_X9_isScene : GoodIn wsX9_scene wsX9_isScene := goodIn_r _ [6, 1, 7, 8, 5, 9, 57, 58, 59, 60, 61, 62, 63, 64, 65, 66, 67, 68] (by decide +kernel) (by decide +kernel)
set_option maxRecDepth 20000 in
theorem gX9_scene_X9_isScene : GoodIn wsX9_scene (wsV RX9 46 RX9 yX9_isScene wsX9_isScene) := goodIn_app (goodIn_of _ (by decide +kernel)) ggX9_scene_X9_isScene
set_option maxRecDepth 20000 in
theorem ggX9_scene_X9_framesOnReel : GoodIn wsX9_scene wsX9_framesOnReel := goodIn_r _ [13, 1, 14, 15, 16, 5, 17, 18, 19, 20, 21, 57, 58, 59, 60, 61, 62, 63, 64, 65, 66, 67, 68] (by decide +kernel) (by decide +kernel)
set_option maxRecDepth 20000 in
theorem gX9_scene_X9_framesOnReel : GoodIn wsX9_scene (wsV RX9 215 RX9 yX9_framesOnReel wsX9_framesOnReel) := goodIn_app (goodIn_of _ (by decide +kernel)) ggX9_scene_X9_framesOnReel
set_option maxRecDepth 20000 in
theorem ggX9_scene_X9_piecesOf : GoodIn wsX9_scene wsX9_piecesOf := goodIn_r _ [25, 1, 14, 15, 16, 5, 17, 26, 27, 28, 29, 57, 58, 59, 60, 61, 62, 63, 64, 65, 66, 67, 68] (by decide +kernel) (by decide +kernel)
set_option maxRecDepth 20000 in
theorem gX9_scene_X9_piecesOf : GoodIn wsX9_scene (wsV RX9 218 RX9 yX9_piecesOf wsX9_piecesOf) := goodIn_app (goodIn_of _ (by decide +kernel)) ggX9_scene_X9_piecesOf
set_option maxRecDepth 20000 in
theorem ggX9_scene_X9_tornIn : GoodIn wsX9_scene wsX9_tornIn := goodIn_r _ [33, 34, 35, 36, 5, 37, 1, 38, 39, 40, 41, 42, 43, 44, 57, 58, 59, 60, 61, 62, 63, 64, 65, 66, 67, 68] (by decide +kernel) (by decide +kernel)
set_option maxRecDepth 20000 in
theorem gX9_scene_X9_tornIn : GoodIn wsX9_scene (wsV RX9 221 RX9 yX9_tornIn wsX9_tornIn) := goodIn_app (goodIn_of _ (by decide +kernel)) ggX9_scene_X9_tornIn
set_option maxRecDepth 20000 in
theorem ggX9_scene_X9_isInOrder : GoodIn wsX9_scene wsX9_isInOrder := goodIn_r _ [48, 34, 35, 36, 5, 37, 1, 49, 50, 51, 52, 14, 15, 16, 17, 7, 8, 9, 53, 54, 55, 56, 18, 19, 20, 21, 57, 58, 59, 60, 61, 62, 63, 64, 65, 66, 67, 68] (by decide +kernel) (by decide +kernel)
set_option maxRecDepth 20000 in
theorem gX9_scene_X9_isInOrder : GoodIn wsX9_scene (wsV RX9 224 RX9 yX9_isInOrder wsX9_isInOrder) := goodIn_app (goodIn_of _ (by decide +kernel)) ggX9_scene_X9_isInOrder
theorem dX9_scene_0 : decode cX9_scene 0 = .ok (.aload_n 0, 1) := by decide +kernel
theorem dX9_scene_1 : decode cX9_scene 1 = .ok (.iload_n 1, 1) := by decide +kernel
theorem dX9_scene_2 : decode cX9_scene 2 = .ok (.invokevirtual 46, 3) := by decide +kernel
theorem dX9_scene_5 : decode cX9_scene 5 = .ok (.ifCond .ne 5, 3) := by decide +kernel
theorem dX9_scene_8 : decode cX9_scene 8 = .ok (.iconst (-1), 1) := by decide +kernel
theorem dX9_scene_9 : decode cX9_scene 9 = .ok (.ireturn, 1) := by decide +kernel
theorem dX9_scene_10 : decode cX9_scene 10 = .ok (.iload_n 2, 1) := by decide +kernel
theorem dX9_scene_11 : decode cX9_scene 11 = .ok (.tableswitch 83 0 5 #[37, 37, 51, 57, 63, 69], 37) := by decide +kernel
theorem dX9_scene_48 : decode cX9_scene 48 = .ok (.aload_n 0, 1) := by decide +kernel
theorem dX9_scene_49 : decode cX9_scene 49 = .ok (.getfield 7, 3) := by decide +kernel
theorem dX9_scene_52 : decode cX9_scene 52 = .ok (.bipush 8, 2) := by decide +kernel
theorem dX9_scene_54 : decode cX9_scene 54 = .ok (.iconst 2, 1) := by decide +kernel
theorem dX9_scene_55 : decode cX9_scene 55 = .ok (.iload_n 1, 1) := by decide +kernel
theorem dX9_scene_56 : decode cX9_scene 56 = .ok (.imul, 1) := by decide +kernel
theorem dX9_scene_57 : decode cX9_scene 57 = .ok (.iadd, 1) := by decide +kernel
theorem dX9_scene_58 : decode cX9_scene 58 = .ok (.iload_n 2, 1) := by decide +kernel
theorem dX9_scene_59 : decode cX9_scene 59 = .ok (.iadd, 1) := by decide +kernel
theorem dX9_scene_60 : decode cX9_scene 60 = .ok (.iaload, 1) := by decide +kernel
theorem dX9_scene_61 : decode cX9_scene 61 = .ok (.ireturn, 1) := by decide +kernel
theorem dX9_scene_62 : decode cX9_scene 62 = .ok (.aload_n 0, 1) := by decide +kernel
theorem dX9_scene_63 : decode cX9_scene 63 = .ok (.iload_n 1, 1) := by decide +kernel
theorem dX9_scene_64 : decode cX9_scene 64 = .ok (.invokevirtual 215, 3) := by decide +kernel
theorem dX9_scene_67 : decode cX9_scene 67 = .ok (.ireturn, 1) := by decide +kernel
theorem dX9_scene_68 : decode cX9_scene 68 = .ok (.aload_n 0, 1) := by decide +kernel
theorem dX9_scene_69 : decode cX9_scene 69 = .ok (.iload_n 1, 1) := by decide +kernel
theorem dX9_scene_70 : decode cX9_scene 70 = .ok (.invokevirtual 218, 3) := by decide +kernel
theorem dX9_scene_73 : decode cX9_scene 73 = .ok (.ireturn, 1) := by decide +kernel
theorem dX9_scene_74 : decode cX9_scene 74 = .ok (.aload_n 0, 1) := by decide +kernel
theorem dX9_scene_75 : decode cX9_scene 75 = .ok (.iload_n 1, 1) := by decide +kernel
theorem dX9_scene_76 : decode cX9_scene 76 = .ok (.invokevirtual 221, 3) := by decide +kernel
theorem dX9_scene_79 : decode cX9_scene 79 = .ok (.ireturn, 1) := by decide +kernel
theorem dX9_scene_80 : decode cX9_scene 80 = .ok (.aload_n 0, 1) := by decide +kernel
theorem dX9_scene_81 : decode cX9_scene 81 = .ok (.iload_n 1, 1) := by decide +kernel
theorem dX9_scene_82 : decode cX9_scene 82 = .ok (.invokevirtual 224, 3) := by decide +kernel
theorem dX9_scene_85 : decode cX9_scene 85 = .ok (.ifCond .eq 7, 3) := by decide +kernel
theorem dX9_scene_88 : decode cX9_scene 88 = .ok (.iconst 1, 1) := by decide +kernel
theorem dX9_scene_89 : decode cX9_scene 89 = .ok (.goto 4, 3) := by decide +kernel
theorem dX9_scene_92 : decode cX9_scene 92 = .ok (.iconst 0, 1) := by decide +kernel
theorem dX9_scene_93 : decode cX9_scene 93 = .ok (.ireturn, 1) := by decide +kernel
theorem dX9_scene_94 : decode cX9_scene 94 = .ok (.bipush (-2), 2) := by decide +kernel
theorem dX9_scene_96 : decode cX9_scene 96 = .ok (.ireturn, 1) := by decide +kernel
set_option maxRecDepth 20000 in
theorem ggX9_piece_X9_isPiece : GoodIn wsX9_piece wsX9_isPiece := goodIn_r _ [5, 6, 7, 8, 4, 9, 22, 23, 24, 25, 26, 27, 28, 29, 30, 31, 32, 33] (by decide +kernel) (by decide +kernel)
set_option maxRecDepth 20000 in
theorem gX9_piece_X9_isPiece : GoodIn wsX9_piece (wsV RX9 74 RX9 yX9_isPiece wsX9_isPiece) := goodIn_app (goodIn_of _ (by decide +kernel)) ggX9_piece_X9_isPiece
set_option maxRecDepth 20000 in
theorem ggX9_piece_X9_isIn : GoodIn wsX9_piece wsX9_isIn := goodIn_r _ [9] (by decide +kernel) (by decide +kernel)
set_option maxRecDepth 20000 in
theorem gX9_piece_X9_isIn : GoodIn wsX9_piece (va_wsS RX9 42 yX9_isIn wsX9_isIn) := goodIn_app (goodIn_of _ (by decide +kernel)) ggX9_piece_X9_isIn
set_option maxRecDepth 20000 in
theorem ggX9_piece_X9_ofP : GoodIn wsX9_piece wsX9_ofP := goodIn_r _ [13, 6, 22, 23, 24, 25, 26, 27, 28, 29, 30, 31, 32, 33] (by decide +kernel) (by decide +kernel)
set_option maxRecDepth 20000 in
theorem gX9_piece_X9_ofP : GoodIn wsX9_piece (wsV RX9 54 RX9 yX9_ofP wsX9_ofP) := goodIn_app (goodIn_of _ (by decide +kernel)) ggX9_piece_X9_ofP
set_option maxRecDepth 20000 in
theorem ggX9_piece_X9_positionOf : GoodIn wsX9_piece wsX9_positionOf := goodIn_r _ [17, 18, 19, 20, 4, 21, 10, 11, 12, 13, 6, 22, 23, 24, 25, 26, 27, 28, 29, 30, 31, 32, 33] (by decide +kernel) (by decide +kernel)
set_option maxRecDepth 20000 in
theorem gX9_piece_X9_positionOf : GoodIn wsX9_piece (wsV RX9 61 RX9 yX9_positionOf wsX9_positionOf) := goodIn_app (goodIn_of _ (by decide +kernel)) ggX9_piece_X9_positionOf
theorem dX9_piece_0 : decode cX9_piece 0 = .ok (.aload_n 0, 1) := by decide +kernel
theorem dX9_piece_1 : decode cX9_piece 1 = .ok (.iload_n 1, 1) := by decide +kernel
theorem dX9_piece_2 : decode cX9_piece 2 = .ok (.invokevirtual 74, 3) := by decide +kernel
theorem dX9_piece_5 : decode cX9_piece 5 = .ok (.ifCond .ne 5, 3) := by decide +kernel
theorem dX9_piece_8 : decode cX9_piece 8 = .ok (.iconst (-1), 1) := by decide +kernel
theorem dX9_piece_9 : decode cX9_piece 9 = .ok (.ireturn, 1) := by decide +kernel
theorem dX9_piece_10 : decode cX9_piece 10 = .ok (.iload_n 2, 1) := by decide +kernel
theorem dX9_piece_11 : decode cX9_piece 11 = .ok (.iconst 0, 1) := by decide +kernel
theorem dX9_piece_12 : decode cX9_piece 12 = .ok (.iconst 4, 1) := by decide +kernel
theorem dX9_piece_13 : decode cX9_piece 13 = .ok (.invokestatic 42, 3) := by decide +kernel
theorem dX9_piece_16 : decode cX9_piece 16 = .ok (.ifCond .ne 6, 3) := by decide +kernel
theorem dX9_piece_19 : decode cX9_piece 19 = .ok (.bipush (-2), 2) := by decide +kernel
theorem dX9_piece_21 : decode cX9_piece 21 = .ok (.ireturn, 1) := by decide +kernel
theorem dX9_piece_22 : decode cX9_piece 22 = .ok (.iload_n 2, 1) := by decide +kernel
theorem dX9_piece_23 : decode cX9_piece 23 = .ok (.iconst 3, 1) := by decide +kernel
theorem dX9_piece_24 : decode cX9_piece 24 = .ok (.if_icmp .ge 10, 3) := by decide +kernel
theorem dX9_piece_27 : decode cX9_piece 27 = .ok (.aload_n 0, 1) := by decide +kernel
theorem dX9_piece_28 : decode cX9_piece 28 = .ok (.iload_n 1, 1) := by decide +kernel
theorem dX9_piece_29 : decode cX9_piece 29 = .ok (.iload_n 2, 1) := by decide +kernel
theorem dX9_piece_30 : decode cX9_piece 30 = .ok (.invokevirtual 54, 3) := by decide +kernel
theorem dX9_piece_33 : decode cX9_piece 33 = .ok (.ireturn, 1) := by decide +kernel
theorem dX9_piece_34 : decode cX9_piece 34 = .ok (.iload_n 2, 1) := by decide +kernel
theorem dX9_piece_35 : decode cX9_piece 35 = .ok (.iconst 3, 1) := by decide +kernel
theorem dX9_piece_36 : decode cX9_piece 36 = .ok (.if_icmp .ne 11, 3) := by decide +kernel
theorem dX9_piece_39 : decode cX9_piece 39 = .ok (.aload_n 0, 1) := by decide +kernel
theorem dX9_piece_40 : decode cX9_piece 40 = .ok (.iload_n 1, 1) := by decide +kernel
theorem dX9_piece_41 : decode cX9_piece 41 = .ok (.invokevirtual 61, 3) := by decide +kernel
theorem dX9_piece_44 : decode cX9_piece 44 = .ok (.goto 9, 3) := by decide +kernel
theorem dX9_piece_47 : decode cX9_piece 47 = .ok (.aload_n 0, 1) := by decide +kernel
theorem dX9_piece_48 : decode cX9_piece 48 = .ok (.iload_n 1, 1) := by decide +kernel
theorem dX9_piece_49 : decode cX9_piece 49 = .ok (.iconst 3, 1) := by decide +kernel
theorem dX9_piece_50 : decode cX9_piece 50 = .ok (.invokevirtual 54, 3) := by decide +kernel
theorem dX9_piece_53 : decode cX9_piece 53 = .ok (.ireturn, 1) := by decide +kernel
set_option maxRecDepth 20000 in
theorem ggX9_canned_X9_isIn : GoodIn wsX9_canned wsX9_isIn := goodIn_r _ [5] (by decide +kernel) (by decide +kernel)
set_option maxRecDepth 20000 in
theorem gX9_canned_X9_isIn : GoodIn wsX9_canned (va_wsS RX9 42 yX9_isIn wsX9_isIn) := goodIn_app (goodIn_of _ (by decide +kernel)) ggX9_canned_X9_isIn
set_option maxRecDepth 20000 in
theorem ggX9_canned_X9_ofC : GoodIn wsX9_canned wsX9_ofC := goodIn_r _ [9, 1, 10, 11, 12, 13, 14, 15, 16, 17, 18, 19, 20, 21] (by decide +kernel) (by decide +kernel)
set_option maxRecDepth 20000 in
theorem gX9_canned_X9_ofC : GoodIn wsX9_canned (wsV RX9 109 RX9 yX9_ofC wsX9_ofC) := goodIn_app (goodIn_of _ (by decide +kernel)) ggX9_canned_X9_ofC
theorem dX9_canned_0 : decode cX9_canned 0 = .ok (.iload_n 1, 1) := by decide +kernel
theorem dX9_canned_1 : decode cX9_canned 1 = .ok (.iconst 0, 1) := by decide +kernel
theorem dX9_canned_2 : decode cX9_canned 2 = .ok (.aload_n 0, 1) := by decide +kernel
theorem dX9_canned_3 : decode cX9_canned 3 = .ok (.getfield 7, 3) := by decide +kernel
theorem dX9_canned_6 : decode cX9_canned 6 = .ok (.iconst 2, 1) := by decide +kernel
theorem dX9_canned_7 : decode cX9_canned 7 = .ok (.iaload, 1) := by decide +kernel
theorem dX9_canned_8 : decode cX9_canned 8 = .ok (.iconst 1, 1) := by decide +kernel
theorem dX9_canned_9 : decode cX9_canned 9 = .ok (.isub, 1) := by decide +kernel
theorem dX9_canned_10 : decode cX9_canned 10 = .ok (.invokestatic 42, 3) := by decide +kernel
theorem dX9_canned_13 : decode cX9_canned 13 = .ok (.ifCond .ne 5, 3) := by decide +kernel
theorem dX9_canned_16 : decode cX9_canned 16 = .ok (.iconst (-1), 1) := by decide +kernel
theorem dX9_canned_17 : decode cX9_canned 17 = .ok (.ireturn, 1) := by decide +kernel
theorem dX9_canned_18 : decode cX9_canned 18 = .ok (.iload_n 2, 1) := by decide +kernel
theorem dX9_canned_19 : decode cX9_canned 19 = .ok (.iconst 0, 1) := by decide +kernel
theorem dX9_canned_20 : decode cX9_canned 20 = .ok (.iconst 2, 1) := by decide +kernel
theorem dX9_canned_21 : decode cX9_canned 21 = .ok (.invokestatic 42, 3) := by decide +kernel
theorem dX9_canned_24 : decode cX9_canned 24 = .ok (.ifCond .eq 12, 3) := by decide +kernel
theorem dX9_canned_27 : decode cX9_canned 27 = .ok (.aload_n 0, 1) := by decide +kernel
theorem dX9_canned_28 : decode cX9_canned 28 = .ok (.iload_n 1, 1) := by decide +kernel
theorem dX9_canned_29 : decode cX9_canned 29 = .ok (.iload_n 2, 1) := by decide +kernel
theorem dX9_canned_30 : decode cX9_canned 30 = .ok (.invokevirtual 109, 3) := by decide +kernel
theorem dX9_canned_33 : decode cX9_canned 33 = .ok (.goto 5, 3) := by decide +kernel
theorem dX9_canned_36 : decode cX9_canned 36 = .ok (.bipush (-2), 2) := by decide +kernel
theorem dX9_canned_38 : decode cX9_canned 38 = .ok (.ireturn, 1) := by decide +kernel
set_option maxRecDepth 20000 in
theorem ggX9_frameAt_X9_onReel : GoodIn wsX9_frameAt wsX9_onReel := goodIn_r _ [5, 6, 7, 8, 9, 4, 10, 11, 12, 13, 14, 15, 16, 17, 18, 23, 24, 25, 26, 27, 28, 29, 30, 31, 32, 33, 34] (by decide +kernel) (by decide +kernel)
set_option maxRecDepth 20000 in
theorem gX9_frameAt_X9_onReel : GoodIn wsX9_frameAt (wsV RX9 81 RX9 yX9_onReel wsX9_onReel) := goodIn_app (goodIn_of _ (by decide +kernel)) ggX9_frameAt_X9_onReel
set_option maxRecDepth 20000 in
theorem ggX9_frameAt_X9_pieceAt : GoodIn wsX9_frameAt wsX9_pieceAt := goodIn_r _ [22, 7, 8, 9, 4, 10, 11, 12, 13, 14, 15, 16, 17, 18, 6, 23, 24, 25, 26, 27, 28, 29, 30, 31, 32, 33, 34] (by decide +kernel) (by decide +kernel)
set_option maxRecDepth 20000 in
theorem gX9_frameAt_X9_pieceAt : GoodIn wsX9_frameAt (wsV RX9 85 RX9 yX9_pieceAt wsX9_pieceAt) := goodIn_app (goodIn_of _ (by decide +kernel)) ggX9_frameAt_X9_pieceAt
set_option maxRecDepth 20000 in
theorem ggX9_frameAt_X9_ofP : GoodIn wsX9_frameAt wsX9_ofP := goodIn_r _ [18, 6, 23, 24, 25, 26, 27, 28, 29, 30, 31, 32, 33, 34] (by decide +kernel) (by decide +kernel)
set_option maxRecDepth 20000 in
theorem gX9_frameAt_X9_ofP : GoodIn wsX9_frameAt (wsV RX9 54 RX9 yX9_ofP wsX9_ofP) := goodIn_app (goodIn_of _ (by decide +kernel)) ggX9_frameAt_X9_ofP
set_option maxRecDepth 20000 in
theorem ggX9_frameAt_X9_positionOf : GoodIn wsX9_frameAt wsX9_positionOf := goodIn_r _ [10, 11, 12, 13, 4, 14, 15, 16, 17, 18, 6, 23, 24, 25, 26, 27, 28, 29, 30, 31, 32, 33, 34] (by decide +kernel) (by decide +kernel)
set_option maxRecDepth 20000 in
theorem gX9_frameAt_X9_positionOf : GoodIn wsX9_frameAt (wsV RX9 61 RX9 yX9_positionOf wsX9_positionOf) := goodIn_app (goodIn_of _ (by decide +kernel)) ggX9_frameAt_X9_positionOf
theorem dX9_frameAt_0 : decode cX9_frameAt 0 = .ok (.iload_n 1, 1) := by decide +kernel
theorem dX9_frameAt_1 : decode cX9_frameAt 1 = .ok (.ifCond .ge 6, 3) := by decide +kernel
theorem dX9_frameAt_4 : decode cX9_frameAt 4 = .ok (.bipush (-2), 2) := by decide +kernel
theorem dX9_frameAt_6 : decode cX9_frameAt 6 = .ok (.ireturn, 1) := by decide +kernel
theorem dX9_frameAt_7 : decode cX9_frameAt 7 = .ok (.iload_n 1, 1) := by decide +kernel
theorem dX9_frameAt_8 : decode cX9_frameAt 8 = .ok (.aload_n 0, 1) := by decide +kernel
theorem dX9_frameAt_9 : decode cX9_frameAt 9 = .ok (.invokevirtual 81, 3) := by decide +kernel
theorem dX9_frameAt_12 : decode cX9_frameAt 12 = .ok (.if_icmp .lt 6, 3) := by decide +kernel
theorem dX9_frameAt_15 : decode cX9_frameAt 15 = .ok (.bipush (-5), 2) := by decide +kernel
theorem dX9_frameAt_17 : decode cX9_frameAt 17 = .ok (.ireturn, 1) := by decide +kernel
theorem dX9_frameAt_18 : decode cX9_frameAt 18 = .ok (.aload_n 0, 1) := by decide +kernel
theorem dX9_frameAt_19 : decode cX9_frameAt 19 = .ok (.iload_n 1, 1) := by decide +kernel
theorem dX9_frameAt_20 : decode cX9_frameAt 20 = .ok (.invokevirtual 85, 3) := by decide +kernel
theorem dX9_frameAt_23 : decode cX9_frameAt 23 = .ok (.istore_n 2, 1) := by decide +kernel
theorem dX9_frameAt_24 : decode cX9_frameAt 24 = .ok (.bipush 100, 2) := by decide +kernel
theorem dX9_frameAt_26 : decode cX9_frameAt 26 = .ok (.aload_n 0, 1) := by decide +kernel
theorem dX9_frameAt_27 : decode cX9_frameAt 27 = .ok (.iload_n 2, 1) := by decide +kernel
theorem dX9_frameAt_28 : decode cX9_frameAt 28 = .ok (.iconst 0, 1) := by decide +kernel
theorem dX9_frameAt_29 : decode cX9_frameAt 29 = .ok (.invokevirtual 54, 3) := by decide +kernel
theorem dX9_frameAt_32 : decode cX9_frameAt 32 = .ok (.imul, 1) := by decide +kernel
theorem dX9_frameAt_33 : decode cX9_frameAt 33 = .ok (.aload_n 0, 1) := by decide +kernel
theorem dX9_frameAt_34 : decode cX9_frameAt 34 = .ok (.iload_n 2, 1) := by decide +kernel
theorem dX9_frameAt_35 : decode cX9_frameAt 35 = .ok (.iconst 1, 1) := by decide +kernel
theorem dX9_frameAt_36 : decode cX9_frameAt 36 = .ok (.invokevirtual 54, 3) := by decide +kernel
theorem dX9_frameAt_39 : decode cX9_frameAt 39 = .ok (.iadd, 1) := by decide +kernel
theorem dX9_frameAt_40 : decode cX9_frameAt 40 = .ok (.iload_n 1, 1) := by decide +kernel
theorem dX9_frameAt_41 : decode cX9_frameAt 41 = .ok (.iadd, 1) := by decide +kernel
theorem dX9_frameAt_42 : decode cX9_frameAt 42 = .ok (.aload_n 0, 1) := by decide +kernel
theorem dX9_frameAt_43 : decode cX9_frameAt 43 = .ok (.iload_n 2, 1) := by decide +kernel
theorem dX9_frameAt_44 : decode cX9_frameAt 44 = .ok (.invokevirtual 61, 3) := by decide +kernel
theorem dX9_frameAt_47 : decode cX9_frameAt 47 = .ok (.isub, 1) := by decide +kernel
theorem dX9_frameAt_48 : decode cX9_frameAt 48 = .ok (.ireturn, 1) := by decide +kernel
set_option maxRecDepth 20000 in
theorem ggX9_frame_X9_isFrame : GoodIn wsX9_frame wsX9_isFrame := goodIn_r _ [5, 6, 7, 8, 4, 9, 10, 11, 12, 13, 14, 15, 16, 17, 49, 50, 51, 52, 53, 54, 55, 56, 57, 58, 59, 60] (by decide +kernel) (by decide +kernel)
set_option maxRecDepth 20000 in
theorem gX9_frame_X9_isFrame : GoodIn wsX9_frame (wsV RX9 124 RX9 yX9_isFrame wsX9_isFrame) := goodIn_app (goodIn_of _ (by decide +kernel)) ggX9_frame_X9_isFrame
set_option maxRecDepth 20000 in
theorem ggX9_frame_X9_placeOf : GoodIn wsX9_frame wsX9_placeOf := goodIn_r _ [21, 10, 22, 23, 24, 4, 25, 11, 12, 13, 26, 27, 28, 29, 30, 31, 32, 33, 49, 50, 51, 52, 53, 54, 55, 56, 57, 58, 59, 60] (by decide +kernel) (by decide +kernel)
set_option maxRecDepth 20000 in
theorem gX9_frame_X9_placeOf : GoodIn wsX9_frame (wsV RX9 212 RX9 yX9_placeOf wsX9_placeOf) := goodIn_app (goodIn_of _ (by decide +kernel)) ggX9_frame_X9_placeOf
set_option maxRecDepth 20000 in
theorem ggX9_frame_X9_torn : GoodIn wsX9_frame wsX9_torn := goodIn_r _ [37, 10, 49, 50, 51, 52, 53, 54, 55, 56, 57, 58, 59, 60] (by decide +kernel) (by decide +kernel)
set_option maxRecDepth 20000 in
theorem gX9_frame_X9_torn : GoodIn wsX9_frame (wsV RX9 64 RX9 yX9_torn wsX9_torn) := goodIn_app (goodIn_of _ (by decide +kernel)) ggX9_frame_X9_torn
set_option maxRecDepth 20000 in
theorem ggX9_frame_X9_passes : GoodIn wsX9_frame wsX9_passes := goodIn_r _ [41, 10, 49, 50, 51, 52, 53, 54, 55, 56, 57, 58, 59, 60] (by decide +kernel) (by decide +kernel)
set_option maxRecDepth 20000 in
theorem gX9_frame_X9_passes : GoodIn wsX9_frame (wsV RX9 134 RX9 yX9_passes wsX9_passes) := goodIn_app (goodIn_of _ (by decide +kernel)) ggX9_frame_X9_passes
set_option maxRecDepth 20000 in
theorem ggX9_frame_X9_good : GoodIn wsX9_frame wsX9_good := goodIn_r _ [45, 34, 35, 36, 4, 37, 10, 46, 47, 48, 49, 50, 51, 52, 53, 54, 55, 56, 57, 58, 59, 60] (by decide +kernel) (by decide +kernel)
set_option maxRecDepth 20000 in
theorem gX9_frame_X9_good : GoodIn wsX9_frame (wsV RX9 131 RX9 yX9_good wsX9_good) := goodIn_app (goodIn_of _ (by decide +kernel)) ggX9_frame_X9_good
theorem dX9_frame_0 : decode cX9_frame 0 = .ok (.aload_n 0, 1) := by decide +kernel
theorem dX9_frame_1 : decode cX9_frame 1 = .ok (.iload_n 1, 1) := by decide +kernel
theorem dX9_frame_2 : decode cX9_frame 2 = .ok (.iload_n 2, 1) := by decide +kernel
theorem dX9_frame_3 : decode cX9_frame 3 = .ok (.invokevirtual 124, 3) := by decide +kernel
theorem dX9_frame_6 : decode cX9_frame 6 = .ok (.ifCond .ne 5, 3) := by decide +kernel
theorem dX9_frame_9 : decode cX9_frame 9 = .ok (.iconst (-1), 1) := by decide +kernel
theorem dX9_frame_10 : decode cX9_frame 10 = .ok (.ireturn, 1) := by decide +kernel
theorem dX9_frame_11 : decode cX9_frame 11 = .ok (.iload_n 3, 1) := by decide +kernel
theorem dX9_frame_12 : decode cX9_frame 12 = .ok (.tableswitch 69 0 3 #[32, 39, 46, 53], 32) := by decide +kernel
theorem dX9_frame_44 : decode cX9_frame 44 = .ok (.aload_n 0, 1) := by decide +kernel
theorem dX9_frame_45 : decode cX9_frame 45 = .ok (.iload_n 1, 1) := by decide +kernel
theorem dX9_frame_46 : decode cX9_frame 46 = .ok (.iload_n 2, 1) := by decide +kernel
theorem dX9_frame_47 : decode cX9_frame 47 = .ok (.invokevirtual 212, 3) := by decide +kernel
theorem dX9_frame_50 : decode cX9_frame 50 = .ok (.ireturn, 1) := by decide +kernel
theorem dX9_frame_51 : decode cX9_frame 51 = .ok (.aload_n 0, 1) := by decide +kernel
theorem dX9_frame_52 : decode cX9_frame 52 = .ok (.iload_n 1, 1) := by decide +kernel
theorem dX9_frame_53 : decode cX9_frame 53 = .ok (.iload_n 2, 1) := by decide +kernel
theorem dX9_frame_54 : decode cX9_frame 54 = .ok (.invokevirtual 64, 3) := by decide +kernel
theorem dX9_frame_57 : decode cX9_frame 57 = .ok (.ireturn, 1) := by decide +kernel
theorem dX9_frame_58 : decode cX9_frame 58 = .ok (.aload_n 0, 1) := by decide +kernel
theorem dX9_frame_59 : decode cX9_frame 59 = .ok (.iload_n 1, 1) := by decide +kernel
theorem dX9_frame_60 : decode cX9_frame 60 = .ok (.iload_n 2, 1) := by decide +kernel
theorem dX9_frame_61 : decode cX9_frame 61 = .ok (.invokevirtual 134, 3) := by decide +kernel
theorem dX9_frame_64 : decode cX9_frame 64 = .ok (.ireturn, 1) := by decide +kernel
theorem dX9_frame_65 : decode cX9_frame 65 = .ok (.aload_n 0, 1) := by decide +kernel
theorem dX9_frame_66 : decode cX9_frame 66 = .ok (.iload_n 1, 1) := by decide +kernel
theorem dX9_frame_67 : decode cX9_frame 67 = .ok (.iload_n 2, 1) := by decide +kernel
theorem dX9_frame_68 : decode cX9_frame 68 = .ok (.invokevirtual 131, 3) := by decide +kernel
theorem dX9_frame_71 : decode cX9_frame 71 = .ok (.iconst 2, 1) := by decide +kernel
theorem dX9_frame_72 : decode cX9_frame 72 = .ok (.if_icmp .lt 7, 3) := by decide +kernel
theorem dX9_frame_75 : decode cX9_frame 75 = .ok (.iconst 1, 1) := by decide +kernel
theorem dX9_frame_76 : decode cX9_frame 76 = .ok (.goto 4, 3) := by decide +kernel
theorem dX9_frame_79 : decode cX9_frame 79 = .ok (.iconst 0, 1) := by decide +kernel
theorem dX9_frame_80 : decode cX9_frame 80 = .ok (.ireturn, 1) := by decide +kernel
theorem dX9_frame_81 : decode cX9_frame 81 = .ok (.bipush (-2), 2) := by decide +kernel
theorem dX9_frame_83 : decode cX9_frame 83 = .ok (.ireturn, 1) := by decide +kernel
set_option maxRecDepth 20000 in
theorem ggX9_framesInCan_X9_ofC : GoodIn wsX9_framesInCan wsX9_ofC := goodIn_r _ [6, 1, 7, 8, 9, 10, 11, 12, 13, 14, 15, 16, 17, 18] (by decide +kernel) (by decide +kernel)
set_option maxRecDepth 20000 in
theorem gX9_framesInCan_X9_ofC : GoodIn wsX9_framesInCan (wsV RX9 109 RX9 yX9_ofC wsX9_ofC) := goodIn_app (goodIn_of _ (by decide +kernel)) ggX9_framesInCan_X9_ofC
theorem dX9_framesInCan_0 : decode cX9_framesInCan 0 = .ok (.iconst 0, 1) := by decide +kernel
theorem dX9_framesInCan_1 : decode cX9_framesInCan 1 = .ok (.istore_n 1, 1) := by decide +kernel
theorem dX9_framesInCan_2 : decode cX9_framesInCan 2 = .ok (.iconst 0, 1) := by decide +kernel
theorem dX9_framesInCan_3 : decode cX9_framesInCan 3 = .ok (.istore_n 2, 1) := by decide +kernel
theorem dX9_framesInCan_4 : decode cX9_framesInCan 4 = .ok (.iload_n 2, 1) := by decide +kernel
theorem dX9_framesInCan_5 : decode cX9_framesInCan 5 = .ok (.aload_n 0, 1) := by decide +kernel
theorem dX9_framesInCan_6 : decode cX9_framesInCan 6 = .ok (.getfield 7, 3) := by decide +kernel
theorem dX9_framesInCan_9 : decode cX9_framesInCan 9 = .ok (.iconst 2, 1) := by decide +kernel
theorem dX9_framesInCan_10 : decode cX9_framesInCan 10 = .ok (.iaload, 1) := by decide +kernel
theorem dX9_framesInCan_11 : decode cX9_framesInCan 11 = .ok (.if_icmp .ge 27, 3) := by decide +kernel
theorem dX9_framesInCan_14 : decode cX9_framesInCan 14 = .ok (.iload_n 1, 1) := by decide +kernel
theorem dX9_framesInCan_15 : decode cX9_framesInCan 15 = .ok (.aload_n 0, 1) := by decide +kernel
theorem dX9_framesInCan_16 : decode cX9_framesInCan 16 = .ok (.iload_n 2, 1) := by decide +kernel
theorem dX9_framesInCan_17 : decode cX9_framesInCan 17 = .ok (.iconst 2, 1) := by decide +kernel
theorem dX9_framesInCan_18 : decode cX9_framesInCan 18 = .ok (.invokevirtual 109, 3) := by decide +kernel
theorem dX9_framesInCan_21 : decode cX9_framesInCan 21 = .ok (.aload_n 0, 1) := by decide +kernel
theorem dX9_framesInCan_22 : decode cX9_framesInCan 22 = .ok (.iload_n 2, 1) := by decide +kernel
theorem dX9_framesInCan_23 : decode cX9_framesInCan 23 = .ok (.iconst 1, 1) := by decide +kernel
theorem dX9_framesInCan_24 : decode cX9_framesInCan 24 = .ok (.invokevirtual 109, 3) := by decide +kernel
theorem dX9_framesInCan_27 : decode cX9_framesInCan 27 = .ok (.isub, 1) := by decide +kernel
theorem dX9_framesInCan_28 : decode cX9_framesInCan 28 = .ok (.iconst 1, 1) := by decide +kernel
theorem dX9_framesInCan_29 : decode cX9_framesInCan 29 = .ok (.iadd, 1) := by decide +kernel
theorem dX9_framesInCan_30 : decode cX9_framesInCan 30 = .ok (.iadd, 1) := by decide +kernel
theorem dX9_framesInCan_31 : decode cX9_framesInCan 31 = .ok (.istore_n 1, 1) := by decide +kernel
theorem dX9_framesInCan_32 : decode cX9_framesInCan 32 = .ok (.iinc 2 1, 3) := by decide +kernel
theorem dX9_framesInCan_35 : decode cX9_framesInCan 35 = .ok (.goto (-31), 3) := by decide +kernel
theorem dX9_framesInCan_38 : decode cX9_framesInCan 38 = .ok (.iload_n 1, 1) := by decide +kernel
theorem dX9_framesInCan_39 : decode cX9_framesInCan 39 = .ok (.ireturn, 1) := by decide +kernel
set_option maxRecDepth 20000 in
theorem ggX9_allTorn_X9_tornIn : GoodIn wsX9_allTorn wsX9_tornIn := goodIn_r _ [6, 7, 8, 9, 5, 10, 1, 11, 12, 13, 14, 15, 16, 17, 18, 19, 20, 21, 22, 23, 24, 25, 26, 27, 28, 29] (by decide +kernel) (by decide +kernel)
set_option maxRecDepth 20000 in
theorem gX9_allTorn_X9_tornIn : GoodIn wsX9_allTorn (wsV RX9 221 RX9 yX9_tornIn wsX9_tornIn) := goodIn_app (goodIn_of _ (by decide +kernel)) ggX9_allTorn_X9_tornIn
theorem dX9_allTorn_0 : decode cX9_allTorn 0 = .ok (.iconst 0, 1) := by decide +kernel
theorem dX9_allTorn_1 : decode cX9_allTorn 1 = .ok (.istore_n 1, 1) := by decide +kernel
theorem dX9_allTorn_2 : decode cX9_allTorn 2 = .ok (.iconst 0, 1) := by decide +kernel
theorem dX9_allTorn_3 : decode cX9_allTorn 3 = .ok (.istore_n 2, 1) := by decide +kernel
theorem dX9_allTorn_4 : decode cX9_allTorn 4 = .ok (.iload_n 2, 1) := by decide +kernel
theorem dX9_allTorn_5 : decode cX9_allTorn 5 = .ok (.aload_n 0, 1) := by decide +kernel
theorem dX9_allTorn_6 : decode cX9_allTorn 6 = .ok (.getfield 7, 3) := by decide +kernel
theorem dX9_allTorn_9 : decode cX9_allTorn 9 = .ok (.iconst 0, 1) := by decide +kernel
theorem dX9_allTorn_10 : decode cX9_allTorn 10 = .ok (.iaload, 1) := by decide +kernel
theorem dX9_allTorn_11 : decode cX9_allTorn 11 = .ok (.if_icmp .ge 17, 3) := by decide +kernel
theorem dX9_allTorn_14 : decode cX9_allTorn 14 = .ok (.iload_n 1, 1) := by decide +kernel
theorem dX9_allTorn_15 : decode cX9_allTorn 15 = .ok (.aload_n 0, 1) := by decide +kernel
theorem dX9_allTorn_16 : decode cX9_allTorn 16 = .ok (.iload_n 2, 1) := by decide +kernel
theorem dX9_allTorn_17 : decode cX9_allTorn 17 = .ok (.invokevirtual 221, 3) := by decide +kernel
theorem dX9_allTorn_20 : decode cX9_allTorn 20 = .ok (.iadd, 1) := by decide +kernel
theorem dX9_allTorn_21 : decode cX9_allTorn 21 = .ok (.istore_n 1, 1) := by decide +kernel
theorem dX9_allTorn_22 : decode cX9_allTorn 22 = .ok (.iinc 2 1, 3) := by decide +kernel
theorem dX9_allTorn_25 : decode cX9_allTorn 25 = .ok (.goto (-21), 3) := by decide +kernel
theorem dX9_allTorn_28 : decode cX9_allTorn 28 = .ok (.iload_n 1, 1) := by decide +kernel
theorem dX9_allTorn_29 : decode cX9_allTorn 29 = .ok (.ireturn, 1) := by decide +kernel
set_option maxRecDepth 20000 in
theorem ggX9_breaks_X9_ofP : GoodIn wsX9_breaks wsX9_ofP := goodIn_r _ [6, 1, 7, 8, 9, 10, 11, 12, 13, 14, 15, 16, 17, 18] (by decide +kernel) (by decide +kernel)
set_option maxRecDepth 20000 in
theorem gX9_breaks_X9_ofP : GoodIn wsX9_breaks (wsV RX9 54 RX9 yX9_ofP wsX9_ofP) := goodIn_app (goodIn_of _ (by decide +kernel)) ggX9_breaks_X9_ofP
theorem dX9_breaks_0 : decode cX9_breaks 0 = .ok (.iconst 0, 1) := by decide +kernel
theorem dX9_breaks_1 : decode cX9_breaks 1 = .ok (.istore_n 1, 1) := by decide +kernel
theorem dX9_breaks_2 : decode cX9_breaks 2 = .ok (.iconst 1, 1) := by decide +kernel
theorem dX9_breaks_3 : decode cX9_breaks 3 = .ok (.istore_n 2, 1) := by decide +kernel
theorem dX9_breaks_4 : decode cX9_breaks 4 = .ok (.iload_n 2, 1) := by decide +kernel
theorem dX9_breaks_5 : decode cX9_breaks 5 = .ok (.aload_n 0, 1) := by decide +kernel
theorem dX9_breaks_6 : decode cX9_breaks 6 = .ok (.getfield 7, 3) := by decide +kernel
theorem dX9_breaks_9 : decode cX9_breaks 9 = .ok (.iconst 1, 1) := by decide +kernel
theorem dX9_breaks_10 : decode cX9_breaks 10 = .ok (.iaload, 1) := by decide +kernel
theorem dX9_breaks_11 : decode cX9_breaks 11 = .ok (.if_icmp .ge 33, 3) := by decide +kernel
theorem dX9_breaks_14 : decode cX9_breaks 14 = .ok (.iload_n 1, 1) := by decide +kernel
theorem dX9_breaks_15 : decode cX9_breaks 15 = .ok (.aload_n 0, 1) := by decide +kernel
theorem dX9_breaks_16 : decode cX9_breaks 16 = .ok (.iload_n 2, 1) := by decide +kernel
theorem dX9_breaks_17 : decode cX9_breaks 17 = .ok (.iconst 3, 1) := by decide +kernel
theorem dX9_breaks_18 : decode cX9_breaks 18 = .ok (.invokevirtual 54, 3) := by decide +kernel
theorem dX9_breaks_21 : decode cX9_breaks 21 = .ok (.aload_n 0, 1) := by decide +kernel
theorem dX9_breaks_22 : decode cX9_breaks 22 = .ok (.getfield 7, 3) := by decide +kernel
theorem dX9_breaks_25 : decode cX9_breaks 25 = .ok (.bipush 7, 2) := by decide +kernel
theorem dX9_breaks_27 : decode cX9_breaks 27 = .ok (.iaload, 1) := by decide +kernel
theorem dX9_breaks_28 : decode cX9_breaks 28 = .ok (.if_icmp .lt 7, 3) := by decide +kernel
theorem dX9_breaks_31 : decode cX9_breaks 31 = .ok (.iconst 1, 1) := by decide +kernel
theorem dX9_breaks_32 : decode cX9_breaks 32 = .ok (.goto 4, 3) := by decide +kernel
theorem dX9_breaks_35 : decode cX9_breaks 35 = .ok (.iconst 0, 1) := by decide +kernel
theorem dX9_breaks_36 : decode cX9_breaks 36 = .ok (.iadd, 1) := by decide +kernel
theorem dX9_breaks_37 : decode cX9_breaks 37 = .ok (.istore_n 1, 1) := by decide +kernel
theorem dX9_breaks_38 : decode cX9_breaks 38 = .ok (.iinc 2 1, 3) := by decide +kernel
theorem dX9_breaks_41 : decode cX9_breaks 41 = .ok (.goto (-37), 3) := by decide +kernel
theorem dX9_breaks_44 : decode cX9_breaks 44 = .ok (.iload_n 1, 1) := by decide +kernel
theorem dX9_breaks_45 : decode cX9_breaks 45 = .ok (.ireturn, 1) := by decide +kernel
set_option maxRecDepth 20000 in
theorem ggX9_count_X9_onReel : GoodIn wsX9_count wsX9_onReel := goodIn_r _ [8, 1, 9, 10, 11, 7, 12, 13, 14, 15, 16, 17, 18, 19, 20, 52, 53, 54, 55, 56, 57, 58, 59, 60, 61, 62, 63] (by decide +kernel) (by decide +kernel)
set_option maxRecDepth 20000 in
theorem gX9_count_X9_onReel : GoodIn wsX9_count (wsV RX9 81 RX9 yX9_onReel wsX9_onReel) := goodIn_app (goodIn_of _ (by decide +kernel)) ggX9_count_X9_onReel
set_option maxRecDepth 20000 in
theorem ggX9_count_X9_framesInCan : GoodIn wsX9_count wsX9_framesInCan := goodIn_r _ [24, 1, 25, 26, 27, 7, 28, 52, 53, 54, 55, 56, 57, 58, 59, 60, 61, 62, 63] (by decide +kernel) (by decide +kernel)
set_option maxRecDepth 20000 in
theorem gX9_count_X9_framesInCan : GoodIn wsX9_count (wsV RX9 227 RX9 yX9_framesInCan wsX9_framesInCan) := goodIn_app (goodIn_of _ (by decide +kernel)) ggX9_count_X9_framesInCan
set_option maxRecDepth 20000 in
theorem ggX9_count_X9_allTorn : GoodIn wsX9_count wsX9_allTorn := goodIn_r _ [32, 1, 33, 34, 35, 7, 36, 37, 38, 39, 40, 41, 42, 43, 44, 45, 46, 47, 52, 53, 54, 55, 56, 57, 58, 59, 60, 61, 62, 63] (by decide +kernel) (by decide +kernel)
set_option maxRecDepth 20000 in
theorem gX9_count_X9_allTorn : GoodIn wsX9_count (wsV RX9 230 RX9 yX9_allTorn wsX9_allTorn) := goodIn_app (goodIn_of _ (by decide +kernel)) ggX9_count_X9_allTorn
set_option maxRecDepth 20000 in
theorem ggX9_count_X9_breaks : GoodIn wsX9_count wsX9_breaks := goodIn_r _ [51, 1, 17, 18, 19, 7, 20, 52, 53, 54, 55, 56, 57, 58, 59, 60, 61, 62, 63] (by decide +kernel) (by decide +kernel)
set_option maxRecDepth 20000 in
theorem gX9_count_X9_breaks : GoodIn wsX9_count (wsV RX9 233 RX9 yX9_breaks wsX9_breaks) := goodIn_app (goodIn_of _ (by decide +kernel)) ggX9_count_X9_breaks
theorem dX9_count_0 : decode cX9_count 0 = .ok (.iload_n 1, 1) := by decide +kernel
theorem dX9_count_1 : decode cX9_count 1 = .ok (.tableswitch 117 0 13 #[71, 71, 71, 78, 83, 88, 88, 88, 88, 88, 97, 102, 107, 112], 71) := by decide +kernel
theorem dX9_count_72 : decode cX9_count 72 = .ok (.aload_n 0, 1) := by decide +kernel
theorem dX9_count_73 : decode cX9_count 73 = .ok (.getfield 7, 3) := by decide +kernel
theorem dX9_count_76 : decode cX9_count 76 = .ok (.iload_n 1, 1) := by decide +kernel
theorem dX9_count_77 : decode cX9_count 77 = .ok (.iaload, 1) := by decide +kernel
theorem dX9_count_78 : decode cX9_count 78 = .ok (.ireturn, 1) := by decide +kernel
theorem dX9_count_79 : decode cX9_count 79 = .ok (.aload_n 0, 1) := by decide +kernel
theorem dX9_count_80 : decode cX9_count 80 = .ok (.invokevirtual 81, 3) := by decide +kernel
theorem dX9_count_83 : decode cX9_count 83 = .ok (.ireturn, 1) := by decide +kernel
theorem dX9_count_84 : decode cX9_count 84 = .ok (.aload_n 0, 1) := by decide +kernel
theorem dX9_count_85 : decode cX9_count 85 = .ok (.invokevirtual 227, 3) := by decide +kernel
theorem dX9_count_88 : decode cX9_count 88 = .ok (.ireturn, 1) := by decide +kernel
theorem dX9_count_89 : decode cX9_count 89 = .ok (.aload_n 0, 1) := by decide +kernel
theorem dX9_count_90 : decode cX9_count 90 = .ok (.getfield 7, 3) := by decide +kernel
theorem dX9_count_93 : decode cX9_count 93 = .ok (.iload_n 1, 1) := by decide +kernel
theorem dX9_count_94 : decode cX9_count 94 = .ok (.iconst 2, 1) := by decide +kernel
theorem dX9_count_95 : decode cX9_count 95 = .ok (.isub, 1) := by decide +kernel
theorem dX9_count_96 : decode cX9_count 96 = .ok (.iaload, 1) := by decide +kernel
theorem dX9_count_97 : decode cX9_count 97 = .ok (.ireturn, 1) := by decide +kernel
theorem dX9_count_98 : decode cX9_count 98 = .ok (.aload_n 0, 1) := by decide +kernel
theorem dX9_count_99 : decode cX9_count 99 = .ok (.invokevirtual 230, 3) := by decide +kernel
theorem dX9_count_102 : decode cX9_count 102 = .ok (.ireturn, 1) := by decide +kernel
theorem dX9_count_103 : decode cX9_count 103 = .ok (.aload_n 0, 1) := by decide +kernel
theorem dX9_count_104 : decode cX9_count 104 = .ok (.invokevirtual 233, 3) := by decide +kernel
theorem dX9_count_107 : decode cX9_count 107 = .ok (.ireturn, 1) := by decide +kernel
theorem dX9_count_108 : decode cX9_count 108 = .ok (.aload_n 0, 1) := by decide +kernel
theorem dX9_count_109 : decode cX9_count 109 = .ok (.getfield 23, 3) := by decide +kernel
theorem dX9_count_112 : decode cX9_count 112 = .ok (.ireturn, 1) := by decide +kernel
theorem dX9_count_113 : decode cX9_count 113 = .ok (.aload_n 0, 1) := by decide +kernel
theorem dX9_count_114 : decode cX9_count 114 = .ok (.getfield 172, 3) := by decide +kernel
theorem dX9_count_117 : decode cX9_count 117 = .ok (.ireturn, 1) := by decide +kernel
theorem dX9_count_118 : decode cX9_count 118 = .ok (.bipush (-2), 2) := by decide +kernel
theorem dX9_count_120 : decode cX9_count 120 = .ok (.ireturn, 1) := by decide +kernel
theorem dJ6_lowestOneBit_0f7a4_0 : decode cJ6_lowestOneBit_0f7a4 0 = .ok (.iload_n 0, 1) := by decide +kernel
theorem dJ6_lowestOneBit_0f7a4_1 : decode cJ6_lowestOneBit_0f7a4 1 = .ok (.iload_n 0, 1) := by decide +kernel
theorem dJ6_lowestOneBit_0f7a4_2 : decode cJ6_lowestOneBit_0f7a4 2 = .ok (.ineg, 1) := by decide +kernel
theorem dJ6_lowestOneBit_0f7a4_3 : decode cJ6_lowestOneBit_0f7a4 3 = .ok (.iand, 1) := by decide +kernel
theorem dJ6_lowestOneBit_0f7a4_4 : decode cJ6_lowestOneBit_0f7a4 4 = .ok (.ireturn, 1) := by decide +kernel
theorem dJ6_bitCount_0f7a4_0 : decode cJ6_bitCount_0f7a4 0 = .ok (.iload_n 0, 1) := by decide +kernel
theorem dJ6_bitCount_0f7a4_1 : decode cJ6_bitCount_0f7a4 1 = .ok (.iload_n 0, 1) := by decide +kernel
theorem dJ6_bitCount_0f7a4_2 : decode cJ6_bitCount_0f7a4 2 = .ok (.iconst 1, 1) := by decide +kernel
theorem dJ6_bitCount_0f7a4_3 : decode cJ6_bitCount_0f7a4 3 = .ok (.iushr, 1) := by decide +kernel
theorem dJ6_bitCount_0f7a4_4 : decode cJ6_bitCount_0f7a4 4 = .ok (.ldc_w 265, 3) := by decide +kernel
theorem dJ6_bitCount_0f7a4_7 : decode cJ6_bitCount_0f7a4 7 = .ok (.iand, 1) := by decide +kernel
theorem dJ6_bitCount_0f7a4_8 : decode cJ6_bitCount_0f7a4 8 = .ok (.isub, 1) := by decide +kernel
theorem dJ6_bitCount_0f7a4_9 : decode cJ6_bitCount_0f7a4 9 = .ok (.istore_n 0, 1) := by decide +kernel
theorem dJ6_bitCount_0f7a4_10 : decode cJ6_bitCount_0f7a4 10 = .ok (.iload_n 0, 1) := by decide +kernel
theorem dJ6_bitCount_0f7a4_11 : decode cJ6_bitCount_0f7a4 11 = .ok (.ldc_w 266, 3) := by decide +kernel
theorem dJ6_bitCount_0f7a4_14 : decode cJ6_bitCount_0f7a4 14 = .ok (.iand, 1) := by decide +kernel
theorem dJ6_bitCount_0f7a4_15 : decode cJ6_bitCount_0f7a4 15 = .ok (.iload_n 0, 1) := by decide +kernel
theorem dJ6_bitCount_0f7a4_16 : decode cJ6_bitCount_0f7a4 16 = .ok (.iconst 2, 1) := by decide +kernel
theorem dJ6_bitCount_0f7a4_17 : decode cJ6_bitCount_0f7a4 17 = .ok (.iushr, 1) := by decide +kernel
theorem dJ6_bitCount_0f7a4_18 : decode cJ6_bitCount_0f7a4 18 = .ok (.ldc_w 266, 3) := by decide +kernel
theorem dJ6_bitCount_0f7a4_21 : decode cJ6_bitCount_0f7a4 21 = .ok (.iand, 1) := by decide +kernel
theorem dJ6_bitCount_0f7a4_22 : decode cJ6_bitCount_0f7a4 22 = .ok (.iadd, 1) := by decide +kernel
theorem dJ6_bitCount_0f7a4_23 : decode cJ6_bitCount_0f7a4 23 = .ok (.istore_n 0, 1) := by decide +kernel
theorem dJ6_bitCount_0f7a4_24 : decode cJ6_bitCount_0f7a4 24 = .ok (.iload_n 0, 1) := by decide +kernel
theorem dJ6_bitCount_0f7a4_25 : decode cJ6_bitCount_0f7a4 25 = .ok (.iload_n 0, 1) := by decide +kernel
theorem dJ6_bitCount_0f7a4_26 : decode cJ6_bitCount_0f7a4 26 = .ok (.iconst 4, 1) := by decide +kernel
theorem dJ6_bitCount_0f7a4_27 : decode cJ6_bitCount_0f7a4 27 = .ok (.iushr, 1) := by decide +kernel
theorem dJ6_bitCount_0f7a4_28 : decode cJ6_bitCount_0f7a4 28 = .ok (.iadd, 1) := by decide +kernel
theorem dJ6_bitCount_0f7a4_29 : decode cJ6_bitCount_0f7a4 29 = .ok (.ldc_w 267, 3) := by decide +kernel
theorem dJ6_bitCount_0f7a4_32 : decode cJ6_bitCount_0f7a4 32 = .ok (.iand, 1) := by decide +kernel
theorem dJ6_bitCount_0f7a4_33 : decode cJ6_bitCount_0f7a4 33 = .ok (.istore_n 0, 1) := by decide +kernel
theorem dJ6_bitCount_0f7a4_34 : decode cJ6_bitCount_0f7a4 34 = .ok (.iload_n 0, 1) := by decide +kernel
theorem dJ6_bitCount_0f7a4_35 : decode cJ6_bitCount_0f7a4 35 = .ok (.iload_n 0, 1) := by decide +kernel
theorem dJ6_bitCount_0f7a4_36 : decode cJ6_bitCount_0f7a4 36 = .ok (.bipush 8, 2) := by decide +kernel
theorem dJ6_bitCount_0f7a4_38 : decode cJ6_bitCount_0f7a4 38 = .ok (.iushr, 1) := by decide +kernel
theorem dJ6_bitCount_0f7a4_39 : decode cJ6_bitCount_0f7a4 39 = .ok (.iadd, 1) := by decide +kernel
theorem dJ6_bitCount_0f7a4_40 : decode cJ6_bitCount_0f7a4 40 = .ok (.istore_n 0, 1) := by decide +kernel
theorem dJ6_bitCount_0f7a4_41 : decode cJ6_bitCount_0f7a4 41 = .ok (.iload_n 0, 1) := by decide +kernel
theorem dJ6_bitCount_0f7a4_42 : decode cJ6_bitCount_0f7a4 42 = .ok (.iload_n 0, 1) := by decide +kernel
theorem dJ6_bitCount_0f7a4_43 : decode cJ6_bitCount_0f7a4 43 = .ok (.bipush 16, 2) := by decide +kernel
theorem dJ6_bitCount_0f7a4_45 : decode cJ6_bitCount_0f7a4 45 = .ok (.iushr, 1) := by decide +kernel
theorem dJ6_bitCount_0f7a4_46 : decode cJ6_bitCount_0f7a4 46 = .ok (.iadd, 1) := by decide +kernel
theorem dJ6_bitCount_0f7a4_47 : decode cJ6_bitCount_0f7a4 47 = .ok (.istore_n 0, 1) := by decide +kernel
theorem dJ6_bitCount_0f7a4_48 : decode cJ6_bitCount_0f7a4 48 = .ok (.iload_n 0, 1) := by decide +kernel
theorem dJ6_bitCount_0f7a4_49 : decode cJ6_bitCount_0f7a4 49 = .ok (.bipush 63, 2) := by decide +kernel
theorem dJ6_bitCount_0f7a4_51 : decode cJ6_bitCount_0f7a4 51 = .ok (.iand, 1) := by decide +kernel
theorem dJ6_bitCount_0f7a4_52 : decode cJ6_bitCount_0f7a4 52 = .ok (.ireturn, 1) := by decide +kernel
theorem dJ9_min_7cf53_0 : decode cJ9_min_7cf53 0 = .ok (.iload_n 0, 1) := by decide +kernel
theorem dJ9_min_7cf53_1 : decode cJ9_min_7cf53 1 = .ok (.iload_n 1, 1) := by decide +kernel
theorem dJ9_min_7cf53_2 : decode cJ9_min_7cf53 2 = .ok (.if_icmp .gt 7, 3) := by decide +kernel
theorem dJ9_min_7cf53_5 : decode cJ9_min_7cf53 5 = .ok (.iload_n 0, 1) := by decide +kernel
theorem dJ9_min_7cf53_6 : decode cJ9_min_7cf53 6 = .ok (.goto 4, 3) := by decide +kernel
theorem dJ9_min_7cf53_9 : decode cJ9_min_7cf53 9 = .ok (.iload_n 1, 1) := by decide +kernel
theorem dJ9_min_7cf53_10 : decode cJ9_min_7cf53 10 = .ok (.ireturn, 1) := by decide +kernel
