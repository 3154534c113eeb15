theorem dX7_glass_56 : decode cX7_glass 56 = .ok (.getfield 25, 3) := by decide +kernel
theorem dX7_glass_59 : decode cX7_glass 59 = .ok (.getfield 137, 3) := by decide +kernel
theorem dX7_glass_62 : decode cX7_glass 62 = .ok (.ireturn, 1) := by decide +kernel
theorem dX7_fault_0 : decode cX7_fault 0 = .ok (.aload_n 0, 1) := by decide +kernel
theorem dX7_fault_1 : decode cX7_fault 1 = .ok (.getfield 54, 3) := by decide +kernel
theorem dX7_fault_4 : decode cX7_fault 4 = .ok (.ireturn, 1) := by decide +kernel
set_option maxRecDepth 20000 in
theorem ggX7_play_X7_noCase : GoodIn wsX7_play wsX7_noCase := goodIn_r _ [11, 3, 12, 94, 95, 96, 97, 98, 99, 100, 101, 102, 103, 104, 105, 106, 107, 108, 109, 110, 111] (by decide +kernel) (by decide +kernel)
set_option maxRecDepth 20000 in
theorem gX7_play_X7_noCase : GoodIn wsX7_play (wsV RX7 140 RX7 yX7_noCase wsX7_noCase) := goodIn_app (goodIn_of _ (by decide +kernel)) ggX7_play_X7_noCase
set_option maxRecDepth 20000 in
theorem ggX7_play_X7_isColumn : GoodIn wsX7_play wsX7_isColumn := goodIn_r _ [15, 16, 17, 10, 18] (by decide +kernel) (by decide +kernel)
set_option maxRecDepth 20000 in
theorem gX7_play_X7_isColumn : GoodIn wsX7_play (va_wsS RX7 144 yX7_isColumn wsX7_isColumn) := goodIn_app (goodIn_of _ (by decide +kernel)) ggX7_play_X7_isColumn
set_option maxRecDepth 20000 in
theorem ggX7_play_X3_gripAhead : GoodIn wsX7_play wsX3_gripAhead := goodIn_r _ [23, 24, 25, 26, 27, 103, 104, 105, 106, 107, 108, 109, 110, 111] (by decide +kernel) (by decide +kernel)
set_option maxRecDepth 20000 in
theorem gX7_play_X3_gripAhead : GoodIn wsX7_play (wsV RX7 150 RX3 yX3_gripAhead wsX3_gripAhead) := goodIn_app (goodIn_of _ (by decide +kernel)) ggX7_play_X3_gripAhead
set_option maxRecDepth 20000 in
theorem ggX7_play_X0_begin : GoodIn wsX7_play wsX0_begin := goodIn_r _ [32, 33, 34, 35, 36, 37, 38, 39, 112, 113, 114] (by decide +kernel) (by decide +kernel)
set_option maxRecDepth 20000 in
theorem gX7_play_X0_begin : GoodIn wsX7_play (wsV RX7 153 RX0 yX0_begin wsX0_begin) := goodIn_app (goodIn_of _ (by decide +kernel)) ggX7_play_X0_begin
set_option maxRecDepth 20000 in
theorem ggX7_play_X3_playAt : GoodIn wsX7_play wsX3_playAt := goodIn_r _ [43, 25, 44, 45, 46, 47, 22, 48, 49, 50, 51, 52, 53, 54, 55, 56, 57, 58, 59, 60, 61, 62, 63, 64, 65, 66, 67, 68, 69, 70, 71, 72, 73, 74, 75, 76, 77, 78, 79, 10, 80, 81, 82, 83, 84, 85, 86, 87, 88, 89, 90, 91, 92, 93, 14, 15, 16, 17, 18, 103, 104, 105, 106, 107, 108, 109, 110, 111, 115, 116, 117, 118, 119, 120] (by decide +kernel) (by decide +kernel)
set_option maxRecDepth 20000 in
theorem gX7_play_X3_playAt : GoodIn wsX7_play (wsV RX7 157 RX3 yX3_playAt wsX3_playAt) := goodIn_app (goodIn_of _ (by decide +kernel)) ggX7_play_X3_playAt
theorem dX7_play_0 : decode cX7_play 0 = .ok (.aload_n 0, 1) := by decide +kernel
theorem dX7_play_1 : decode cX7_play 1 = .ok (.invokevirtual 140, 3) := by decide +kernel
theorem dX7_play_4 : decode cX7_play 4 = .ok (.ifCond .eq 6, 3) := by decide +kernel
theorem dX7_play_7 : decode cX7_play 7 = .ok (.ldc 143, 2) := by decide +kernel
theorem dX7_play_9 : decode cX7_play 9 = .ok (.ireturn, 1) := by decide +kernel
theorem dX7_play_10 : decode cX7_play 10 = .ok (.iload_n 1, 1) := by decide +kernel
theorem dX7_play_11 : decode cX7_play 11 = .ok (.invokestatic 144, 3) := by decide +kernel
theorem dX7_play_14 : decode cX7_play 14 = .ok (.ifCond .ne 6, 3) := by decide +kernel
theorem dX7_play_17 : decode cX7_play 17 = .ok (.ldc 70, 2) := by decide +kernel
theorem dX7_play_19 : decode cX7_play 19 = .ok (.ireturn, 1) := by decide +kernel
theorem dX7_play_20 : decode cX7_play 20 = .ok (.aload_n 0, 1) := by decide +kernel
theorem dX7_play_21 : decode cX7_play 21 = .ok (.getfield 25, 3) := by decide +kernel
theorem dX7_play_24 : decode cX7_play 24 = .ok (.getfield 147, 3) := by decide +kernel
theorem dX7_play_27 : decode cX7_play 27 = .ok (.sipush 9999, 3) := by decide +kernel
theorem dX7_play_30 : decode cX7_play 30 = .ok (.if_icmp .lt 6, 3) := by decide +kernel
theorem dX7_play_33 : decode cX7_play 33 = .ok (.ldc 112, 2) := by decide +kernel
theorem dX7_play_35 : decode cX7_play 35 = .ok (.ireturn, 1) := by decide +kernel
theorem dX7_play_36 : decode cX7_play 36 = .ok (.aload_n 0, 1) := by decide +kernel
theorem dX7_play_37 : decode cX7_play 37 = .ok (.getfield 25, 3) := by decide +kernel
theorem dX7_play_40 : decode cX7_play 40 = .ok (.iload_n 1, 1) := by decide +kernel
theorem dX7_play_41 : decode cX7_play 41 = .ok (.aload_n 0, 1) := by decide +kernel
theorem dX7_play_42 : decode cX7_play 42 = .ok (.getfield 25, 3) := by decide +kernel
theorem dX7_play_45 : decode cX7_play 45 = .ok (.iconst 0, 1) := by decide +kernel
theorem dX7_play_46 : decode cX7_play 46 = .ok (.invokevirtual 150, 3) := by decide +kernel
theorem dX7_play_49 : decode cX7_play 49 = .ok (.aload_n 0, 1) := by decide +kernel
theorem dX7_play_50 : decode cX7_play 50 = .ok (.getfield 32, 3) := by decide +kernel
theorem dX7_play_53 : decode cX7_play 53 = .ok (.invokevirtual 153, 3) := by decide +kernel
theorem dX7_play_56 : decode cX7_play 56 = .ok (.invokevirtual 157, 3) := by decide +kernel
theorem dX7_play_59 : decode cX7_play 59 = .ok (.ireturn, 1) := by decide +kernel
set_option maxRecDepth 20000 in
theorem ggX7_put_X7_isToy : GoodIn wsX7_put wsX7_isToy := goodIn_r _ [10, 2, 11, 12, 13, 9, 14, 60, 61, 62, 63, 64, 65, 66, 67, 68, 69, 70, 71, 72, 73, 74, 75, 76, 77] (by decide +kernel) (by decide +kernel)
set_option maxRecDepth 20000 in
theorem gX7_put_X7_isToy : GoodIn wsX7_put (wsV RX7 161 RX7 yX7_isToy wsX7_isToy) := goodIn_app (goodIn_of _ (by decide +kernel)) ggX7_put_X7_isToy
set_option maxRecDepth 20000 in
theorem ggX7_put_X7_isColumn : GoodIn wsX7_put wsX7_isColumn := goodIn_r _ [17, 12, 13, 9, 14] (by decide +kernel) (by decide +kernel)
set_option maxRecDepth 20000 in
theorem gX7_put_X7_isColumn : GoodIn wsX7_put (va_wsS RX7 144 yX7_isColumn wsX7_isColumn) := goodIn_app (goodIn_of _ (by decide +kernel)) ggX7_put_X7_isColumn
set_option maxRecDepth 20000 in
theorem ggX7_put_X0_begin : GoodIn wsX7_put wsX0_begin := goodIn_r _ [22, 23, 24, 25, 26, 27, 28, 29, 78, 79, 80] (by decide +kernel) (by decide +kernel)
set_option maxRecDepth 20000 in
theorem gX7_put_X0_begin : GoodIn wsX7_put (wsV RX7 153 RX0 yX0_begin wsX0_begin) := goodIn_app (goodIn_of _ (by decide +kernel)) ggX7_put_X0_begin
set_option maxRecDepth 20000 in
theorem ggX7_put_X2_keep : GoodIn wsX7_put wsX2_keep := goodIn_r _ [34, 35, 36, 37, 38, 39, 40, 41, 42, 43, 44, 45, 46, 69, 70, 71, 72, 73, 74, 75, 76, 77, 81, 82, 83, 84, 85, 86] (by decide +kernel) (by decide +kernel)
set_option maxRecDepth 20000 in
theorem gX7_put_X2_keep : GoodIn wsX7_put (wsV RX7 167 RX2 yX2_keep wsX2_keep) := goodIn_app (goodIn_of _ (by decide +kernel)) ggX7_put_X2_keep
set_option maxRecDepth 20000 in
theorem ggX7_put_X3_lay : GoodIn wsX7_put wsX3_lay := goodIn_r _ [51, 52, 53, 16, 9, 17, 12, 13, 14, 54, 55, 56, 50, 57, 58, 69, 70, 71, 72, 73, 74, 75, 76, 77] (by decide +kernel) (by decide +kernel)
set_option maxRecDepth 20000 in
theorem gX7_put_X3_lay : GoodIn wsX7_put (wsV RX7 173 RX3 yX3_lay wsX3_lay) := goodIn_app (goodIn_of _ (by decide +kernel)) ggX7_put_X3_lay
set_option maxRecDepth 20000 in
theorem ggX7_put_X3_howMany : GoodIn wsX7_put wsX3_howMany := goodIn_r _ [57, 58, 53, 69, 70, 71, 72, 73, 74, 75, 76, 77] (by decide +kernel) (by decide +kernel)
set_option maxRecDepth 20000 in
theorem gX7_put_X3_howMany : GoodIn wsX7_put (wsV RX7 176 RX3 yX3_howMany wsX3_howMany) := goodIn_app (goodIn_of _ (by decide +kernel)) ggX7_put_X3_howMany
theorem dX7_put_0 : decode cX7_put 0 = .ok (.aload_n 0, 1) := by decide +kernel
theorem dX7_put_1 : decode cX7_put 1 = .ok (.iload_n 1, 1) := by decide +kernel
theorem dX7_put_2 : decode cX7_put 2 = .ok (.invokevirtual 161, 3) := by decide +kernel
theorem dX7_put_5 : decode cX7_put 5 = .ok (.ifCond .eq 10, 3) := by decide +kernel
theorem dX7_put_8 : decode cX7_put 8 = .ok (.iload_n 2, 1) := by decide +kernel
theorem dX7_put_9 : decode cX7_put 9 = .ok (.invokestatic 144, 3) := by decide +kernel
theorem dX7_put_12 : decode cX7_put 12 = .ok (.ifCond .ne 6, 3) := by decide +kernel
theorem dX7_put_15 : decode cX7_put 15 = .ok (.ldc 70, 2) := by decide +kernel
theorem dX7_put_17 : decode cX7_put 17 = .ok (.ireturn, 1) := by decide +kernel
theorem dX7_put_18 : decode cX7_put 18 = .ok (.aload_n 0, 1) := by decide +kernel
theorem dX7_put_19 : decode cX7_put 19 = .ok (.getfield 25, 3) := by decide +kernel
theorem dX7_put_22 : decode cX7_put 22 = .ok (.getfield 164, 3) := by decide +kernel
theorem dX7_put_25 : decode cX7_put 25 = .ok (.iload_n 1, 1) := by decide +kernel
theorem dX7_put_26 : decode cX7_put 26 = .ok (.iaload, 1) := by decide +kernel
theorem dX7_put_27 : decode cX7_put 27 = .ok (.invokestatic 144, 3) := by decide +kernel
theorem dX7_put_30 : decode cX7_put 30 = .ok (.ifCond .eq 6, 3) := by decide +kernel
theorem dX7_put_33 : decode cX7_put 33 = .ok (.ldc 143, 2) := by decide +kernel
theorem dX7_put_35 : decode cX7_put 35 = .ok (.ireturn, 1) := by decide +kernel
theorem dX7_put_36 : decode cX7_put 36 = .ok (.aload_n 0, 1) := by decide +kernel
theorem dX7_put_37 : decode cX7_put 37 = .ok (.getfield 32, 3) := by decide +kernel
theorem dX7_put_40 : decode cX7_put 40 = .ok (.invokevirtual 153, 3) := by decide +kernel
theorem dX7_put_43 : decode cX7_put 43 = .ok (.aload_n 0, 1) := by decide +kernel
theorem dX7_put_44 : decode cX7_put 44 = .ok (.getfield 25, 3) := by decide +kernel
theorem dX7_put_47 : decode cX7_put 47 = .ok (.iload_n 1, 1) := by decide +kernel
theorem dX7_put_48 : decode cX7_put 48 = .ok (.invokevirtual 167, 3) := by decide +kernel
theorem dX7_put_51 : decode cX7_put 51 = .ok (.aload_n 0, 1) := by decide +kernel
theorem dX7_put_52 : decode cX7_put 52 = .ok (.getfield 25, 3) := by decide +kernel
theorem dX7_put_55 : decode cX7_put 55 = .ok (.iload_n 1, 1) := by decide +kernel
theorem dX7_put_56 : decode cX7_put 56 = .ok (.iload_n 2, 1) := by decide +kernel
theorem dX7_put_57 : decode cX7_put 57 = .ok (.invokevirtual 173, 3) := by decide +kernel
theorem dX7_put_60 : decode cX7_put 60 = .ok (.aload_n 0, 1) := by decide +kernel
theorem dX7_put_61 : decode cX7_put 61 = .ok (.getfield 25, 3) := by decide +kernel
theorem dX7_put_64 : decode cX7_put 64 = .ok (.iload_n 2, 1) := by decide +kernel
theorem dX7_put_65 : decode cX7_put 65 = .ok (.invokevirtual 176, 3) := by decide +kernel
theorem dX7_put_68 : decode cX7_put 68 = .ok (.ireturn, 1) := by decide +kernel
set_option maxRecDepth 20000 in
theorem ggX7_grip_X7_noCase : GoodIn wsX7_grip wsX7_noCase := goodIn_r _ [12, 4, 13, 46, 47, 48, 49, 50, 51, 52, 53, 54, 55, 56, 57, 58, 59, 60, 61, 62, 63] (by decide +kernel) (by decide +kernel)
set_option maxRecDepth 20000 in
theorem gX7_grip_X7_noCase : GoodIn wsX7_grip (wsV RX7 140 RX7 yX7_noCase wsX7_noCase) := goodIn_app (goodIn_of _ (by decide +kernel)) ggX7_grip_X7_noCase
set_option maxRecDepth 20000 in
theorem ggX7_grip_X7_within : GoodIn wsX7_grip wsX7_within := goodIn_r _ [16] (by decide +kernel) (by decide +kernel)
set_option maxRecDepth 20000 in
theorem gX7_grip_X7_within : GoodIn wsX7_grip (va_wsS RX7 66 yX7_within wsX7_within) := goodIn_app (goodIn_of _ (by decide +kernel)) ggX7_grip_X7_within
set_option maxRecDepth 20000 in
theorem ggX7_grip_X0_begin : GoodIn wsX7_grip wsX0_begin := goodIn_r _ [21, 22, 23, 24, 25, 26, 27, 28, 64, 65, 66] (by decide +kernel) (by decide +kernel)
set_option maxRecDepth 20000 in
theorem gX7_grip_X0_begin : GoodIn wsX7_grip (wsV RX7 153 RX0 yX0_begin wsX0_begin) := goodIn_app (goodIn_of _ (by decide +kernel)) ggX7_grip_X0_begin
set_option maxRecDepth 20000 in
theorem ggX7_grip_X2_keep : GoodIn wsX7_grip wsX2_keep := goodIn_r _ [33, 34, 35, 36, 37, 38, 39, 40, 41, 42, 43, 44, 45, 55, 56, 57, 58, 59, 60, 61, 62, 63, 67, 68, 69, 70, 71, 72] (by decide +kernel) (by decide +kernel)
set_option maxRecDepth 20000 in
theorem gX7_grip_X2_keep : GoodIn wsX7_grip (wsV RX7 167 RX2 yX2_keep wsX2_keep) := goodIn_app (goodIn_of _ (by decide +kernel)) ggX7_grip_X2_keep
theorem dX7_grip_0 : decode cX7_grip 0 = .ok (.aload_n 0, 1) := by decide +kernel
theorem dX7_grip_1 : decode cX7_grip 1 = .ok (.invokevirtual 140, 3) := by decide +kernel
theorem dX7_grip_4 : decode cX7_grip 4 = .ok (.ifCond .eq 6, 3) := by decide +kernel
theorem dX7_grip_7 : decode cX7_grip 7 = .ok (.ldc 143, 2) := by decide +kernel
theorem dX7_grip_9 : decode cX7_grip 9 = .ok (.ireturn, 1) := by decide +kernel
theorem dX7_grip_10 : decode cX7_grip 10 = .ok (.iload_n 1, 1) := by decide +kernel
theorem dX7_grip_11 : decode cX7_grip 11 = .ok (.iconst 0, 1) := by decide +kernel
theorem dX7_grip_12 : decode cX7_grip 12 = .ok (.iconst 1, 1) := by decide +kernel
theorem dX7_grip_13 : decode cX7_grip 13 = .ok (.invokestatic 66, 3) := by decide +kernel
theorem dX7_grip_16 : decode cX7_grip 16 = .ok (.ifCond .eq 13, 3) := by decide +kernel
theorem dX7_grip_19 : decode cX7_grip 19 = .ok (.iload_n 2, 1) := by decide +kernel
theorem dX7_grip_20 : decode cX7_grip 20 = .ok (.iconst 0, 1) := by decide +kernel
theorem dX7_grip_21 : decode cX7_grip 21 = .ok (.bipush 9, 2) := by decide +kernel
theorem dX7_grip_23 : decode cX7_grip 23 = .ok (.invokestatic 66, 3) := by decide +kernel
theorem dX7_grip_26 : decode cX7_grip 26 = .ok (.ifCond .ne 6, 3) := by decide +kernel
theorem dX7_grip_29 : decode cX7_grip 29 = .ok (.ldc 70, 2) := by decide +kernel
theorem dX7_grip_31 : decode cX7_grip 31 = .ok (.ireturn, 1) := by decide +kernel
theorem dX7_grip_32 : decode cX7_grip 32 = .ok (.aload_n 0, 1) := by decide +kernel
theorem dX7_grip_33 : decode cX7_grip 33 = .ok (.getfield 32, 3) := by decide +kernel
theorem dX7_grip_36 : decode cX7_grip 36 = .ok (.invokevirtual 153, 3) := by decide +kernel
theorem dX7_grip_39 : decode cX7_grip 39 = .ok (.aload_n 0, 1) := by decide +kernel
theorem dX7_grip_40 : decode cX7_grip 40 = .ok (.getfield 25, 3) := by decide +kernel
theorem dX7_grip_43 : decode cX7_grip 43 = .ok (.ldc 179, 2) := by decide +kernel
theorem dX7_grip_45 : decode cX7_grip 45 = .ok (.invokevirtual 167, 3) := by decide +kernel
theorem dX7_grip_48 : decode cX7_grip 48 = .ok (.iload_n 1, 1) := by decide +kernel
theorem dX7_grip_49 : decode cX7_grip 49 = .ok (.ifCond .ne 13, 3) := by decide +kernel
theorem dX7_grip_52 : decode cX7_grip 52 = .ok (.aload_n 0, 1) := by decide +kernel
theorem dX7_grip_53 : decode cX7_grip 53 = .ok (.getfield 25, 3) := by decide +kernel
theorem dX7_grip_56 : decode cX7_grip 56 = .ok (.getfield 180, 3) := by decide +kernel
theorem dX7_grip_59 : decode cX7_grip 59 = .ok (.goto 10, 3) := by decide +kernel
theorem dX7_grip_62 : decode cX7_grip 62 = .ok (.aload_n 0, 1) := by decide +kernel
theorem dX7_grip_63 : decode cX7_grip 63 = .ok (.getfield 25, 3) := by decide +kernel
theorem dX7_grip_66 : decode cX7_grip 66 = .ok (.getfield 183, 3) := by decide +kernel
theorem dX7_grip_69 : decode cX7_grip 69 = .ok (.istore_n 3, 1) := by decide +kernel
theorem dX7_grip_70 : decode cX7_grip 70 = .ok (.iload_n 1, 1) := by decide +kernel
theorem dX7_grip_71 : decode cX7_grip 71 = .ok (.ifCond .ne 14, 3) := by decide +kernel
theorem dX7_grip_74 : decode cX7_grip 74 = .ok (.aload_n 0, 1) := by decide +kernel
theorem dX7_grip_75 : decode cX7_grip 75 = .ok (.getfield 25, 3) := by decide +kernel
theorem dX7_grip_78 : decode cX7_grip 78 = .ok (.iload_n 2, 1) := by decide +kernel
theorem dX7_grip_79 : decode cX7_grip 79 = .ok (.putfield 180, 3) := by decide +kernel
theorem dX7_grip_82 : decode cX7_grip 82 = .ok (.goto 11, 3) := by decide +kernel
theorem dX7_grip_85 : decode cX7_grip 85 = .ok (.aload_n 0, 1) := by decide +kernel
theorem dX7_grip_86 : decode cX7_grip 86 = .ok (.getfield 25, 3) := by decide +kernel
theorem dX7_grip_89 : decode cX7_grip 89 = .ok (.iload_n 2, 1) := by decide +kernel
theorem dX7_grip_90 : decode cX7_grip 90 = .ok (.putfield 183, 3) := by decide +kernel
theorem dX7_grip_93 : decode cX7_grip 93 = .ok (.iload_n 3, 1) := by decide +kernel
theorem dX7_grip_94 : decode cX7_grip 94 = .ok (.ireturn, 1) := by decide +kernel
set_option maxRecDepth 20000 in
theorem ggX7_undo_X0_takeBack : GoodIn wsX7_undo wsX0_takeBack := goodIn_r _ [9, 10, 11, 12, 13, 14, 15, 16, 17, 18, 19, 20, 21, 22, 23, 24, 25, 26, 27, 28, 29, 39, 40, 41, 42, 43, 44, 45, 46, 47, 48, 49, 50, 51, 52, 53, 54, 55, 56] (by decide +kernel) (by decide +kernel)
set_option maxRecDepth 20000 in
theorem gX7_undo_X0_takeBack : GoodIn wsX7_undo (wsV RX7 189 RX0 yX0_takeBack wsX0_takeBack) := goodIn_app (goodIn_of _ (by decide +kernel)) ggX7_undo_X0_takeBack
theorem dX7_undo_0 : decode cX7_undo 0 = .ok (.aload_n 0, 1) := by decide +kernel
theorem dX7_undo_1 : decode cX7_undo 1 = .ok (.getfield 32, 3) := by decide +kernel
theorem dX7_undo_4 : decode cX7_undo 4 = .ok (.getfield 186, 3) := by decide +kernel
theorem dX7_undo_7 : decode cX7_undo 7 = .ok (.ifCond .ne 6, 3) := by decide +kernel
theorem dX7_undo_10 : decode cX7_undo 10 = .ok (.ldc 143, 2) := by decide +kernel
theorem dX7_undo_12 : decode cX7_undo 12 = .ok (.ireturn, 1) := by decide +kernel
theorem dX7_undo_13 : decode cX7_undo 13 = .ok (.aload_n 0, 1) := by decide +kernel
theorem dX7_undo_14 : decode cX7_undo 14 = .ok (.getfield 32, 3) := by decide +kernel
theorem dX7_undo_17 : decode cX7_undo 17 = .ok (.aload_n 0, 1) := by decide +kernel
theorem dX7_undo_18 : decode cX7_undo 18 = .ok (.getfield 25, 3) := by decide +kernel
theorem dX7_undo_21 : decode cX7_undo 21 = .ok (.invokevirtual 189, 3) := by decide +kernel
theorem dX7_undo_24 : decode cX7_undo 24 = .ok (.ireturn, 1) := by decide +kernel
set_option maxRecDepth 20000 in
theorem ggX7_toy_X7_isToy : GoodIn wsX7_toy wsX7_isToy := goodIn_r _ [10, 2, 11, 12, 13, 9, 14, 35, 36, 37, 38, 39, 40, 41, 42, 43, 44, 45, 46, 47, 48, 49, 50, 51, 52] (by decide +kernel) (by decide +kernel)
set_option maxRecDepth 20000 in
theorem gX7_toy_X7_isToy : GoodIn wsX7_toy (wsV RX7 161 RX7 yX7_isToy wsX7_isToy) := goodIn_app (goodIn_of _ (by decide +kernel)) ggX7_toy_X7_isToy
set_option maxRecDepth 20000 in
theorem ggX7_toy_X3_need : GoodIn wsX7_toy wsX3_need := goodIn_r _ [19, 20, 21, 44, 45, 46, 47, 48, 49, 50, 51, 52] (by decide +kernel) (by decide +kernel)
set_option maxRecDepth 20000 in
theorem gX7_toy_X3_need : GoodIn wsX7_toy (wsV RX7 196 RX3 yX3_need wsX3_need) := goodIn_app (goodIn_of _ (by decide +kernel)) ggX7_toy_X3_need
set_option maxRecDepth 20000 in
theorem ggX7_toy_X3_above : GoodIn wsX7_toy wsX3_above := goodIn_r _ [25, 26, 27, 28, 9, 29, 12, 13, 14, 30, 31, 32, 18, 33, 34, 44, 45, 46, 47, 48, 49, 50, 51, 52] (by decide +kernel) (by decide +kernel)
set_option maxRecDepth 20000 in
theorem gX7_toy_X3_above : GoodIn wsX7_toy (wsV RX7 199 RX3 yX3_above wsX3_above) := goodIn_app (goodIn_of _ (by decide +kernel)) ggX7_toy_X3_above
theorem dX7_toy_0 : decode cX7_toy 0 = .ok (.aload_n 0, 1) := by decide +kernel
theorem dX7_toy_1 : decode cX7_toy 1 = .ok (.iload_n 1, 1) := by decide +kernel
theorem dX7_toy_2 : decode cX7_toy 2 = .ok (.invokevirtual 161, 3) := by decide +kernel
theorem dX7_toy_5 : decode cX7_toy 5 = .ok (.ifCond .ne 6, 3) := by decide +kernel
theorem dX7_toy_8 : decode cX7_toy 8 = .ok (.ldc 70, 2) := by decide +kernel
theorem dX7_toy_10 : decode cX7_toy 10 = .ok (.ireturn, 1) := by decide +kernel
theorem dX7_toy_11 : decode cX7_toy 11 = .ok (.iload_n 2, 1) := by decide +kernel
theorem dX7_toy_12 : decode cX7_toy 12 = .ok (.tableswitch 84 0 4 #[36, 46, 56, 65, 74], 36) := by decide +kernel
theorem dX7_toy_48 : decode cX7_toy 48 = .ok (.aload_n 0, 1) := by decide +kernel
theorem dX7_toy_49 : decode cX7_toy 49 = .ok (.getfield 25, 3) := by decide +kernel
theorem dX7_toy_52 : decode cX7_toy 52 = .ok (.getfield 193, 3) := by decide +kernel
theorem dX7_toy_55 : decode cX7_toy 55 = .ok (.iload_n 1, 1) := by decide +kernel
theorem dX7_toy_56 : decode cX7_toy 56 = .ok (.iaload, 1) := by decide +kernel
theorem dX7_toy_57 : decode cX7_toy 57 = .ok (.ireturn, 1) := by decide +kernel
theorem dX7_toy_58 : decode cX7_toy 58 = .ok (.aload_n 0, 1) := by decide +kernel
theorem dX7_toy_59 : decode cX7_toy 59 = .ok (.getfield 25, 3) := by decide +kernel
theorem dX7_toy_62 : decode cX7_toy 62 = .ok (.getfield 164, 3) := by decide +kernel
theorem dX7_toy_65 : decode cX7_toy 65 = .ok (.iload_n 1, 1) := by decide +kernel
theorem dX7_toy_66 : decode cX7_toy 66 = .ok (.iaload, 1) := by decide +kernel
theorem dX7_toy_67 : decode cX7_toy 67 = .ok (.ireturn, 1) := by decide +kernel
theorem dX7_toy_68 : decode cX7_toy 68 = .ok (.aload_n 0, 1) := by decide +kernel
theorem dX7_toy_69 : decode cX7_toy 69 = .ok (.getfield 25, 3) := by decide +kernel
theorem dX7_toy_72 : decode cX7_toy 72 = .ok (.iload_n 1, 1) := by decide +kernel
theorem dX7_toy_73 : decode cX7_toy 73 = .ok (.invokevirtual 196, 3) := by decide +kernel
theorem dX7_toy_76 : decode cX7_toy 76 = .ok (.ireturn, 1) := by decide +kernel
theorem dX7_toy_77 : decode cX7_toy 77 = .ok (.aload_n 0, 1) := by decide +kernel
theorem dX7_toy_78 : decode cX7_toy 78 = .ok (.getfield 25, 3) := by decide +kernel
theorem dX7_toy_81 : decode cX7_toy 81 = .ok (.iload_n 1, 1) := by decide +kernel
theorem dX7_toy_82 : decode cX7_toy 82 = .ok (.invokevirtual 199, 3) := by decide +kernel
theorem dX7_toy_85 : decode cX7_toy 85 = .ok (.ireturn, 1) := by decide +kernel
theorem dX7_toy_86 : decode cX7_toy 86 = .ok (.aload_n 0, 1) := by decide +kernel
theorem dX7_toy_87 : decode cX7_toy 87 = .ok (.getfield 25, 3) := by decide +kernel
theorem dX7_toy_90 : decode cX7_toy 90 = .ok (.getfield 202, 3) := by decide +kernel
theorem dX7_toy_93 : decode cX7_toy 93 = .ok (.iload_n 1, 1) := by decide +kernel
theorem dX7_toy_94 : decode cX7_toy 94 = .ok (.iaload, 1) := by decide +kernel
theorem dX7_toy_95 : decode cX7_toy 95 = .ok (.ireturn, 1) := by decide +kernel
theorem dX7_toy_96 : decode cX7_toy 96 = .ok (.ldc 70, 2) := by decide +kernel
theorem dX7_toy_98 : decode cX7_toy 98 = .ok (.ireturn, 1) := by decide +kernel
set_option maxRecDepth 20000 in
theorem ggX7_column_X7_noCase : GoodIn wsX7_column wsX7_noCase := goodIn_r _ [8, 3, 9, 33, 34, 35, 36, 37, 38, 39, 40, 41, 42, 43, 44, 45, 46, 47, 48, 49, 50] (by decide +kernel) (by decide +kernel)
set_option maxRecDepth 20000 in
theorem gX7_column_X7_noCase : GoodIn wsX7_column (wsV RX7 140 RX7 yX7_noCase wsX7_noCase) := goodIn_app (goodIn_of _ (by decide +kernel)) ggX7_column_X7_noCase
set_option maxRecDepth 20000 in
theorem ggX7_column_X7_isColumn : GoodIn wsX7_column wsX7_isColumn := goodIn_r _ [12, 13, 14, 7, 15] (by decide +kernel) (by decide +kernel)
set_option maxRecDepth 20000 in
theorem gX7_column_X7_isColumn : GoodIn wsX7_column (va_wsS RX7 144 yX7_isColumn wsX7_isColumn) := goodIn_app (goodIn_of _ (by decide +kernel)) ggX7_column_X7_isColumn
set_option maxRecDepth 20000 in
theorem ggX7_column_X3_howMany : GoodIn wsX7_column wsX3_howMany := goodIn_r _ [20, 21, 22, 42, 43, 44, 45, 46, 47, 48, 49, 50] (by decide +kernel) (by decide +kernel)
set_option maxRecDepth 20000 in
theorem gX7_column_X3_howMany : GoodIn wsX7_column (wsV RX7 176 RX3 yX3_howMany wsX3_howMany) := goodIn_app (goodIn_of _ (by decide +kernel)) ggX7_column_X3_howMany
set_option maxRecDepth 20000 in
theorem ggX7_column_X3_uppermost : GoodIn wsX7_column wsX3_uppermost := goodIn_r _ [26, 27, 21, 22, 28, 42, 43, 44, 45, 46, 47, 48, 49, 50] (by decide +kernel) (by decide +kernel)
set_option maxRecDepth 20000 in
theorem gX7_column_X3_uppermost : GoodIn wsX7_column (wsV RX7 205 RX3 yX3_uppermost wsX3_uppermost) := goodIn_app (goodIn_of _ (by decide +kernel)) ggX7_column_X3_uppermost
set_option maxRecDepth 20000 in
theorem ggX7_column_X3_toysAt : GoodIn wsX7_column wsX3_toysAt := goodIn_r _ [32, 21, 22, 42, 43, 44, 45, 46, 47, 48, 49, 50] (by decide +kernel) (by decide +kernel)
set_option maxRecDepth 20000 in
theorem gX7_column_X3_toysAt : GoodIn wsX7_column (wsV RX7 208 RX3 yX3_toysAt wsX3_toysAt) := goodIn_app (goodIn_of _ (by decide +kernel)) ggX7_column_X3_toysAt
theorem dX7_column_0 : decode cX7_column 0 = .ok (.aload_n 0, 1) := by decide +kernel
theorem dX7_column_1 : decode cX7_column 1 = .ok (.invokevirtual 140, 3) := by decide +kernel
theorem dX7_column_4 : decode cX7_column 4 = .ok (.ifCond .eq 6, 3) := by decide +kernel
theorem dX7_column_7 : decode cX7_column 7 = .ok (.ldc 143, 2) := by decide +kernel
theorem dX7_column_9 : decode cX7_column 9 = .ok (.ireturn, 1) := by decide +kernel
theorem dX7_column_10 : decode cX7_column 10 = .ok (.iload_n 1, 1) := by decide +kernel
theorem dX7_column_11 : decode cX7_column 11 = .ok (.invokestatic 144, 3) := by decide +kernel
theorem dX7_column_14 : decode cX7_column 14 = .ok (.ifCond .ne 6, 3) := by decide +kernel
theorem dX7_column_17 : decode cX7_column 17 = .ok (.ldc 70, 2) := by decide +kernel
theorem dX7_column_19 : decode cX7_column 19 = .ok (.ireturn, 1) := by decide +kernel
theorem dX7_column_20 : decode cX7_column 20 = .ok (.iload_n 2, 1) := by decide +kernel
theorem dX7_column_21 : decode cX7_column 21 = .ok (.tableswitch 54 0 2 #[27, 36, 45], 27) := by decide +kernel
theorem dX7_column_48 : decode cX7_column 48 = .ok (.aload_n 0, 1) := by decide +kernel
theorem dX7_column_49 : decode cX7_column 49 = .ok (.getfield 25, 3) := by decide +kernel
theorem dX7_column_52 : decode cX7_column 52 = .ok (.iload_n 1, 1) := by decide +kernel
theorem dX7_column_53 : decode cX7_column 53 = .ok (.invokevirtual 176, 3) := by decide +kernel
theorem dX7_column_56 : decode cX7_column 56 = .ok (.ireturn, 1) := by decide +kernel
theorem dX7_column_57 : decode cX7_column 57 = .ok (.aload_n 0, 1) := by decide +kernel
theorem dX7_column_58 : decode cX7_column 58 = .ok (.getfield 25, 3) := by decide +kernel
theorem dX7_column_61 : decode cX7_column 61 = .ok (.iload_n 1, 1) := by decide +kernel
theorem dX7_column_62 : decode cX7_column 62 = .ok (.invokevirtual 205, 3) := by decide +kernel
theorem dX7_column_65 : decode cX7_column 65 = .ok (.ireturn, 1) := by decide +kernel
theorem dX7_column_66 : decode cX7_column 66 = .ok (.aload_n 0, 1) := by decide +kernel
theorem dX7_column_67 : decode cX7_column 67 = .ok (.getfield 25, 3) := by decide +kernel
theorem dX7_column_70 : decode cX7_column 70 = .ok (.iload_n 1, 1) := by decide +kernel
theorem dX7_column_71 : decode cX7_column 71 = .ok (.invokevirtual 208, 3) := by decide +kernel
theorem dX7_column_74 : decode cX7_column 74 = .ok (.ireturn, 1) := by decide +kernel
theorem dX7_column_75 : decode cX7_column 75 = .ok (.ldc 70, 2) := by decide +kernel
theorem dX7_column_77 : decode cX7_column 77 = .ok (.ireturn, 1) := by decide +kernel
set_option maxRecDepth 20000 in
theorem ggX7_gives_X7_noCase : GoodIn wsX7_gives wsX7_noCase := goodIn_r _ [9, 3, 10, 55, 56, 57, 58, 59, 60, 61, 62, 63, 64, 65, 66, 67, 68, 69, 70, 71, 72] (by decide +kernel) (by decide +kernel)
set_option maxRecDepth 20000 in
theorem gX7_gives_X7_noCase : GoodIn wsX7_gives (wsV RX7 140 RX7 yX7_noCase wsX7_noCase) := goodIn_app (goodIn_of _ (by decide +kernel)) ggX7_gives_X7_noCase
set_option maxRecDepth 20000 in
theorem ggX7_gives_X7_isColumn : GoodIn wsX7_gives wsX7_isColumn := goodIn_r _ [13, 14, 15, 8, 16] (by decide +kernel) (by decide +kernel)
set_option maxRecDepth 20000 in
theorem gX7_gives_X7_isColumn : GoodIn wsX7_gives (va_wsS RX7 144 yX7_isColumn wsX7_isColumn) := goodIn_app (goodIn_of _ (by decide +kernel)) ggX7_gives_X7_isColumn
set_option maxRecDepth 20000 in
theorem ggX7_gives_X3_uppermost : GoodIn wsX7_gives wsX3_uppermost := goodIn_r _ [21, 22, 23, 24, 25, 64, 65, 66, 67, 68, 69, 70, 71, 72] (by decide +kernel) (by decide +kernel)
set_option maxRecDepth 20000 in
theorem gX7_gives_X3_uppermost : GoodIn wsX7_gives (wsV RX7 205 RX3 yX3_uppermost wsX3_uppermost) := goodIn_app (goodIn_of _ (by decide +kernel)) ggX7_gives_X3_uppermost
set_option maxRecDepth 20000 in
theorem ggX7_gives_X3_gripAhead : GoodIn wsX7_gives wsX3_gripAhead := goodIn_r _ [29, 30, 31, 32, 33, 64, 65, 66, 67, 68, 69, 70, 71, 72] (by decide +kernel) (by decide +kernel)
set_option maxRecDepth 20000 in
theorem gX7_gives_X3_gripAhead : GoodIn wsX7_gives (wsV RX7 150 RX3 yX3_gripAhead wsX3_gripAhead) := goodIn_app (goodIn_of _ (by decide +kernel)) ggX7_gives_X3_gripAhead
set_option maxRecDepth 20000 in
theorem ggX7_gives_X3_landing : GoodIn wsX7_gives wsX3_landing := goodIn_r _ [37, 38, 39, 40, 41, 20, 42, 43, 44, 8, 45, 46, 47, 48, 49, 50, 51, 52, 53, 54, 23, 24, 64, 65, 66, 67, 68, 69, 70, 71, 72] (by decide +kernel) (by decide +kernel)
set_option maxRecDepth 20000 in
theorem gX7_gives_X3_landing : GoodIn wsX7_gives (wsV RX7 211 RX3 yX3_landing wsX3_landing) := goodIn_app (goodIn_of _ (by decide +kernel)) ggX7_gives_X3_landing
theorem dX7_gives_0 : decode cX7_gives 0 = .ok (.aload_n 0, 1) := by decide +kernel
theorem dX7_gives_1 : decode cX7_gives 1 = .ok (.invokevirtual 140, 3) := by decide +kernel
theorem dX7_gives_4 : decode cX7_gives 4 = .ok (.ifCond .eq 6, 3) := by decide +kernel
theorem dX7_gives_7 : decode cX7_gives 7 = .ok (.ldc 143, 2) := by decide +kernel
theorem dX7_gives_9 : decode cX7_gives 9 = .ok (.ireturn, 1) := by decide +kernel
theorem dX7_gives_10 : decode cX7_gives 10 = .ok (.iload_n 1, 1) := by decide +kernel
theorem dX7_gives_11 : decode cX7_gives 11 = .ok (.invokestatic 144, 3) := by decide +kernel
theorem dX7_gives_14 : decode cX7_gives 14 = .ok (.ifCond .ne 6, 3) := by decide +kernel
theorem dX7_gives_17 : decode cX7_gives 17 = .ok (.ldc 70, 2) := by decide +kernel
theorem dX7_gives_19 : decode cX7_gives 19 = .ok (.ireturn, 1) := by decide +kernel
theorem dX7_gives_20 : decode cX7_gives 20 = .ok (.aload_n 0, 1) := by decide +kernel
theorem dX7_gives_21 : decode cX7_gives 21 = .ok (.getfield 25, 3) := by decide +kernel
theorem dX7_gives_24 : decode cX7_gives 24 = .ok (.iload_n 1, 1) := by decide +kernel
theorem dX7_gives_25 : decode cX7_gives 25 = .ok (.invokevirtual 205, 3) := by decide +kernel
theorem dX7_gives_28 : decode cX7_gives 28 = .ok (.istore_n 2, 1) := by decide +kernel
theorem dX7_gives_29 : decode cX7_gives 29 = .ok (.iload_n 2, 1) := by decide +kernel
theorem dX7_gives_30 : decode cX7_gives 30 = .ok (.ldc 179, 2) := by decide +kernel
theorem dX7_gives_32 : decode cX7_gives 32 = .ok (.if_icmp .ne 8, 3) := by decide +kernel
theorem dX7_gives_35 : decode cX7_gives 35 = .ok (.ldc 179, 2) := by decide +kernel
theorem dX7_gives_37 : decode cX7_gives 37 = .ok (.goto 20, 3) := by decide +kernel
theorem dX7_gives_40 : decode cX7_gives 40 = .ok (.aload_n 0, 1) := by decide +kernel
theorem dX7_gives_41 : decode cX7_gives 41 = .ok (.getfield 25, 3) := by decide +kernel
theorem dX7_gives_44 : decode cX7_gives 44 = .ok (.iload_n 2, 1) := by decide +kernel
theorem dX7_gives_45 : decode cX7_gives 45 = .ok (.iload_n 1, 1) := by decide +kernel
theorem dX7_gives_46 : decode cX7_gives 46 = .ok (.aload_n 0, 1) := by decide +kernel
theorem dX7_gives_47 : decode cX7_gives 47 = .ok (.getfield 25, 3) := by decide +kernel
theorem dX7_gives_50 : decode cX7_gives 50 = .ok (.iconst 0, 1) := by decide +kernel
theorem dX7_gives_51 : decode cX7_gives 51 = .ok (.invokevirtual 150, 3) := by decide +kernel
theorem dX7_gives_54 : decode cX7_gives 54 = .ok (.invokevirtual 211, 3) := by decide +kernel
theorem dX7_gives_57 : decode cX7_gives 57 = .ok (.ireturn, 1) := by decide +kernel
set_option maxRecDepth 20000 in
theorem ggX7_grips_X7_noCase : GoodIn wsX7_grips wsX7_noCase := goodIn_r _ [8, 2, 9, 22, 23, 24, 25, 26, 27, 28, 29, 30, 31, 32, 33, 34, 35, 36, 37, 38, 39] (by decide +kernel) (by decide +kernel)
set_option maxRecDepth 20000 in
theorem gX7_grips_X7_noCase : GoodIn wsX7_grips (wsV RX7 140 RX7 yX7_noCase wsX7_noCase) := goodIn_app (goodIn_of _ (by decide +kernel)) ggX7_grips_X7_noCase
set_option maxRecDepth 20000 in
theorem ggX7_grips_X7_within : GoodIn wsX7_grips wsX7_within := goodIn_r _ [12] (by decide +kernel) (by decide +kernel)
set_option maxRecDepth 20000 in
theorem gX7_grips_X7_within : GoodIn wsX7_grips (va_wsS RX7 66 yX7_within wsX7_within) := goodIn_app (goodIn_of _ (by decide +kernel)) ggX7_grips_X7_within
set_option maxRecDepth 20000 in
theorem ggX7_grips_X3_gripAhead : GoodIn wsX7_grips wsX3_gripAhead := goodIn_r _ [17, 18, 19, 20, 21, 31, 32, 33, 34, 35, 36, 37, 38, 39] (by decide +kernel) (by decide +kernel)
set_option maxRecDepth 20000 in
theorem gX7_grips_X3_gripAhead : GoodIn wsX7_grips (wsV RX7 150 RX3 yX3_gripAhead wsX3_gripAhead) := goodIn_app (goodIn_of _ (by decide +kernel)) ggX7_grips_X3_gripAhead
theorem dX7_grips_0 : decode cX7_grips 0 = .ok (.aload_n 0, 1) := by decide +kernel
theorem dX7_grips_1 : decode cX7_grips 1 = .ok (.invokevirtual 140, 3) := by decide +kernel
theorem dX7_grips_4 : decode cX7_grips 4 = .ok (.ifCond .eq 6, 3) := by decide +kernel
theorem dX7_grips_7 : decode cX7_grips 7 = .ok (.ldc 143, 2) := by decide +kernel
theorem dX7_grips_9 : decode cX7_grips 9 = .ok (.ireturn, 1) := by decide +kernel
theorem dX7_grips_10 : decode cX7_grips 10 = .ok (.iload_n 1, 1) := by decide +kernel
theorem dX7_grips_11 : decode cX7_grips 11 = .ok (.iconst 0, 1) := by decide +kernel
theorem dX7_grips_12 : decode cX7_grips 12 = .ok (.bipush 60, 2) := by decide +kernel
theorem dX7_grips_14 : decode cX7_grips 14 = .ok (.invokestatic 66, 3) := by decide +kernel
theorem dX7_grips_17 : decode cX7_grips 17 = .ok (.ifCond .eq 14, 3) := by decide +kernel
theorem dX7_grips_20 : decode cX7_grips 20 = .ok (.aload_n 0, 1) := by decide +kernel
theorem dX7_grips_21 : decode cX7_grips 21 = .ok (.getfield 25, 3) := by decide +kernel
theorem dX7_grips_24 : decode cX7_grips 24 = .ok (.iload_n 1, 1) := by decide +kernel
theorem dX7_grips_25 : decode cX7_grips 25 = .ok (.invokevirtual 150, 3) := by decide +kernel
theorem dX7_grips_28 : decode cX7_grips 28 = .ok (.goto 5, 3) := by decide +kernel
theorem dX7_grips_31 : decode cX7_grips 31 = .ok (.ldc 70, 2) := by decide +kernel
theorem dX7_grips_33 : decode cX7_grips 33 = .ok (.ireturn, 1) := by decide +kernel
set_option maxRecDepth 20000 in
theorem ggX7_win_X7_isToy : GoodIn wsX7_win wsX7_isToy := goodIn_r _ [10, 3, 11, 12, 13, 9, 14, 106, 107, 108, 109, 110, 111, 112, 113, 114, 121, 122, 123, 124, 125, 126, 127, 128, 129] (by decide +kernel) (by decide +kernel)
set_option maxRecDepth 20000 in
theorem gX7_win_X7_isToy : GoodIn wsX7_win (wsV RX7 161 RX7 yX7_isToy wsX7_isToy) := goodIn_app (goodIn_of _ (by decide +kernel)) ggX7_win_X7_isToy
set_option maxRecDepth 20000 in
theorem ggX7_win_X4_fewestPlays : GoodIn wsX7_win wsX4_fewestPlays := goodIn_r _ [19, 20, 21, 22, 23, 24, 25, 26, 27, 28, 29, 30, 31, 32, 33, 34, 35, 36, 37, 38, 39, 40, 41, 42, 18, 43, 44, 45, 46, 47, 48, 49, 50, 51, 52, 53, 54, 55, 56, 57, 58, 59, 60, 61, 62, 63, 64, 65, 66, 67, 68, 69, 70, 71, 72, 73, 74, 75, 76, 77, 78, 79, 80, 81, 82, 83, 84, 85, 9, 86, 87, 88, 89, 90, 91, 92, 93, 94, 95, 96, 97, 98, 99, 100, 101, 12, 13, 14, 102, 103, 104, 105, 115, 116, 117, 118, 119, 120, 121, 122, 123, 124, 125, 126, 127, 128, 129, 130, 131, 132, 133, 134, 135] (by decide +kernel) (by decide +kernel)
set_option maxRecDepth 20000 in
theorem gX7_win_X4_fewestPlays : GoodIn wsX7_win (wsV RX7 215 RX4 yX4_fewestPlays wsX4_fewestPlays) := goodIn_app (goodIn_of _ (by decide +kernel)) ggX7_win_X4_fewestPlays
theorem dX7_win_0 : decode cX7_win 0 = .ok (.aload_n 0, 1) := by decide +kernel
theorem dX7_win_1 : decode cX7_win 1 = .ok (.iload_n 1, 1) := by decide +kernel
theorem dX7_win_2 : decode cX7_win 2 = .ok (.invokevirtual 161, 3) := by decide +kernel
theorem dX7_win_5 : decode cX7_win 5 = .ok (.ifCond .eq 8, 3) := by decide +kernel
theorem dX7_win_8 : decode cX7_win 8 = .ok (.iload_n 2, 1) := by decide +kernel
theorem dX7_win_9 : decode cX7_win 9 = .ok (.iconst (-1), 1) := by decide +kernel
theorem dX7_win_10 : decode cX7_win 10 = .ok (.if_icmp .ge 6, 3) := by decide +kernel
theorem dX7_win_13 : decode cX7_win 13 = .ok (.ldc 70, 2) := by decide +kernel
theorem dX7_win_15 : decode cX7_win 15 = .ok (.ireturn, 1) := by decide +kernel
theorem dX7_win_16 : decode cX7_win 16 = .ok (.aload_n 0, 1) := by decide +kernel
theorem dX7_win_17 : decode cX7_win 17 = .ok (.getfield 43, 3) := by decide +kernel
theorem dX7_win_20 : decode cX7_win 20 = .ok (.aload_n 0, 1) := by decide +kernel
theorem dX7_win_21 : decode cX7_win 21 = .ok (.getfield 25, 3) := by decide +kernel
theorem dX7_win_24 : decode cX7_win 24 = .ok (.iload_n 1, 1) := by decide +kernel
theorem dX7_win_25 : decode cX7_win 25 = .ok (.invokevirtual 215, 3) := by decide +kernel
theorem dX7_win_28 : decode cX7_win 28 = .ok (.istore_n 3, 1) := by decide +kernel
theorem dX7_win_29 : decode cX7_win 29 = .ok (.iload_n 2, 1) := by decide +kernel
theorem dX7_win_30 : decode cX7_win 30 = .ok (.iconst (-1), 1) := by decide +kernel
theorem dX7_win_31 : decode cX7_win 31 = .ok (.if_icmp .ne 5, 3) := by decide +kernel
theorem dX7_win_34 : decode cX7_win 34 = .ok (.iload_n 3, 1) := by decide +kernel
theorem dX7_win_35 : decode cX7_win 35 = .ok (.ireturn, 1) := by decide +kernel
theorem dX7_win_36 : decode cX7_win 36 = .ok (.iload_n 2, 1) := by decide +kernel
theorem dX7_win_37 : decode cX7_win 37 = .ok (.iload_n 3, 1) := by decide +kernel
theorem dX7_win_38 : decode cX7_win 38 = .ok (.if_icmp .ge 15, 3) := by decide +kernel
theorem dX7_win_41 : decode cX7_win 41 = .ok (.aload_n 0, 1) := by decide +kernel
theorem dX7_win_42 : decode cX7_win 42 = .ok (.getfield 43, 3) := by decide +kernel
theorem dX7_win_45 : decode cX7_win 45 = .ok (.getfield 219, 3) := by decide +kernel
theorem dX7_win_48 : decode cX7_win 48 = .ok (.iload_n 2, 1) := by decide +kernel
theorem dX7_win_49 : decode cX7_win 49 = .ok (.iaload, 1) := by decide +kernel
theorem dX7_win_50 : decode cX7_win 50 = .ok (.goto 5, 3) := by decide +kernel
theorem dX7_win_53 : decode cX7_win 53 = .ok (.ldc 179, 2) := by decide +kernel
theorem dX7_win_55 : decode cX7_win 55 = .ok (.ireturn, 1) := by decide +kernel
set_option maxRecDepth 20000 in
theorem ggX7_haul_X7_noCase : GoodIn wsX7_haul wsX7_noCase := goodIn_r _ [12, 5, 13, 119, 120, 121, 122, 123, 124, 125, 126, 127, 134, 135, 136, 137, 138, 139, 140, 141, 142] (by decide +kernel) (by decide +kernel)
set_option maxRecDepth 20000 in
theorem gX7_haul_X7_noCase : GoodIn wsX7_haul (wsV RX7 140 RX7 yX7_noCase wsX7_noCase) := goodIn_app (goodIn_of _ (by decide +kernel)) ggX7_haul_X7_noCase
set_option maxRecDepth 20000 in
theorem ggX7_haul_X7_within : GoodIn wsX7_haul wsX7_within := goodIn_r _ [16] (by decide +kernel) (by decide +kernel)
set_option maxRecDepth 20000 in
theorem gX7_haul_X7_within : GoodIn wsX7_haul (va_wsS RX7 66 yX7_within wsX7_within) := goodIn_app (goodIn_of _ (by decide +kernel)) ggX7_haul_X7_within
set_option maxRecDepth 20000 in
theorem ggX7_haul_X4_searchHaul : GoodIn wsX7_haul wsX4_searchHaul := goodIn_r _ [21, 22, 23, 24, 25, 26, 27, 28, 29, 30, 31, 32, 33, 34, 35, 36, 37, 38, 39, 40, 41, 42, 43, 44, 45, 20, 46, 47, 48, 49, 50, 51, 52, 53, 54, 55, 56, 57, 58, 59, 60, 61, 62, 63, 64, 65, 66, 67, 68, 69, 70, 71, 72, 73, 74, 75, 76, 77, 78, 79, 80, 81, 82, 83, 84, 85, 86, 87, 88, 89, 90, 91, 92, 93, 94, 95, 96, 97, 98, 99, 100, 101, 11, 102, 103, 104, 105, 106, 107, 108, 109, 110, 111, 112, 113, 114, 14, 15, 16, 115, 116, 117, 118, 128, 129, 130, 131, 132, 133, 134, 135, 136, 137, 138, 139, 140, 141, 142, 143, 144, 145, 146, 147, 148] (by decide +kernel) (by decide +kernel)
set_option maxRecDepth 20000 in
theorem gX7_haul_X4_searchHaul : GoodIn wsX7_haul (wsV RX7 222 RX4 yX4_searchHaul wsX4_searchHaul) := goodIn_app (goodIn_of _ (by decide +kernel)) ggX7_haul_X4_searchHaul
theorem dX7_haul_0 : decode cX7_haul 0 = .ok (.aload_n 0, 1) := by decide +kernel
theorem dX7_haul_1 : decode cX7_haul 1 = .ok (.invokevirtual 140, 3) := by decide +kernel
theorem dX7_haul_4 : decode cX7_haul 4 = .ok (.ifCond .eq 6, 3) := by decide +kernel
theorem dX7_haul_7 : decode cX7_haul 7 = .ok (.ldc 143, 2) := by decide +kernel
theorem dX7_haul_9 : decode cX7_haul 9 = .ok (.ireturn, 1) := by decide +kernel
theorem dX7_haul_10 : decode cX7_haul 10 = .ok (.iload_n 1, 1) := by decide +kernel
theorem dX7_haul_11 : decode cX7_haul 11 = .ok (.iconst 1, 1) := by decide +kernel
theorem dX7_haul_12 : decode cX7_haul 12 = .ok (.iconst 4, 1) := by decide +kernel
theorem dX7_haul_13 : decode cX7_haul 13 = .ok (.invokestatic 66, 3) := by decide +kernel
theorem dX7_haul_16 : decode cX7_haul 16 = .ok (.ifCond .eq 8, 3) := by decide +kernel
theorem dX7_haul_19 : decode cX7_haul 19 = .ok (.iload_n 2, 1) := by decide +kernel
theorem dX7_haul_20 : decode cX7_haul 20 = .ok (.iconst (-1), 1) := by decide +kernel
theorem dX7_haul_21 : decode cX7_haul 21 = .ok (.if_icmp .ge 6, 3) := by decide +kernel
theorem dX7_haul_24 : decode cX7_haul 24 = .ok (.ldc 70, 2) := by decide +kernel
theorem dX7_haul_26 : decode cX7_haul 26 = .ok (.ireturn, 1) := by decide +kernel
theorem dX7_haul_27 : decode cX7_haul 27 = .ok (.iload_n 2, 1) := by decide +kernel
theorem dX7_haul_28 : decode cX7_haul 28 = .ok (.iload_n 1, 1) := by decide +kernel
theorem dX7_haul_29 : decode cX7_haul 29 = .ok (.if_icmp .lt 6, 3) := by decide +kernel
theorem dX7_haul_32 : decode cX7_haul 32 = .ok (.ldc 179, 2) := by decide +kernel
theorem dX7_haul_34 : decode cX7_haul 34 = .ok (.ireturn, 1) := by decide +kernel
theorem dX7_haul_35 : decode cX7_haul 35 = .ok (.aload_n 0, 1) := by decide +kernel
theorem dX7_haul_36 : decode cX7_haul 36 = .ok (.getfield 43, 3) := by decide +kernel
theorem dX7_haul_39 : decode cX7_haul 39 = .ok (.aload_n 0, 1) := by decide +kernel
theorem dX7_haul_40 : decode cX7_haul 40 = .ok (.getfield 25, 3) := by decide +kernel
theorem dX7_haul_43 : decode cX7_haul 43 = .ok (.iload_n 1, 1) := by decide +kernel
theorem dX7_haul_44 : decode cX7_haul 44 = .ok (.invokevirtual 222, 3) := by decide +kernel
theorem dX7_haul_47 : decode cX7_haul 47 = .ok (.iload_n 2, 1) := by decide +kernel
theorem dX7_haul_48 : decode cX7_haul 48 = .ok (.iconst (-1), 1) := by decide +kernel
theorem dX7_haul_49 : decode cX7_haul 49 = .ok (.if_icmp .ne 13, 3) := by decide +kernel
theorem dX7_haul_52 : decode cX7_haul 52 = .ok (.aload_n 0, 1) := by decide +kernel
theorem dX7_haul_53 : decode cX7_haul 53 = .ok (.getfield 43, 3) := by decide +kernel
theorem dX7_haul_56 : decode cX7_haul 56 = .ok (.getfield 225, 3) := by decide +kernel
theorem dX7_haul_59 : decode cX7_haul 59 = .ok (.goto 12, 3) := by decide +kernel
theorem dX7_haul_62 : decode cX7_haul 62 = .ok (.aload_n 0, 1) := by decide +kernel
theorem dX7_haul_63 : decode cX7_haul 63 = .ok (.getfield 43, 3) := by decide +kernel
theorem dX7_haul_66 : decode cX7_haul 66 = .ok (.getfield 228, 3) := by decide +kernel
theorem dX7_haul_69 : decode cX7_haul 69 = .ok (.iload_n 2, 1) := by decide +kernel
theorem dX7_haul_70 : decode cX7_haul 70 = .ok (.iaload, 1) := by decide +kernel
theorem dX7_haul_71 : decode cX7_haul 71 = .ok (.ireturn, 1) := by decide +kernel
set_option maxRecDepth 20000 in
theorem ggX7_enough_X7_noCase : GoodIn wsX7_enough wsX7_noCase := goodIn_r _ [9, 3, 10, 32, 33, 34, 35, 36, 37, 38, 39, 40, 41, 42, 43, 44, 45, 46, 47, 48, 49] (by decide +kernel) (by decide +kernel)
set_option maxRecDepth 20000 in
theorem gX7_enough_X7_noCase : GoodIn wsX7_enough (wsV RX7 140 RX7 yX7_noCase wsX7_noCase) := goodIn_app (goodIn_of _ (by decide +kernel)) ggX7_enough_X7_noCase
set_option maxRecDepth 20000 in
theorem ggX7_enough_X7_isColumn : GoodIn wsX7_enough wsX7_isColumn := goodIn_r _ [13, 14, 15, 8, 16] (by decide +kernel) (by decide +kernel)
set_option maxRecDepth 20000 in
theorem gX7_enough_X7_isColumn : GoodIn wsX7_enough (va_wsS RX7 144 yX7_isColumn wsX7_isColumn) := goodIn_app (goodIn_of _ (by decide +kernel)) ggX7_enough_X7_isColumn
set_option maxRecDepth 20000 in
theorem ggX7_enough_X3_uppermost : GoodIn wsX7_enough wsX3_uppermost := goodIn_r _ [21, 22, 23, 24, 25, 41, 42, 43, 44, 45, 46, 47, 48, 49] (by decide +kernel) (by decide +kernel)
set_option maxRecDepth 20000 in
theorem gX7_enough_X3_uppermost : GoodIn wsX7_enough (wsV RX7 205 RX3 yX3_uppermost wsX3_uppermost) := goodIn_app (goodIn_of _ (by decide +kernel)) ggX7_enough_X3_uppermost
set_option maxRecDepth 20000 in
theorem ggX7_enough_X3_need : GoodIn wsX7_enough wsX3_need := goodIn_r _ [29, 30, 31, 41, 42, 43, 44, 45, 46, 47, 48, 49] (by decide +kernel) (by decide +kernel)
set_option maxRecDepth 20000 in
theorem gX7_enough_X3_need : GoodIn wsX7_enough (wsV RX7 196 RX3 yX3_need wsX3_need) := goodIn_app (goodIn_of _ (by decide +kernel)) ggX7_enough_X3_need
theorem dX7_enough_0 : decode cX7_enough 0 = .ok (.aload_n 0, 1) := by decide +kernel
theorem dX7_enough_1 : decode cX7_enough 1 = .ok (.invokevirtual 140, 3) := by decide +kernel
theorem dX7_enough_4 : decode cX7_enough 4 = .ok (.ifCond .eq 6, 3) := by decide +kernel
theorem dX7_enough_7 : decode cX7_enough 7 = .ok (.ldc 143, 2) := by decide +kernel
theorem dX7_enough_9 : decode cX7_enough 9 = .ok (.ireturn, 1) := by decide +kernel
theorem dX7_enough_10 : decode cX7_enough 10 = .ok (.iload_n 1, 1) := by decide +kernel
theorem dX7_enough_11 : decode cX7_enough 11 = .ok (.invokestatic 144, 3) := by decide +kernel
theorem dX7_enough_14 : decode cX7_enough 14 = .ok (.ifCond .ne 6, 3) := by decide +kernel
theorem dX7_enough_17 : decode cX7_enough 17 = .ok (.ldc 70, 2) := by decide +kernel
theorem dX7_enough_19 : decode cX7_enough 19 = .ok (.ireturn, 1) := by decide +kernel
theorem dX7_enough_20 : decode cX7_enough 20 = .ok (.aload_n 0, 1) := by decide +kernel
theorem dX7_enough_21 : decode cX7_enough 21 = .ok (.getfield 25, 3) := by decide +kernel
theorem dX7_enough_24 : decode cX7_enough 24 = .ok (.iload_n 1, 1) := by decide +kernel
theorem dX7_enough_25 : decode cX7_enough 25 = .ok (.invokevirtual 205, 3) := by decide +kernel
theorem dX7_enough_28 : decode cX7_enough 28 = .ok (.istore_n 2, 1) := by decide +kernel
theorem dX7_enough_29 : decode cX7_enough 29 = .ok (.iload_n 2, 1) := by decide +kernel
theorem dX7_enough_30 : decode cX7_enough 30 = .ok (.ldc 179, 2) := by decide +kernel
theorem dX7_enough_32 : decode cX7_enough 32 = .ok (.if_icmp .ne 8, 3) := by decide +kernel
theorem dX7_enough_35 : decode cX7_enough 35 = .ok (.ldc 179, 2) := by decide +kernel
theorem dX7_enough_37 : decode cX7_enough 37 = .ok (.goto 15, 3) := by decide +kernel
theorem dX7_enough_40 : decode cX7_enough 40 = .ok (.aload_n 0, 1) := by decide +kernel
theorem dX7_enough_41 : decode cX7_enough 41 = .ok (.getfield 25, 3) := by decide +kernel
theorem dX7_enough_44 : decode cX7_enough 44 = .ok (.iload_n 2, 1) := by decide +kernel
theorem dX7_enough_45 : decode cX7_enough 45 = .ok (.invokevirtual 196, 3) := by decide +kernel
theorem dX7_enough_48 : decode cX7_enough 48 = .ok (.iload_n 1, 1) := by decide +kernel
theorem dX7_enough_49 : decode cX7_enough 49 = .ok (.iadd, 1) := by decide +kernel
theorem dX7_enough_50 : decode cX7_enough 50 = .ok (.iconst 1, 1) := by decide +kernel
theorem dX7_enough_51 : decode cX7_enough 51 = .ok (.isub, 1) := by decide +kernel
theorem dX7_enough_52 : decode cX7_enough 52 = .ok (.ireturn, 1) := by decide +kernel
set_option maxRecDepth 20000 in
theorem ggX7_share_X7_isToy : GoodIn wsX7_share wsX7_isToy := goodIn_r _ [8, 2, 9, 10, 11, 7, 12, 29, 30, 31, 32, 33, 34, 35, 36, 37, 38, 39, 40, 41, 42, 43, 44, 45, 46] (by decide +kernel) (by decide +kernel)
set_option maxRecDepth 20000 in
theorem gX7_share_X7_isToy : GoodIn wsX7_share (wsV RX7 161 RX7 yX7_isToy wsX7_isToy) := goodIn_app (goodIn_of _ (by decide +kernel)) ggX7_share_X7_isToy
set_option maxRecDepth 20000 in
theorem ggX7_share_X7_within : GoodIn wsX7_share wsX7_within := goodIn_r _ [12] (by decide +kernel) (by decide +kernel)
set_option maxRecDepth 20000 in
theorem gX7_share_X7_within : GoodIn wsX7_share (va_wsS RX7 66 yX7_within wsX7_within) := goodIn_app (goodIn_of _ (by decide +kernel)) ggX7_share_X7_within
set_option maxRecDepth 20000 in
theorem ggX7_share_X3_shareOf : GoodIn wsX7_share wsX3_shareOf := goodIn_r _ [17, 18, 19, 20, 21, 22, 23, 24, 25, 26, 27, 16, 28, 38, 39, 40, 41, 42, 43, 44, 45, 46] (by decide +kernel) (by decide +kernel)
set_option maxRecDepth 20000 in
theorem gX7_share_X3_shareOf : GoodIn wsX7_share (wsV RX7 231 RX3 yX3_shareOf wsX3_shareOf) := goodIn_app (goodIn_of _ (by decide +kernel)) ggX7_share_X3_shareOf
theorem dX7_share_0 : decode cX7_share 0 = .ok (.aload_n 0, 1) := by decide +kernel
theorem dX7_share_1 : decode cX7_share 1 = .ok (.iload_n 1, 1) := by decide +kernel
theorem dX7_share_2 : decode cX7_share 2 = .ok (.invokevirtual 161, 3) := by decide +kernel
theorem dX7_share_5 : decode cX7_share 5 = .ok (.ifCond .eq 14, 3) := by decide +kernel
theorem dX7_share_8 : decode cX7_share 8 = .ok (.iload_n 2, 1) := by decide +kernel
theorem dX7_share_9 : decode cX7_share 9 = .ok (.iconst 0, 1) := by decide +kernel
theorem dX7_share_10 : decode cX7_share 10 = .ok (.sipush 999, 3) := by decide +kernel
theorem dX7_share_13 : decode cX7_share 13 = .ok (.invokestatic 66, 3) := by decide +kernel
theorem dX7_share_16 : decode cX7_share 16 = .ok (.ifCond .ne 6, 3) := by decide +kernel
theorem dX7_share_19 : decode cX7_share 19 = .ok (.ldc 70, 2) := by decide +kernel
theorem dX7_share_21 : decode cX7_share 21 = .ok (.ireturn, 1) := by decide +kernel
theorem dX7_share_22 : decode cX7_share 22 = .ok (.aload_n 0, 1) := by decide +kernel
theorem dX7_share_23 : decode cX7_share 23 = .ok (.getfield 25, 3) := by decide +kernel
theorem dX7_share_26 : decode cX7_share 26 = .ok (.getfield 164, 3) := by decide +kernel
theorem dX7_share_29 : decode cX7_share 29 = .ok (.iload_n 1, 1) := by decide +kernel
theorem dX7_share_30 : decode cX7_share 30 = .ok (.iaload, 1) := by decide +kernel
theorem dX7_share_31 : decode cX7_share 31 = .ok (.ifCond .ne 15, 3) := by decide +kernel
theorem dX7_share_34 : decode cX7_share 34 = .ok (.aload_n 0, 1) := by decide +kernel
theorem dX7_share_35 : decode cX7_share 35 = .ok (.getfield 25, 3) := by decide +kernel
theorem dX7_share_38 : decode cX7_share 38 = .ok (.iload_n 1, 1) := by decide +kernel
theorem dX7_share_39 : decode cX7_share 39 = .ok (.iload_n 2, 1) := by decide +kernel
theorem dX7_share_40 : decode cX7_share 40 = .ok (.invokevirtual 231, 3) := by decide +kernel
theorem dX7_share_43 : decode cX7_share 43 = .ok (.goto 4, 3) := by decide +kernel
theorem dX7_share_46 : decode cX7_share 46 = .ok (.iconst 0, 1) := by decide +kernel
theorem dX7_share_47 : decode cX7_share 47 = .ok (.ireturn, 1) := by decide +kernel
set_option maxRecDepth 20000 in
theorem ggX7_fits_X7_isToy : GoodIn wsX7_fits wsX7_isToy := goodIn_r _ [10, 5, 11, 12, 13, 9, 14, 128, 129, 130, 131, 132, 133, 134, 135, 136, 141, 142, 143, 144, 145, 146, 147, 148, 149] (by decide +kernel) (by decide +kernel)
set_option maxRecDepth 20000 in
theorem gX7_fits_X7_isToy : GoodIn wsX7_fits (wsV RX7 161 RX7 yX7_isToy wsX7_isToy) := goodIn_app (goodIn_of _ (by decide +kernel)) ggX7_fits_X7_isToy
set_option maxRecDepth 20000 in
theorem ggX7_fits_X7_isRow : GoodIn wsX7_fits wsX7_isRow := goodIn_r _ [17, 12, 13, 9, 14] (by decide +kernel) (by decide +kernel)
set_option maxRecDepth 20000 in
theorem gX7_fits_X7_isRow : GoodIn wsX7_fits (va_wsS RX7 62 yX7_isRow wsX7_isRow) := goodIn_app (goodIn_of _ (by decide +kernel)) ggX7_fits_X7_isRow
set_option maxRecDepth 20000 in
theorem ggX7_fits_X7_within : GoodIn wsX7_fits wsX7_within := goodIn_r _ [14] (by decide +kernel) (by decide +kernel)
set_option maxRecDepth 20000 in
theorem gX7_fits_X7_within : GoodIn wsX7_fits (va_wsS RX7 66 yX7_within wsX7_within) := goodIn_app (goodIn_of _ (by decide +kernel)) ggX7_fits_X7_within
set_option maxRecDepth 20000 in
theorem ggX7_fits_X7_found : GoodIn wsX7_fits wsX7_found := goodIn_r _ [21, 22, 23, 128, 129, 130, 131, 132, 133, 134, 135, 136] (by decide +kernel) (by decide +kernel)
set_option maxRecDepth 20000 in
theorem gX7_fits_X7_found : GoodIn wsX7_fits (wsV RX7 71 RX7 yX7_found wsX7_found) := goodIn_app (goodIn_of _ (by decide +kernel)) ggX7_fits_X7_found
set_option maxRecDepth 20000 in
theorem ggX7_fits_X6_spans : GoodIn wsX7_fits wsX6_spans := goodIn_r _ [28, 29, 13, 9, 14, 137, 138, 139, 140] (by decide +kernel) (by decide +kernel)
set_option maxRecDepth 20000 in
theorem gX7_fits_X6_spans : GoodIn wsX7_fits (wsV RX7 86 RX6 yX6_spans wsX6_spans) := goodIn_app (goodIn_of _ (by decide +kernel)) ggX7_fits_X6_spans
set_option maxRecDepth 20000 in
theorem ggX7_fits_X4_fitting : GoodIn wsX7_fits wsX4_fitting := goodIn_r _ [34, 35, 36, 37, 38, 39, 40, 41, 42, 43, 44, 45, 46, 47, 48, 49, 50, 51, 52, 53, 54, 55, 56, 33, 57, 58, 59, 60, 61, 62, 63, 64, 65, 66, 67, 68, 69, 70, 71, 72, 73, 74, 75, 76, 77, 78, 79, 80, 81, 82, 83, 84, 85, 86, 87, 88, 89, 90, 91, 92, 93, 94, 95, 96, 97, 98, 99, 100, 101, 102, 103, 104, 105, 106, 107, 9, 108, 109, 110, 111, 112, 113, 114, 115, 116, 117, 118, 119, 120, 121, 122, 123, 12, 13, 14, 150, 151, 152, 153, 154, 155, 141, 142, 143, 144, 145, 146, 147, 148, 149, 137, 138, 139, 140, 156, 157, 158, 159, 160, 161] (by decide +kernel) (by decide +kernel)
set_option maxRecDepth 20000 in
theorem gX7_fits_X4_fitting : GoodIn wsX7_fits (wsV RX7 235 RX4 yX4_fitting wsX4_fitting) := goodIn_app (goodIn_of _ (by decide +kernel)) ggX7_fits_X4_fitting
set_option maxRecDepth 20000 in
theorem ggX7_fits_X7_fine : GoodIn wsX7_fits wsX7_fine := goodIn_r _ [127, 22, 128, 129, 130, 131, 132, 133, 134, 135, 136] (by decide +kernel) (by decide +kernel)
set_option maxRecDepth 20000 in
theorem gX7_fits_X7_fine : GoodIn wsX7_fits (wsV RX7 79 RX7 yX7_fine wsX7_fine) := goodIn_app (goodIn_of _ (by decide +kernel)) ggX7_fits_X7_fine
theorem dX7_fits_0 : decode cX7_fits 0 = .ok (.aload_n 0, 1) := by decide +kernel
theorem dX7_fits_1 : decode cX7_fits 1 = .ok (.iload_n 1, 1) := by decide +kernel
theorem dX7_fits_2 : decode cX7_fits 2 = .ok (.invokevirtual 161, 3) := by decide +kernel
theorem dX7_fits_5 : decode cX7_fits 5 = .ok (.ifCond .eq 31, 3) := by decide +kernel
theorem dX7_fits_8 : decode cX7_fits 8 = .ok (.iload_n 2, 1) := by decide +kernel
theorem dX7_fits_9 : decode cX7_fits 9 = .ok (.invokestatic 62, 3) := by decide +kernel
theorem dX7_fits_12 : decode cX7_fits 12 = .ok (.ifCond .eq 24, 3) := by decide +kernel
theorem dX7_fits_15 : decode cX7_fits 15 = .ok (.iload 4, 2) := by decide +kernel
theorem dX7_fits_17 : decode cX7_fits 17 = .ok (.iconst 1, 1) := by decide +kernel
theorem dX7_fits_18 : decode cX7_fits 18 = .ok (.bipush 12, 2) := by decide +kernel
theorem dX7_fits_20 : decode cX7_fits 20 = .ok (.invokestatic 66, 3) := by decide +kernel
theorem dX7_fits_23 : decode cX7_fits 23 = .ok (.ifCond .eq 13, 3) := by decide +kernel
theorem dX7_fits_26 : decode cX7_fits 26 = .ok (.iload 5, 2) := by decide +kernel
theorem dX7_fits_28 : decode cX7_fits 28 = .ok (.iconst 0, 1) := by decide +kernel
theorem dX7_fits_29 : decode cX7_fits 29 = .ok (.iconst 3, 1) := by decide +kernel
theorem dX7_fits_30 : decode cX7_fits 30 = .ok (.invokestatic 66, 3) := by decide +kernel
theorem dX7_fits_33 : decode cX7_fits 33 = .ok (.ifCond .ne 6, 3) := by decide +kernel
theorem dX7_fits_36 : decode cX7_fits 36 = .ok (.ldc 70, 2) := by decide +kernel
theorem dX7_fits_38 : decode cX7_fits 38 = .ok (.ireturn, 1) := by decide +kernel
theorem dX7_fits_39 : decode cX7_fits 39 = .ok (.aload_n 0, 1) := by decide +kernel
theorem dX7_fits_40 : decode cX7_fits 40 = .ok (.getfield 11, 3) := by decide +kernel
theorem dX7_fits_43 : decode cX7_fits 43 = .ok (.iload_n 2, 1) := by decide +kernel
theorem dX7_fits_44 : decode cX7_fits 44 = .ok (.aaload, 1) := by decide +kernel
theorem dX7_fits_45 : decode cX7_fits 45 = .ok (.astore 6, 2) := by decide +kernel
theorem dX7_fits_47 : decode cX7_fits 47 = .ok (.aload 6, 2) := by decide +kernel
theorem dX7_fits_49 : decode cX7_fits 49 = .ok (.getfield 82, 3) := by decide +kernel
theorem dX7_fits_52 : decode cX7_fits 52 = .ok (.ifCond .eq 9, 3) := by decide +kernel
theorem dX7_fits_55 : decode cX7_fits 55 = .ok (.aload_n 0, 1) := by decide +kernel
theorem dX7_fits_56 : decode cX7_fits 56 = .ok (.iconst 1, 1) := by decide +kernel
theorem dX7_fits_57 : decode cX7_fits 57 = .ok (.invokevirtual 71, 3) := by decide +kernel
theorem dX7_fits_60 : decode cX7_fits 60 = .ok (.ireturn, 1) := by decide +kernel
theorem dX7_fits_61 : decode cX7_fits 61 = .ok (.aload 6, 2) := by decide +kernel
theorem dX7_fits_63 : decode cX7_fits 63 = .ok (.iload_n 3, 1) := by decide +kernel
theorem dX7_fits_64 : decode cX7_fits 64 = .ok (.iload 4, 2) := by decide +kernel
theorem dX7_fits_66 : decode cX7_fits 66 = .ok (.invokevirtual 86, 3) := by decide +kernel
theorem dX7_fits_69 : decode cX7_fits 69 = .ok (.ifCond .ne 9, 3) := by decide +kernel
theorem dX7_fits_72 : decode cX7_fits 72 = .ok (.aload_n 0, 1) := by decide +kernel
theorem dX7_fits_73 : decode cX7_fits 73 = .ok (.iconst 2, 1) := by decide +kernel
theorem dX7_fits_74 : decode cX7_fits 74 = .ok (.invokevirtual 71, 3) := by decide +kernel
theorem dX7_fits_77 : decode cX7_fits 77 = .ok (.ireturn, 1) := by decide +kernel
theorem dX7_fits_78 : decode cX7_fits 78 = .ok (.aload_n 0, 1) := by decide +kernel
theorem dX7_fits_79 : decode cX7_fits 79 = .ok (.aload_n 0, 1) := by decide +kernel
theorem dX7_fits_80 : decode cX7_fits 80 = .ok (.getfield 43, 3) := by decide +kernel
theorem dX7_fits_83 : decode cX7_fits 83 = .ok (.aload_n 0, 1) := by decide +kernel
theorem dX7_fits_84 : decode cX7_fits 84 = .ok (.getfield 25, 3) := by decide +kernel
theorem dX7_fits_87 : decode cX7_fits 87 = .ok (.iload_n 1, 1) := by decide +kernel
theorem dX7_fits_88 : decode cX7_fits 88 = .ok (.aload 6, 2) := by decide +kernel
theorem dX7_fits_90 : decode cX7_fits 90 = .ok (.iload_n 3, 1) := by decide +kernel
theorem dX7_fits_91 : decode cX7_fits 91 = .ok (.iload 4, 2) := by decide +kernel
theorem dX7_fits_93 : decode cX7_fits 93 = .ok (.iload 5, 2) := by decide +kernel
theorem dX7_fits_95 : decode cX7_fits 95 = .ok (.invokevirtual 235, 3) := by decide +kernel
theorem dX7_fits_98 : decode cX7_fits 98 = .ok (.invokevirtual 79, 3) := by decide +kernel
theorem dX7_fits_101 : decode cX7_fits 101 = .ok (.ireturn, 1) := by decide +kernel
set_option maxRecDepth 20000 in
theorem ggX7_chance_X7_isToy : GoodIn wsX7_chance wsX7_isToy := goodIn_r _ [8, 3, 9, 10, 11, 7, 12, 107, 108, 109, 110, 111, 112, 113, 114, 115, 116, 117, 118, 119, 120, 121, 122, 123, 124] (by decide +kernel) (by decide +kernel)
set_option maxRecDepth 20000 in
theorem gX7_chance_X7_isToy : GoodIn wsX7_chance (wsV RX7 161 RX7 yX7_isToy wsX7_isToy) := goodIn_app (goodIn_of _ (by decide +kernel)) ggX7_chance_X7_isToy
set_option maxRecDepth 20000 in
theorem ggX7_chance_X7_isColumn : GoodIn wsX7_chance wsX7_isColumn := goodIn_r _ [15, 10, 11, 7, 12] (by decide +kernel) (by decide +kernel)
set_option maxRecDepth 20000 in
theorem gX7_chance_X7_isColumn : GoodIn wsX7_chance (va_wsS RX7 144 yX7_isColumn wsX7_isColumn) := goodIn_app (goodIn_of _ (by decide +kernel)) ggX7_chance_X7_isColumn
set_option maxRecDepth 20000 in
theorem ggX7_chance_X7_within : GoodIn wsX7_chance wsX7_within := goodIn_r _ [12] (by decide +kernel) (by decide +kernel)
set_option maxRecDepth 20000 in
theorem gX7_chance_X7_within : GoodIn wsX7_chance (va_wsS RX7 66 yX7_within wsX7_within) := goodIn_app (goodIn_of _ (by decide +kernel)) ggX7_chance_X7_within
set_option maxRecDepth 20000 in
theorem ggX7_chance_X4_waysToWin : GoodIn wsX7_chance wsX4_waysToWin := goodIn_r _ [20, 21, 22, 23, 24, 25, 26, 27, 28, 29, 30, 31, 32, 33, 34, 35, 36, 37, 38, 39, 40, 41, 42, 19, 43, 44, 45, 46, 47, 48, 7, 49, 50, 51, 52, 53, 54, 55, 56, 57, 58, 59, 60, 61, 62, 63, 64, 65, 66, 67, 68, 69, 70, 71, 72, 73, 74, 75, 76, 77, 78, 79, 80, 81, 82, 83, 84, 85, 86, 87, 88, 89, 90, 91, 92, 93, 94, 95, 96, 97, 98, 14, 15, 10, 11, 12, 99, 100, 101, 102, 125, 126, 127, 128, 129, 130, 116, 117, 118, 119, 120, 121, 122, 123, 124, 131, 132, 133, 134, 135, 136] (by decide +kernel) (by decide +kernel)
set_option maxRecDepth 20000 in
theorem gX7_chance_X4_waysToWin : GoodIn wsX7_chance (wsV RX7 239 RX4 yX4_waysToWin wsX4_waysToWin) := goodIn_app (goodIn_of _ (by decide +kernel)) ggX7_chance_X4_waysToWin
set_option maxRecDepth 20000 in
theorem ggX7_chance_X7_power : GoodIn wsX7_chance wsX7_power := goodIn_r _ [49] (by decide +kernel) (by decide +kernel)
set_option maxRecDepth 20000 in
theorem gX7_chance_X7_power : GoodIn wsX7_chance (va_wsS RX7 243 yX7_power wsX7_power) := goodIn_app (goodIn_of _ (by decide +kernel)) ggX7_chance_X7_power
set_option maxRecDepth 20000 in
theorem ggX7_chance_X7_commonDivisor : GoodIn wsX7_chance wsX7_commonDivisor := goodIn_r _ [106] (by decide +kernel) (by decide +kernel)
set_option maxRecDepth 20000 in
theorem gX7_chance_X7_commonDivisor : GoodIn wsX7_chance (va_wsS RX7 246 yX7_commonDivisor wsX7_commonDivisor) := goodIn_app (goodIn_of _ (by decide +kernel)) ggX7_chance_X7_commonDivisor
theorem dX7_chance_0 : decode cX7_chance 0 = .ok (.aload_n 0, 1) := by decide +kernel
theorem dX7_chance_1 : decode cX7_chance 1 = .ok (.iload_n 1, 1) := by decide +kernel
theorem dX7_chance_2 : decode cX7_chance 2 = .ok (.invokevirtual 161, 3) := by decide +kernel
theorem dX7_chance_5 : decode cX7_chance 5 = .ok (.ifCond .eq 20, 3) := by decide +kernel
theorem dX7_chance_8 : decode cX7_chance 8 = .ok (.iload_n 2, 1) := by decide +kernel
theorem dX7_chance_9 : decode cX7_chance 9 = .ok (.invokestatic 144, 3) := by decide +kernel
theorem dX7_chance_12 : decode cX7_chance 12 = .ok (.ifCond .eq 13, 3) := by decide +kernel
theorem dX7_chance_15 : decode cX7_chance 15 = .ok (.iload_n 3, 1) := by decide +kernel
theorem dX7_chance_16 : decode cX7_chance 16 = .ok (.iconst 0, 1) := by decide +kernel
theorem dX7_chance_17 : decode cX7_chance 17 = .ok (.bipush 8, 2) := by decide +kernel
theorem dX7_chance_19 : decode cX7_chance 19 = .ok (.invokestatic 66, 3) := by decide +kernel
theorem dX7_chance_22 : decode cX7_chance 22 = .ok (.ifCond .ne 6, 3) := by decide +kernel
theorem dX7_chance_25 : decode cX7_chance 25 = .ok (.ldc 70, 2) := by decide +kernel
theorem dX7_chance_27 : decode cX7_chance 27 = .ok (.ireturn, 1) := by decide +kernel
theorem dX7_chance_28 : decode cX7_chance 28 = .ok (.iload 4, 2) := by decide +kernel
theorem dX7_chance_30 : decode cX7_chance 30 = .ok (.iconst 0, 1) := by decide +kernel
theorem dX7_chance_31 : decode cX7_chance 31 = .ok (.bipush 10, 2) := by decide +kernel
theorem dX7_chance_33 : decode cX7_chance 33 = .ok (.invokestatic 66, 3) := by decide +kernel
theorem dX7_chance_36 : decode cX7_chance 36 = .ok (.ifCond .eq 13, 3) := by decide +kernel
theorem dX7_chance_39 : decode cX7_chance 39 = .ok (.iload 5, 2) := by decide +kernel
theorem dX7_chance_41 : decode cX7_chance 41 = .ok (.iconst 0, 1) := by decide +kernel
theorem dX7_chance_42 : decode cX7_chance 42 = .ok (.iconst 1, 1) := by decide +kernel
theorem dX7_chance_43 : decode cX7_chance 43 = .ok (.invokestatic 66, 3) := by decide +kernel
theorem dX7_chance_46 : decode cX7_chance 46 = .ok (.ifCond .ne 6, 3) := by decide +kernel
theorem dX7_chance_49 : decode cX7_chance 49 = .ok (.ldc 70, 2) := by decide +kernel
theorem dX7_chance_51 : decode cX7_chance 51 = .ok (.ireturn, 1) := by decide +kernel
theorem dX7_chance_52 : decode cX7_chance 52 = .ok (.aload_n 0, 1) := by decide +kernel
theorem dX7_chance_53 : decode cX7_chance 53 = .ok (.getfield 43, 3) := by decide +kernel
theorem dX7_chance_56 : decode cX7_chance 56 = .ok (.aload_n 0, 1) := by decide +kernel
theorem dX7_chance_57 : decode cX7_chance 57 = .ok (.getfield 25, 3) := by decide +kernel
theorem dX7_chance_60 : decode cX7_chance 60 = .ok (.iload_n 1, 1) := by decide +kernel
theorem dX7_chance_61 : decode cX7_chance 61 = .ok (.iload_n 2, 1) := by decide +kernel
theorem dX7_chance_62 : decode cX7_chance 62 = .ok (.iload_n 3, 1) := by decide +kernel
theorem dX7_chance_63 : decode cX7_chance 63 = .ok (.iload 4, 2) := by decide +kernel
theorem dX7_chance_65 : decode cX7_chance 65 = .ok (.invokevirtual 239, 3) := by decide +kernel
theorem dX7_chance_68 : decode cX7_chance 68 = .ok (.istore 6, 2) := by decide +kernel
theorem dX7_chance_70 : decode cX7_chance 70 = .ok (.bipush 10, 2) := by decide +kernel
theorem dX7_chance_72 : decode cX7_chance 72 = .ok (.iload_n 3, 1) := by decide +kernel
theorem dX7_chance_73 : decode cX7_chance 73 = .ok (.invokestatic 243, 3) := by decide +kernel
theorem dX7_chance_76 : decode cX7_chance 76 = .ok (.istore 7, 2) := by decide +kernel
theorem dX7_chance_78 : decode cX7_chance 78 = .ok (.iload 6, 2) := by decide +kernel
theorem dX7_chance_80 : decode cX7_chance 80 = .ok (.iload 7, 2) := by decide +kernel
theorem dX7_chance_82 : decode cX7_chance 82 = .ok (.invokestatic 246, 3) := by decide +kernel
theorem dX7_chance_85 : decode cX7_chance 85 = .ok (.istore 8, 2) := by decide +kernel
theorem dX7_chance_87 : decode cX7_chance 87 = .ok (.iload 5, 2) := by decide +kernel
theorem dX7_chance_89 : decode cX7_chance 89 = .ok (.ifCond .ne 8, 3) := by decide +kernel
theorem dX7_chance_92 : decode cX7_chance 92 = .ok (.iload 6, 2) := by decide +kernel
theorem dX7_chance_94 : decode cX7_chance 94 = .ok (.goto 5, 3) := by decide +kernel
theorem dX7_chance_97 : decode cX7_chance 97 = .ok (.iload 7, 2) := by decide +kernel
theorem dX7_chance_99 : decode cX7_chance 99 = .ok (.iload 8, 2) := by decide +kernel
theorem dX7_chance_101 : decode cX7_chance 101 = .ok (.idiv, 1) := by decide +kernel
theorem dX7_chance_102 : decode cX7_chance 102 = .ok (.ireturn, 1) := by decide +kernel
set_option maxRecDepth 20000 in
theorem ggX7_drawn_X7_noCase : GoodIn wsX7_drawn wsX7_noCase := goodIn_r _ [11, 5, 12, 108, 109, 110, 111, 112, 113, 114, 115, 116, 123, 124, 125, 126, 127, 128, 129, 130, 131] (by decide +kernel) (by decide +kernel)
set_option maxRecDepth 20000 in
theorem gX7_drawn_X7_noCase : GoodIn wsX7_drawn (wsV RX7 140 RX7 yX7_noCase wsX7_noCase) := goodIn_app (goodIn_of _ (by decide +kernel)) ggX7_drawn_X7_noCase
set_option maxRecDepth 20000 in
theorem ggX7_drawn_X7_within : GoodIn wsX7_drawn wsX7_within := goodIn_r _ [15] (by decide +kernel) (by decide +kernel)
set_option maxRecDepth 20000 in
theorem gX7_drawn_X7_within : GoodIn wsX7_drawn (va_wsS RX7 66 yX7_within wsX7_within) := goodIn_app (goodIn_of _ (by decide +kernel)) ggX7_drawn_X7_within
set_option maxRecDepth 20000 in
theorem ggX7_drawn_X4_winsByDraws : GoodIn wsX7_drawn wsX4_winsByDraws := goodIn_r _ [20, 21, 22, 23, 24, 25, 26, 27, 28, 29, 30, 31, 32, 33, 34, 35, 36, 37, 38, 39, 40, 41, 42, 43, 44, 45, 46, 47, 48, 49, 50, 51, 10, 52, 13, 14, 15, 53, 54, 55, 56, 57, 58, 59, 60, 61, 62, 63, 64, 65, 66, 67, 68, 69, 70, 71, 72, 73, 74, 75, 76, 77, 78, 79, 80, 81, 82, 83, 84, 85, 86, 87, 88, 89, 90, 91, 92, 93, 94, 95, 96, 97, 98, 99, 100, 101, 102, 103, 104, 105, 106, 117, 118, 119, 120, 121, 122, 123, 124, 125, 126, 127, 128, 129, 130, 131, 132, 133, 134, 135, 136, 137] (by decide +kernel) (by decide +kernel)
set_option maxRecDepth 20000 in
theorem gX7_drawn_X4_winsByDraws : GoodIn wsX7_drawn (wsV RX7 250 RX4 yX4_winsByDraws wsX4_winsByDraws) := goodIn_app (goodIn_of _ (by decide +kernel)) ggX7_drawn_X4_winsByDraws
set_option maxRecDepth 20000 in
theorem ggX7_drawn_X3_howMany : GoodIn wsX7_drawn wsX3_howMany := goodIn_r _ [60, 46, 44, 123, 124, 125, 126, 127, 128, 129, 130, 131] (by decide +kernel) (by decide +kernel)
set_option maxRecDepth 20000 in
theorem gX7_drawn_X3_howMany : GoodIn wsX7_drawn (wsV RX7 176 RX3 yX3_howMany wsX3_howMany) := goodIn_app (goodIn_of _ (by decide +kernel)) ggX7_drawn_X3_howMany
theorem dX7_drawn_0 : decode cX7_drawn 0 = .ok (.aload_n 0, 1) := by decide +kernel
theorem dX7_drawn_1 : decode cX7_drawn 1 = .ok (.invokevirtual 140, 3) := by decide +kernel
theorem dX7_drawn_4 : decode cX7_drawn 4 = .ok (.ifCond .eq 6, 3) := by decide +kernel
theorem dX7_drawn_7 : decode cX7_drawn 7 = .ok (.ldc 143, 2) := by decide +kernel
theorem dX7_drawn_9 : decode cX7_drawn 9 = .ok (.ireturn, 1) := by decide +kernel
theorem dX7_drawn_10 : decode cX7_drawn 10 = .ok (.iload_n 1, 1) := by decide +kernel
theorem dX7_drawn_11 : decode cX7_drawn 11 = .ok (.iconst 0, 1) := by decide +kernel
theorem dX7_drawn_12 : decode cX7_drawn 12 = .ok (.bipush 60, 2) := by decide +kernel
theorem dX7_drawn_14 : decode cX7_drawn 14 = .ok (.invokestatic 66, 3) := by decide +kernel
theorem dX7_drawn_17 : decode cX7_drawn 17 = .ok (.ifCond .eq 22, 3) := by decide +kernel
theorem dX7_drawn_20 : decode cX7_drawn 20 = .ok (.iload_n 2, 1) := by decide +kernel
theorem dX7_drawn_21 : decode cX7_drawn 21 = .ok (.iconst 1, 1) := by decide +kernel
theorem dX7_drawn_22 : decode cX7_drawn 22 = .ok (.ldc 249, 2) := by decide +kernel
theorem dX7_drawn_24 : decode cX7_drawn 24 = .ok (.invokestatic 66, 3) := by decide +kernel
theorem dX7_drawn_27 : decode cX7_drawn 27 = .ok (.ifCond .eq 12, 3) := by decide +kernel
theorem dX7_drawn_30 : decode cX7_drawn 30 = .ok (.iload_n 3, 1) := by decide +kernel
theorem dX7_drawn_31 : decode cX7_drawn 31 = .ok (.iconst 0, 1) := by decide +kernel
theorem dX7_drawn_32 : decode cX7_drawn 32 = .ok (.iconst 1, 1) := by decide +kernel
theorem dX7_drawn_33 : decode cX7_drawn 33 = .ok (.invokestatic 66, 3) := by decide +kernel
theorem dX7_drawn_36 : decode cX7_drawn 36 = .ok (.ifCond .ne 6, 3) := by decide +kernel
theorem dX7_drawn_39 : decode cX7_drawn 39 = .ok (.ldc 70, 2) := by decide +kernel
theorem dX7_drawn_41 : decode cX7_drawn 41 = .ok (.ireturn, 1) := by decide +kernel
theorem dX7_drawn_42 : decode cX7_drawn 42 = .ok (.aload_n 0, 1) := by decide +kernel
theorem dX7_drawn_43 : decode cX7_drawn 43 = .ok (.getfield 43, 3) := by decide +kernel
theorem dX7_drawn_46 : decode cX7_drawn 46 = .ok (.aload_n 0, 1) := by decide +kernel
theorem dX7_drawn_47 : decode cX7_drawn 47 = .ok (.getfield 25, 3) := by decide +kernel
theorem dX7_drawn_50 : decode cX7_drawn 50 = .ok (.iload_n 1, 1) := by decide +kernel
theorem dX7_drawn_51 : decode cX7_drawn 51 = .ok (.iload_n 2, 1) := by decide +kernel
theorem dX7_drawn_52 : decode cX7_drawn 52 = .ok (.invokevirtual 250, 3) := by decide +kernel
theorem dX7_drawn_55 : decode cX7_drawn 55 = .ok (.istore 4, 2) := by decide +kernel
theorem dX7_drawn_57 : decode cX7_drawn 57 = .ok (.iload_n 3, 1) := by decide +kernel
theorem dX7_drawn_58 : decode cX7_drawn 58 = .ok (.ifCond .ne 8, 3) := by decide +kernel
theorem dX7_drawn_61 : decode cX7_drawn 61 = .ok (.iload 4, 2) := by decide +kernel
theorem dX7_drawn_63 : decode cX7_drawn 63 = .ok (.goto 15, 3) := by decide +kernel
theorem dX7_drawn_66 : decode cX7_drawn 66 = .ok (.aload_n 0, 1) := by decide +kernel
theorem dX7_drawn_67 : decode cX7_drawn 67 = .ok (.getfield 43, 3) := by decide +kernel
theorem dX7_drawn_70 : decode cX7_drawn 70 = .ok (.getfield 254, 3) := by decide +kernel
theorem dX7_drawn_73 : decode cX7_drawn 73 = .ok (.bipush 9, 2) := by decide +kernel
theorem dX7_drawn_75 : decode cX7_drawn 75 = .ok (.invokevirtual 176, 3) := by decide +kernel
theorem dX7_drawn_78 : decode cX7_drawn 78 = .ok (.ireturn, 1) := by decide +kernel
set_option maxRecDepth 20000 in
theorem ggX7_image_X7_within : GoodIn wsX7_image wsX7_within := goodIn_r _ [8] (by decide +kernel) (by decide +kernel)
set_option maxRecDepth 20000 in
theorem gX7_image_X7_within : GoodIn wsX7_image (va_wsS RX7 66 yX7_within wsX7_within) := goodIn_app (goodIn_of _ (by decide +kernel)) ggX7_image_X7_within
set_option maxRecDepth 20000 in
theorem ggX7_image_X7_noCase : GoodIn wsX7_image wsX7_noCase := goodIn_r _ [12, 4, 13, 32, 33, 34, 35, 36, 37, 38, 39, 40, 41, 42, 43, 44, 45, 46, 47, 48, 49] (by decide +kernel) (by decide +kernel)
set_option maxRecDepth 20000 in
theorem gX7_image_X7_noCase : GoodIn wsX7_image (wsV RX7 140 RX7 yX7_noCase wsX7_noCase) := goodIn_app (goodIn_of _ (by decide +kernel)) ggX7_image_X7_noCase
set_option maxRecDepth 20000 in
theorem ggX7_image_X3_become : GoodIn wsX7_image wsX3_become := goodIn_r _ [18, 19, 20, 21, 22, 23, 24, 25, 26, 27, 28, 29, 30, 31, 41, 42, 43, 44, 45, 46, 47, 48, 49] (by decide +kernel) (by decide +kernel)
set_option maxRecDepth 20000 in
theorem gX7_image_X3_become : GoodIn wsX7_image (wsV RX7 130 RX3 yX3_become wsX3_become) := goodIn_app (goodIn_of _ (by decide +kernel)) ggX7_image_X3_become
theorem dX7_image_0 : decode cX7_image 0 = .ok (.iload_n 1, 1) := by decide +kernel
theorem dX7_image_1 : decode cX7_image 1 = .ok (.iconst 0, 1) := by decide +kernel
theorem dX7_image_2 : decode cX7_image 2 = .ok (.iconst 1, 1) := by decide +kernel
theorem dX7_image_3 : decode cX7_image 3 = .ok (.invokestatic 66, 3) := by decide +kernel
theorem dX7_image_6 : decode cX7_image 6 = .ok (.ifCond .ne 6, 3) := by decide +kernel
theorem dX7_image_9 : decode cX7_image 9 = .ok (.ldc 70, 2) := by decide +kernel
theorem dX7_image_11 : decode cX7_image 11 = .ok (.ireturn, 1) := by decide +kernel
theorem dX7_image_12 : decode cX7_image 12 = .ok (.aload_n 0, 1) := by decide +kernel
theorem dX7_image_13 : decode cX7_image 13 = .ok (.invokevirtual 140, 3) := by decide +kernel
theorem dX7_image_16 : decode cX7_image 16 = .ok (.ifCond .eq 6, 3) := by decide +kernel
theorem dX7_image_19 : decode cX7_image 19 = .ok (.ldc 143, 2) := by decide +kernel
theorem dX7_image_21 : decode cX7_image 21 = .ok (.ireturn, 1) := by decide +kernel
theorem dX7_image_22 : decode cX7_image 22 = .ok (.aload_n 0, 1) := by decide +kernel
theorem dX7_image_23 : decode cX7_image 23 = .ok (.getfield 36, 3) := by decide +kernel
theorem dX7_image_26 : decode cX7_image 26 = .ok (.iload_n 1, 1) := by decide +kernel
theorem dX7_image_27 : decode cX7_image 27 = .ok (.aaload, 1) := by decide +kernel
theorem dX7_image_28 : decode cX7_image 28 = .ok (.aload_n 0, 1) := by decide +kernel
theorem dX7_image_29 : decode cX7_image 29 = .ok (.getfield 25, 3) := by decide +kernel
theorem dX7_image_32 : decode cX7_image 32 = .ok (.invokevirtual 130, 3) := by decide +kernel
theorem dX7_image_35 : decode cX7_image 35 = .ok (.iconst 1, 1) := by decide +kernel
theorem dX7_image_36 : decode cX7_image 36 = .ok (.ireturn, 1) := by decide +kernel
set_option maxRecDepth 20000 in
theorem ggX7_restore_X7_within : GoodIn wsX7_restore wsX7_within := goodIn_r _ [10] (by decide +kernel) (by decide +kernel)
set_option maxRecDepth 20000 in
theorem gX7_restore_X7_within : GoodIn wsX7_restore (va_wsS RX7 66 yX7_within wsX7_within) := goodIn_app (goodIn_of _ (by decide +kernel)) ggX7_restore_X7_within
set_option maxRecDepth 20000 in
theorem ggX7_restore_X3_become : GoodIn wsX7_restore wsX3_become := goodIn_r _ [15, 16, 17, 18, 19, 20, 21, 22, 23, 24, 25, 26, 27, 28, 44, 45, 46, 47, 48, 49, 50, 51, 52] (by decide +kernel) (by decide +kernel)
set_option maxRecDepth 20000 in
theorem gX7_restore_X3_become : GoodIn wsX7_restore (wsV RX7 130 RX3 yX3_become wsX3_become) := goodIn_app (goodIn_of _ (by decide +kernel)) ggX7_restore_X3_become
set_option maxRecDepth 20000 in
theorem ggX7_restore_X0_forget : GoodIn wsX7_restore wsX0_forget := goodIn_r _ [33, 34, 53, 54, 55] (by decide +kernel) (by decide +kernel)
set_option maxRecDepth 20000 in
theorem gX7_restore_X0_forget : GoodIn wsX7_restore (wsV RX7 134 RX0 yX0_forget wsX0_forget) := goodIn_app (goodIn_of _ (by decide +kernel)) ggX7_restore_X0_forget
theorem dX7_restore_0 : decode cX7_restore 0 = .ok (.iload_n 1, 1) := by decide +kernel
theorem dX7_restore_1 : decode cX7_restore 1 = .ok (.iconst 0, 1) := by decide +kernel
theorem dX7_restore_2 : decode cX7_restore 2 = .ok (.iconst 1, 1) := by decide +kernel
theorem dX7_restore_3 : decode cX7_restore 3 = .ok (.invokestatic 66, 3) := by decide +kernel
theorem dX7_restore_6 : decode cX7_restore 6 = .ok (.ifCond .ne 6, 3) := by decide +kernel
theorem dX7_restore_9 : decode cX7_restore 9 = .ok (.ldc 70, 2) := by decide +kernel
theorem dX7_restore_11 : decode cX7_restore 11 = .ok (.ireturn, 1) := by decide +kernel
theorem dX7_restore_12 : decode cX7_restore 12 = .ok (.aload_n 0, 1) := by decide +kernel
theorem dX7_restore_13 : decode cX7_restore 13 = .ok (.getfield 36, 3) := by decide +kernel
theorem dX7_restore_16 : decode cX7_restore 16 = .ok (.iload_n 1, 1) := by decide +kernel
theorem dX7_restore_17 : decode cX7_restore 17 = .ok (.aaload, 1) := by decide +kernel
theorem dX7_restore_18 : decode cX7_restore 18 = .ok (.getfield 137, 3) := by decide +kernel
theorem dX7_restore_21 : decode cX7_restore 21 = .ok (.ifCond .ne 6, 3) := by decide +kernel
theorem dX7_restore_24 : decode cX7_restore 24 = .ok (.ldc 143, 2) := by decide +kernel
theorem dX7_restore_26 : decode cX7_restore 26 = .ok (.ireturn, 1) := by decide +kernel
theorem dX7_restore_27 : decode cX7_restore 27 = .ok (.aload_n 0, 1) := by decide +kernel
theorem dX7_restore_28 : decode cX7_restore 28 = .ok (.getfield 25, 3) := by decide +kernel
theorem dX7_restore_31 : decode cX7_restore 31 = .ok (.aload_n 0, 1) := by decide +kernel
theorem dX7_restore_32 : decode cX7_restore 32 = .ok (.getfield 36, 3) := by decide +kernel
theorem dX7_restore_35 : decode cX7_restore 35 = .ok (.iload_n 1, 1) := by decide +kernel
theorem dX7_restore_36 : decode cX7_restore 36 = .ok (.aaload, 1) := by decide +kernel
theorem dX7_restore_37 : decode cX7_restore 37 = .ok (.invokevirtual 130, 3) := by decide +kernel
theorem dX7_restore_40 : decode cX7_restore 40 = .ok (.aload_n 0, 1) := by decide +kernel
theorem dX7_restore_41 : decode cX7_restore 41 = .ok (.getfield 32, 3) := by decide +kernel
theorem dX7_restore_44 : decode cX7_restore 44 = .ok (.invokevirtual 134, 3) := by decide +kernel
theorem dX7_restore_47 : decode cX7_restore 47 = .ok (.iconst 1, 1) := by decide +kernel
theorem dX7_restore_48 : decode cX7_restore 48 = .ok (.ireturn, 1) := by decide +kernel
set_option maxRecDepth 20000 in
theorem ggX7_kind_X7_isToy : GoodIn wsX7_kind wsX7_isToy := goodIn_r _ [8, 1, 9, 10, 11, 7, 12, 13, 14, 15, 16, 17, 18, 19, 20, 21, 22, 23, 24, 25, 26, 27, 28, 29, 30] (by decide +kernel) (by decide +kernel)
set_option maxRecDepth 20000 in
theorem gX7_kind_X7_isToy : GoodIn wsX7_kind (wsV RX7 161 RX7 yX7_isToy wsX7_isToy) := goodIn_app (goodIn_of _ (by decide +kernel)) ggX7_kind_X7_isToy
theorem dX7_kind_0 : decode cX7_kind 0 = .ok (.aload_n 0, 1) := by decide +kernel
theorem dX7_kind_1 : decode cX7_kind 1 = .ok (.iload_n 1, 1) := by decide +kernel
theorem dX7_kind_2 : decode cX7_kind 2 = .ok (.invokevirtual 161, 3) := by decide +kernel
theorem dX7_kind_5 : decode cX7_kind 5 = .ok (.ifCond .eq 15, 3) := by decide +kernel
theorem dX7_kind_8 : decode cX7_kind 8 = .ok (.aload_n 0, 1) := by decide +kernel
theorem dX7_kind_9 : decode cX7_kind 9 = .ok (.getfield 25, 3) := by decide +kernel
theorem dX7_kind_12 : decode cX7_kind 12 = .ok (.getfield 257, 3) := by decide +kernel
theorem dX7_kind_15 : decode cX7_kind 15 = .ok (.iload_n 1, 1) := by decide +kernel
theorem dX7_kind_16 : decode cX7_kind 16 = .ok (.iaload, 1) := by decide +kernel
theorem dX7_kind_17 : decode cX7_kind 17 = .ok (.goto 5, 3) := by decide +kernel
theorem dX7_kind_20 : decode cX7_kind 20 = .ok (.ldc 70, 2) := by decide +kernel
theorem dX7_kind_22 : decode cX7_kind 22 = .ok (.ireturn, 1) := by decide +kernel
set_option maxRecDepth 20000 in
theorem ggX7_as_X7_isToy : GoodIn wsX7_as wsX7_isToy := goodIn_r _ [8, 2, 9, 10, 11, 7, 12, 27, 28, 29, 30, 31, 32, 33, 34, 35, 36, 37, 38, 39, 40, 41, 42, 43, 44] (by decide +kernel) (by decide +kernel)
set_option maxRecDepth 20000 in
theorem gX7_as_X7_isToy : GoodIn wsX7_as (wsV RX7 161 RX7 yX7_isToy wsX7_isToy) := goodIn_app (goodIn_of _ (by decide +kernel)) ggX7_as_X7_isToy
set_option maxRecDepth 20000 in
theorem ggX7_as_X7_within : GoodIn wsX7_as wsX7_within := goodIn_r _ [12] (by decide +kernel) (by decide +kernel)
set_option maxRecDepth 20000 in
theorem gX7_as_X7_within : GoodIn wsX7_as (va_wsS RX7 66 yX7_within wsX7_within) := goodIn_app (goodIn_of _ (by decide +kernel)) ggX7_as_X7_within
set_option maxRecDepth 20000 in
theorem ggX7_as_X7_isOfKind : GoodIn wsX7_as wsX7_isOfKind := goodIn_r _ [15, 16] (by decide +kernel) (by decide +kernel)
set_option maxRecDepth 20000 in
theorem gX7_as_X7_isOfKind : GoodIn wsX7_as (va_wsS RX7 260 yX7_isOfKind wsX7_isOfKind) := goodIn_app (goodIn_of _ (by decide +kernel)) ggX7_as_X7_isOfKind
set_option maxRecDepth 20000 in
theorem ggX7_as_X7_fine : GoodIn wsX7_as wsX7_fine := goodIn_r _ [20, 21, 27, 28, 29, 30, 31, 32, 33, 34, 35] (by decide +kernel) (by decide +kernel)
set_option maxRecDepth 20000 in
theorem gX7_as_X7_fine : GoodIn wsX7_as (wsV RX7 79 RX7 yX7_fine wsX7_fine) := goodIn_app (goodIn_of _ (by decide +kernel)) ggX7_as_X7_fine
set_option maxRecDepth 20000 in
theorem ggX7_as_X7_found : GoodIn wsX7_as wsX7_found := goodIn_r _ [25, 21, 26, 27, 28, 29, 30, 31, 32, 33, 34, 35] (by decide +kernel) (by decide +kernel)
set_option maxRecDepth 20000 in
theorem gX7_as_X7_found : GoodIn wsX7_as (wsV RX7 71 RX7 yX7_found wsX7_found) := goodIn_app (goodIn_of _ (by decide +kernel)) ggX7_as_X7_found
theorem dX7_as_0 : decode cX7_as 0 = .ok (.aload_n 0, 1) := by decide +kernel
theorem dX7_as_1 : decode cX7_as 1 = .ok (.iload_n 1, 1) := by decide +kernel
theorem dX7_as_2 : decode cX7_as 2 = .ok (.invokevirtual 161, 3) := by decide +kernel
theorem dX7_as_5 : decode cX7_as 5 = .ok (.ifCond .eq 12, 3) := by decide +kernel
theorem dX7_as_8 : decode cX7_as 8 = .ok (.iload_n 2, 1) := by decide +kernel
theorem dX7_as_9 : decode cX7_as 9 = .ok (.iconst 0, 1) := by decide +kernel
theorem dX7_as_10 : decode cX7_as 10 = .ok (.iconst 5, 1) := by decide +kernel
theorem dX7_as_11 : decode cX7_as 11 = .ok (.invokestatic 66, 3) := by decide +kernel
theorem dX7_as_14 : decode cX7_as 14 = .ok (.ifCond .ne 6, 3) := by decide +kernel
theorem dX7_as_17 : decode cX7_as 17 = .ok (.ldc 70, 2) := by decide +kernel
theorem dX7_as_19 : decode cX7_as 19 = .ok (.ireturn, 1) := by decide +kernel
theorem dX7_as_20 : decode cX7_as 20 = .ok (.aload_n 0, 1) := by decide +kernel
theorem dX7_as_21 : decode cX7_as 21 = .ok (.getfield 25, 3) := by decide +kernel
theorem dX7_as_24 : decode cX7_as 24 = .ok (.getfield 257, 3) := by decide +kernel
theorem dX7_as_27 : decode cX7_as 27 = .ok (.iload_n 1, 1) := by decide +kernel
theorem dX7_as_28 : decode cX7_as 28 = .ok (.iaload, 1) := by decide +kernel
theorem dX7_as_29 : decode cX7_as 29 = .ok (.iload_n 2, 1) := by decide +kernel
theorem dX7_as_30 : decode cX7_as 30 = .ok (.invokestatic 260, 3) := by decide +kernel
theorem dX7_as_33 : decode cX7_as 33 = .ok (.ifCond .eq 11, 3) := by decide +kernel
theorem dX7_as_36 : decode cX7_as 36 = .ok (.aload_n 0, 1) := by decide +kernel
theorem dX7_as_37 : decode cX7_as 37 = .ok (.iload_n 1, 1) := by decide +kernel
theorem dX7_as_38 : decode cX7_as 38 = .ok (.invokevirtual 79, 3) := by decide +kernel
theorem dX7_as_41 : decode cX7_as 41 = .ok (.goto 8, 3) := by decide +kernel
theorem dX7_as_44 : decode cX7_as 44 = .ok (.aload_n 0, 1) := by decide +kernel
theorem dX7_as_45 : decode cX7_as 45 = .ok (.iconst 3, 1) := by decide +kernel
theorem dX7_as_46 : decode cX7_as 46 = .ok (.invokevirtual 71, 3) := by decide +kernel
theorem dX7_as_49 : decode cX7_as 49 = .ok (.ireturn, 1) := by decide +kernel
set_option maxRecDepth 20000 in
theorem ggX7_ask_X7_isToy : GoodIn wsX7_ask wsX7_isToy := goodIn_r _ [11, 3, 12, 13, 14, 10, 15, 32, 33, 34, 35, 36, 37, 38, 39, 40, 41, 42, 43, 44, 45, 46, 47, 48, 49] (by decide +kernel) (by decide +kernel)
set_option maxRecDepth 20000 in
theorem gX7_ask_X7_isToy : GoodIn wsX7_ask (wsV RX7 161 RX7 yX7_isToy wsX7_isToy) := goodIn_app (goodIn_of _ (by decide +kernel)) ggX7_ask_X7_isToy
set_option maxRecDepth 20000 in
theorem ggX7_ask_X7_within : GoodIn wsX7_ask wsX7_within := goodIn_r _ [15] (by decide +kernel) (by decide +kernel)
set_option maxRecDepth 20000 in
theorem gX7_ask_X7_within : GoodIn wsX7_ask (va_wsS RX7 66 yX7_within wsX7_within) := goodIn_app (goodIn_of _ (by decide +kernel)) ggX7_ask_X7_within
set_option maxRecDepth 20000 in
theorem ggX7_ask_X1_answer : GoodIn wsX7_ask wsX1_answer := goodIn_r _ [20, 21, 22, 23, 24, 19, 25, 26, 27, 28, 29, 30, 31, 50, 51, 41, 42, 43, 44, 45, 46, 47, 48, 49] (by decide +kernel) (by decide +kernel)
set_option maxRecDepth 20000 in
theorem gX7_ask_X1_answer : GoodIn wsX7_ask (wsV RX7 269 RX1 yX1_answer wsX1_answer) := goodIn_app (goodIn_of _ (by decide +kernel)) ggX7_ask_X1_answer
theorem dX7_ask_0 : decode cX7_ask 0 = .ok (.aload_n 0, 1) := by decide +kernel
theorem dX7_ask_1 : decode cX7_ask 1 = .ok (.iload_n 1, 1) := by decide +kernel
theorem dX7_ask_2 : decode cX7_ask 2 = .ok (.invokevirtual 161, 3) := by decide +kernel
theorem dX7_ask_5 : decode cX7_ask 5 = .ok (.ifCond .eq 12, 3) := by decide +kernel
theorem dX7_ask_8 : decode cX7_ask 8 = .ok (.iload_n 2, 1) := by decide +kernel
theorem dX7_ask_9 : decode cX7_ask 9 = .ok (.iconst 0, 1) := by decide +kernel
theorem dX7_ask_10 : decode cX7_ask 10 = .ok (.iconst 1, 1) := by decide +kernel
theorem dX7_ask_11 : decode cX7_ask 11 = .ok (.invokestatic 66, 3) := by decide +kernel
theorem dX7_ask_14 : decode cX7_ask 14 = .ok (.ifCond .ne 6, 3) := by decide +kernel
theorem dX7_ask_17 : decode cX7_ask 17 = .ok (.ldc 70, 2) := by decide +kernel
theorem dX7_ask_19 : decode cX7_ask 19 = .ok (.ireturn, 1) := by decide +kernel
theorem dX7_ask_20 : decode cX7_ask 20 = .ok (.aload_n 0, 1) := by decide +kernel
theorem dX7_ask_21 : decode cX7_ask 21 = .ok (.getfield 50, 3) := by decide +kernel
theorem dX7_ask_24 : decode cX7_ask 24 = .ok (.aload_n 0, 1) := by decide +kernel
theorem dX7_ask_25 : decode cX7_ask 25 = .ok (.getfield 25, 3) := by decide +kernel
theorem dX7_ask_28 : decode cX7_ask 28 = .ok (.iload_n 1, 1) := by decide +kernel
theorem dX7_ask_29 : decode cX7_ask 29 = .ok (.iload_n 2, 1) := by decide +kernel
theorem dX7_ask_30 : decode cX7_ask 30 = .ok (.ifCond .ne 19, 3) := by decide +kernel
theorem dX7_ask_33 : decode cX7_ask 33 = .ok (.getstatic 263, 3) := by decide +kernel
theorem dX7_ask_36 : decode cX7_ask 36 = .ok (.aload_n 0, 1) := by decide +kernel
theorem dX7_ask_37 : decode cX7_ask 37 = .ok (.getfield 25, 3) := by decide +kernel
theorem dX7_ask_40 : decode cX7_ask 40 = .ok (.getfield 257, 3) := by decide +kernel
theorem dX7_ask_43 : decode cX7_ask 43 = .ok (.iload_n 1, 1) := by decide +kernel
theorem dX7_ask_44 : decode cX7_ask 44 = .ok (.iaload, 1) := by decide +kernel
theorem dX7_ask_45 : decode cX7_ask 45 = .ok (.iaload, 1) := by decide +kernel
theorem dX7_ask_46 : decode cX7_ask 46 = .ok (.goto 16, 3) := by decide +kernel
theorem dX7_ask_49 : decode cX7_ask 49 = .ok (.getstatic 266, 3) := by decide +kernel
theorem dX7_ask_52 : decode cX7_ask 52 = .ok (.aload_n 0, 1) := by decide +kernel
theorem dX7_ask_53 : decode cX7_ask 53 = .ok (.getfield 25, 3) := by decide +kernel
theorem dX7_ask_56 : decode cX7_ask 56 = .ok (.getfield 257, 3) := by decide +kernel
theorem dX7_ask_59 : decode cX7_ask 59 = .ok (.iload_n 1, 1) := by decide +kernel
theorem dX7_ask_60 : decode cX7_ask 60 = .ok (.iaload, 1) := by decide +kernel
theorem dX7_ask_61 : decode cX7_ask 61 = .ok (.iaload, 1) := by decide +kernel
theorem dX7_ask_62 : decode cX7_ask 62 = .ok (.invokevirtual 269, 3) := by decide +kernel
theorem dX7_ask_65 : decode cX7_ask 65 = .ok (.ireturn, 1) := by decide +kernel
set_option maxRecDepth 20000 in
theorem ggX7_trace_X7_within : GoodIn wsX7_trace wsX7_within := goodIn_r _ [8] (by decide +kernel) (by decide +kernel)
set_option maxRecDepth 20000 in
theorem gX7_trace_X7_within : GoodIn wsX7_trace (va_wsS RX7 66 yX7_within wsX7_within) := goodIn_app (goodIn_of _ (by decide +kernel)) ggX7_trace_X7_within
theorem dX7_trace_0 : decode cX7_trace 0 = .ok (.iload_n 1, 1) := by decide +kernel
theorem dX7_trace_1 : decode cX7_trace 1 = .ok (.iconst 0, 1) := by decide +kernel
theorem dX7_trace_2 : decode cX7_trace 2 = .ok (.aload_n 0, 1) := by decide +kernel
theorem dX7_trace_3 : decode cX7_trace 3 = .ok (.getfield 50, 3) := by decide +kernel
theorem dX7_trace_6 : decode cX7_trace 6 = .ok (.getfield 272, 3) := by decide +kernel
theorem dX7_trace_9 : decode cX7_trace 9 = .ok (.iconst 1, 1) := by decide +kernel
theorem dX7_trace_10 : decode cX7_trace 10 = .ok (.isub, 1) := by decide +kernel
theorem dX7_trace_11 : decode cX7_trace 11 = .ok (.invokestatic 66, 3) := by decide +kernel
theorem dX7_trace_14 : decode cX7_trace 14 = .ok (.ifCond .eq 15, 3) := by decide +kernel
theorem dX7_trace_17 : decode cX7_trace 17 = .ok (.aload_n 0, 1) := by decide +kernel
theorem dX7_trace_18 : decode cX7_trace 18 = .ok (.getfield 50, 3) := by decide +kernel
theorem dX7_trace_21 : decode cX7_trace 21 = .ok (.getfield 275, 3) := by decide +kernel
theorem dX7_trace_24 : decode cX7_trace 24 = .ok (.iload_n 1, 1) := by decide +kernel
theorem dX7_trace_25 : decode cX7_trace 25 = .ok (.iaload, 1) := by decide +kernel
theorem dX7_trace_26 : decode cX7_trace 26 = .ok (.goto 5, 3) := by decide +kernel
theorem dX7_trace_29 : decode cX7_trace 29 = .ok (.ldc 179, 2) := by decide +kernel
theorem dX7_trace_31 : decode cX7_trace 31 = .ok (.ireturn, 1) := by decide +kernel
set_option maxRecDepth 20000 in
theorem ggX7_count_X7_rowsThere : GoodIn wsX7_count wsX7_rowsThere := goodIn_r _ [16, 17, 18, 26, 27, 28, 29, 30, 31, 32, 33, 34, 55, 56, 57, 58] (by decide +kernel) (by decide +kernel)
set_option maxRecDepth 20000 in
theorem gX7_count_X7_rowsThere : GoodIn wsX7_count (wsV RX7 278 RX7 yX7_rowsThere wsX7_rowsThere) := goodIn_app (goodIn_of _ (by decide +kernel)) ggX7_count_X7_rowsThere
set_option maxRecDepth 20000 in
theorem ggX7_count_X3_toysAt : GoodIn wsX7_count wsX3_toysAt := goodIn_r _ [23, 24, 25, 35, 36, 37, 38, 39, 40, 41, 42, 43] (by decide +kernel) (by decide +kernel)
set_option maxRecDepth 20000 in
theorem gX7_count_X3_toysAt : GoodIn wsX7_count (wsV RX7 208 RX3 yX3_toysAt wsX3_toysAt) := goodIn_app (goodIn_of _ (by decide +kernel)) ggX7_count_X3_toysAt
theorem dX7_count_0 : decode cX7_count 0 = .ok (.iload_n 1, 1) := by decide +kernel
theorem dX7_count_1 : decode cX7_count 1 = .ok (.tableswitch 135 0 9 #[55, 60, 68, 76, 84, 92, 100, 109, 119, 127], 55) := by decide +kernel
theorem dX7_count_56 : decode cX7_count 56 = .ok (.aload_n 0, 1) := by decide +kernel
theorem dX7_count_57 : decode cX7_count 57 = .ok (.invokevirtual 278, 3) := by decide +kernel
theorem dX7_count_60 : decode cX7_count 60 = .ok (.ireturn, 1) := by decide +kernel
theorem dX7_count_61 : decode cX7_count 61 = .ok (.aload_n 0, 1) := by decide +kernel
theorem dX7_count_62 : decode cX7_count 62 = .ok (.getfield 25, 3) := by decide +kernel
theorem dX7_count_65 : decode cX7_count 65 = .ok (.getfield 137, 3) := by decide +kernel
theorem dX7_count_68 : decode cX7_count 68 = .ok (.ireturn, 1) := by decide +kernel
theorem dX7_count_69 : decode cX7_count 69 = .ok (.aload_n 0, 1) := by decide +kernel
theorem dX7_count_70 : decode cX7_count 70 = .ok (.getfield 25, 3) := by decide +kernel
theorem dX7_count_73 : decode cX7_count 73 = .ok (.getfield 147, 3) := by decide +kernel
theorem dX7_count_76 : decode cX7_count 76 = .ok (.ireturn, 1) := by decide +kernel
theorem dX7_count_77 : decode cX7_count 77 = .ok (.aload_n 0, 1) := by decide +kernel
theorem dX7_count_78 : decode cX7_count 78 = .ok (.getfield 25, 3) := by decide +kernel
theorem dX7_count_81 : decode cX7_count 81 = .ok (.getfield 180, 3) := by decide +kernel
theorem dX7_count_84 : decode cX7_count 84 = .ok (.ireturn, 1) := by decide +kernel
theorem dX7_count_85 : decode cX7_count 85 = .ok (.aload_n 0, 1) := by decide +kernel
theorem dX7_count_86 : decode cX7_count 86 = .ok (.getfield 25, 3) := by decide +kernel
theorem dX7_count_89 : decode cX7_count 89 = .ok (.getfield 183, 3) := by decide +kernel
theorem dX7_count_92 : decode cX7_count 92 = .ok (.ireturn, 1) := by decide +kernel
theorem dX7_count_93 : decode cX7_count 93 = .ok (.aload_n 0, 1) := by decide +kernel
theorem dX7_count_94 : decode cX7_count 94 = .ok (.getfield 25, 3) := by decide +kernel
theorem dX7_count_97 : decode cX7_count 97 = .ok (.getfield 282, 3) := by decide +kernel
theorem dX7_count_100 : decode cX7_count 100 = .ok (.ireturn, 1) := by decide +kernel
theorem dX7_count_101 : decode cX7_count 101 = .ok (.aload_n 0, 1) := by decide +kernel
theorem dX7_count_102 : decode cX7_count 102 = .ok (.getfield 25, 3) := by decide +kernel
theorem dX7_count_105 : decode cX7_count 105 = .ok (.iconst 0, 1) := by decide +kernel
theorem dX7_count_106 : decode cX7_count 106 = .ok (.invokevirtual 208, 3) := by decide +kernel
theorem dX7_count_109 : decode cX7_count 109 = .ok (.ireturn, 1) := by decide +kernel
theorem dX7_count_110 : decode cX7_count 110 = .ok (.aload_n 0, 1) := by decide +kernel
theorem dX7_count_111 : decode cX7_count 111 = .ok (.getfield 25, 3) := by decide +kernel
theorem dX7_count_114 : decode cX7_count 114 = .ok (.bipush 9, 2) := by decide +kernel
theorem dX7_count_116 : decode cX7_count 116 = .ok (.invokevirtual 208, 3) := by decide +kernel
theorem dX7_count_119 : decode cX7_count 119 = .ok (.ireturn, 1) := by decide +kernel
theorem dX7_count_120 : decode cX7_count 120 = .ok (.aload_n 0, 1) := by decide +kernel
theorem dX7_count_121 : decode cX7_count 121 = .ok (.getfield 32, 3) := by decide +kernel
theorem dX7_count_124 : decode cX7_count 124 = .ok (.getfield 186, 3) := by decide +kernel
theorem dX7_count_127 : decode cX7_count 127 = .ok (.ireturn, 1) := by decide +kernel
theorem dX7_count_128 : decode cX7_count 128 = .ok (.aload_n 0, 1) := by decide +kernel
theorem dX7_count_129 : decode cX7_count 129 = .ok (.getfield 18, 3) := by decide +kernel
theorem dX7_count_132 : decode cX7_count 132 = .ok (.getfield 109, 3) := by decide +kernel
theorem dX7_count_135 : decode cX7_count 135 = .ok (.ireturn, 1) := by decide +kernel
theorem dX7_count_136 : decode cX7_count 136 = .ok (.ldc 70, 2) := by decide +kernel
theorem dX7_count_138 : decode cX7_count 138 = .ok (.ireturn, 1) := by decide +kernel
theorem dX7_status_0 : decode cX7_status 0 = .ok (.aload_n 0, 1) := by decide +kernel
theorem dX7_status_1 : decode cX7_status 1 = .ok (.getfield 58, 3) := by decide +kernel
theorem dX7_status_4 : decode cX7_status 4 = .ok (.ireturn, 1) := by decide +kernel
theorem dX7_noCase_0 : decode cX7_noCase 0 = .ok (.aload_n 0, 1) := by decide +kernel
theorem dX7_noCase_1 : decode cX7_noCase 1 = .ok (.getfield 25, 3) := by decide +kernel
theorem dX7_noCase_4 : decode cX7_noCase 4 = .ok (.getfield 137, 3) := by decide +kernel
theorem dX7_noCase_7 : decode cX7_noCase 7 = .ok (.ifCond .ne 7, 3) := by decide +kernel
theorem dX7_noCase_10 : decode cX7_noCase 10 = .ok (.iconst 1, 1) := by decide +kernel
theorem dX7_noCase_11 : decode cX7_noCase 11 = .ok (.goto 4, 3) := by decide +kernel
theorem dX7_noCase_14 : decode cX7_noCase 14 = .ok (.iconst 0, 1) := by decide +kernel
theorem dX7_noCase_15 : decode cX7_noCase 15 = .ok (.ireturn, 1) := by decide +kernel
set_option maxRecDepth 20000 in
theorem ggX7_isToy_X7_within : GoodIn wsX7_isToy wsX7_within := goodIn_r _ [6] (by decide +kernel) (by decide +kernel)
set_option maxRecDepth 20000 in
theorem gX7_isToy_X7_within : GoodIn wsX7_isToy (va_wsS RX7 66 yX7_within wsX7_within) := goodIn_app (goodIn_of _ (by decide +kernel)) ggX7_isToy_X7_within
theorem dX7_isToy_0 : decode cX7_isToy 0 = .ok (.iload_n 1, 1) := by decide +kernel
theorem dX7_isToy_1 : decode cX7_isToy 1 = .ok (.iconst 0, 1) := by decide +kernel
theorem dX7_isToy_2 : decode cX7_isToy 2 = .ok (.aload_n 0, 1) := by decide +kernel
theorem dX7_isToy_3 : decode cX7_isToy 3 = .ok (.getfield 25, 3) := by decide +kernel
theorem dX7_isToy_6 : decode cX7_isToy 6 = .ok (.getfield 137, 3) := by decide +kernel
theorem dX7_isToy_9 : decode cX7_isToy 9 = .ok (.iconst 1, 1) := by decide +kernel
theorem dX7_isToy_10 : decode cX7_isToy 10 = .ok (.isub, 1) := by decide +kernel
theorem dX7_isToy_11 : decode cX7_isToy 11 = .ok (.invokestatic 66, 3) := by decide +kernel
theorem dX7_isToy_14 : decode cX7_isToy 14 = .ok (.ireturn, 1) := by decide +kernel
theorem dX7_rowsThere_0 : decode cX7_rowsThere 0 = .ok (.iconst 0, 1) := by decide +kernel
theorem dX7_rowsThere_1 : decode cX7_rowsThere 1 = .ok (.istore_n 1, 1) := by decide +kernel
theorem dX7_rowsThere_2 : decode cX7_rowsThere 2 = .ok (.iconst 0, 1) := by decide +kernel
theorem dX7_rowsThere_3 : decode cX7_rowsThere 3 = .ok (.istore_n 2, 1) := by decide +kernel
theorem dX7_rowsThere_4 : decode cX7_rowsThere 4 = .ok (.iload_n 2, 1) := by decide +kernel
theorem dX7_rowsThere_5 : decode cX7_rowsThere 5 = .ok (.bipush 8, 2) := by decide +kernel
theorem dX7_rowsThere_7 : decode cX7_rowsThere 7 = .ok (.if_icmp .ge 24, 3) := by decide +kernel
theorem dX7_rowsThere_10 : decode cX7_rowsThere 10 = .ok (.aload_n 0, 1) := by decide +kernel
theorem dX7_rowsThere_11 : decode cX7_rowsThere 11 = .ok (.getfield 11, 3) := by decide +kernel
theorem dX7_rowsThere_14 : decode cX7_rowsThere 14 = .ok (.iload_n 2, 1) := by decide +kernel
theorem dX7_rowsThere_15 : decode cX7_rowsThere 15 = .ok (.aaload, 1) := by decide +kernel
theorem dX7_rowsThere_16 : decode cX7_rowsThere 16 = .ok (.getfield 82, 3) := by decide +kernel
theorem dX7_rowsThere_19 : decode cX7_rowsThere 19 = .ok (.ifCond .ne 6, 3) := by decide +kernel
theorem dX7_rowsThere_22 : decode cX7_rowsThere 22 = .ok (.iinc 1 1, 3) := by decide +kernel
theorem dX7_rowsThere_25 : decode cX7_rowsThere 25 = .ok (.iinc 2 1, 3) := by decide +kernel
theorem dX7_rowsThere_28 : decode cX7_rowsThere 28 = .ok (.goto (-24), 3) := by decide +kernel
theorem dX7_rowsThere_31 : decode cX7_rowsThere 31 = .ok (.iload_n 1, 1) := by decide +kernel
theorem dX7_rowsThere_32 : decode cX7_rowsThere 32 = .ok (.ireturn, 1) := by decide +kernel
theorem dX7_found_0 : decode cX7_found 0 = .ok (.aload_n 0, 1) := by decide +kernel
theorem dX7_found_1 : decode cX7_found 1 = .ok (.iload_n 1, 1) := by decide +kernel
theorem dX7_found_2 : decode cX7_found 2 = .ok (.putfield 58, 3) := by decide +kernel
theorem dX7_found_5 : decode cX7_found 5 = .ok (.ldc_w 285, 3) := by decide +kernel
theorem dX7_found_8 : decode cX7_found 8 = .ok (.iload_n 1, 1) := by decide +kernel
theorem dX7_found_9 : decode cX7_found 9 = .ok (.isub, 1) := by decide +kernel
theorem dX7_found_10 : decode cX7_found 10 = .ok (.ireturn, 1) := by decide +kernel
theorem dX7_fine_0 : decode cX7_fine 0 = .ok (.aload_n 0, 1) := by decide +kernel
theorem dX7_fine_1 : decode cX7_fine 1 = .ok (.iconst 0, 1) := by decide +kernel
theorem dX7_fine_2 : decode cX7_fine 2 = .ok (.putfield 58, 3) := by decide +kernel
theorem dX7_fine_5 : decode cX7_fine 5 = .ok (.iload_n 1, 1) := by decide +kernel
theorem dX7_fine_6 : decode cX7_fine 6 = .ok (.ireturn, 1) := by decide +kernel
theorem dX7_within_0 : decode cX7_within 0 = .ok (.iload_n 0, 1) := by decide +kernel
theorem dX7_within_1 : decode cX7_within 1 = .ok (.iload_n 1, 1) := by decide +kernel
theorem dX7_within_2 : decode cX7_within 2 = .ok (.if_icmp .lt 12, 3) := by decide +kernel
theorem dX7_within_5 : decode cX7_within 5 = .ok (.iload_n 0, 1) := by decide +kernel
theorem dX7_within_6 : decode cX7_within 6 = .ok (.iload_n 2, 1) := by decide +kernel
theorem dX7_within_7 : decode cX7_within 7 = .ok (.if_icmp .gt 7, 3) := by decide +kernel
theorem dX7_within_10 : decode cX7_within 10 = .ok (.iconst 1, 1) := by decide +kernel
theorem dX7_within_11 : decode cX7_within 11 = .ok (.goto 4, 3) := by decide +kernel
theorem dX7_within_14 : decode cX7_within 14 = .ok (.iconst 0, 1) := by decide +kernel
theorem dX7_within_15 : decode cX7_within 15 = .ok (.ireturn, 1) := by decide +kernel
set_option maxRecDepth 20000 in
theorem ggX7_isRow_X7_within : GoodIn wsX7_isRow wsX7_within := goodIn_r _ [4] (by decide +kernel) (by decide +kernel)
set_option maxRecDepth 20000 in
theorem gX7_isRow_X7_within : GoodIn wsX7_isRow (va_wsS RX7 66 yX7_within wsX7_within) := goodIn_app (goodIn_of _ (by decide +kernel)) ggX7_isRow_X7_within
theorem dX7_isRow_0 : decode cX7_isRow 0 = .ok (.iload_n 0, 1) := by decide +kernel
theorem dX7_isRow_1 : decode cX7_isRow 1 = .ok (.iconst 0, 1) := by decide +kernel
theorem dX7_isRow_2 : decode cX7_isRow 2 = .ok (.bipush 7, 2) := by decide +kernel
theorem dX7_isRow_4 : decode cX7_isRow 4 = .ok (.invokestatic 66, 3) := by decide +kernel
theorem dX7_isRow_7 : decode cX7_isRow 7 = .ok (.ireturn, 1) := by decide +kernel
set_option maxRecDepth 20000 in
theorem ggX7_isColumn_X7_within : GoodIn wsX7_isColumn wsX7_within := goodIn_r _ [4] (by decide +kernel) (by decide +kernel)
set_option maxRecDepth 20000 in
theorem gX7_isColumn_X7_within : GoodIn wsX7_isColumn (va_wsS RX7 66 yX7_within wsX7_within) := goodIn_app (goodIn_of _ (by decide +kernel)) ggX7_isColumn_X7_within
theorem dX7_isColumn_0 : decode cX7_isColumn 0 = .ok (.iload_n 0, 1) := by decide +kernel
theorem dX7_isColumn_1 : decode cX7_isColumn 1 = .ok (.iconst 1, 1) := by decide +kernel
theorem dX7_isColumn_2 : decode cX7_isColumn 2 = .ok (.iconst 5, 1) := by decide +kernel
theorem dX7_isColumn_3 : decode cX7_isColumn 3 = .ok (.invokestatic 66, 3) := by decide +kernel
theorem dX7_isColumn_6 : decode cX7_isColumn 6 = .ok (.ireturn, 1) := by decide +kernel
theorem dX7_isOfKind_0 : decode cX7_isOfKind 0 = .ok (.iload_n 0, 1) := by decide +kernel
theorem dX7_isOfKind_1 : decode cX7_isOfKind 1 = .ok (.istore_n 2, 1) := by decide +kernel
theorem dX7_isOfKind_2 : decode cX7_isOfKind 2 = .ok (.iconst 0, 1) := by decide +kernel
theorem dX7_isOfKind_3 : decode cX7_isOfKind 3 = .ok (.istore_n 3, 1) := by decide +kernel
theorem dX7_isOfKind_4 : decode cX7_isOfKind 4 = .ok (.iload_n 3, 1) := by decide +kernel
theorem dX7_isOfKind_5 : decode cX7_isOfKind 5 = .ok (.getstatic 286, 3) := by decide +kernel
theorem dX7_isOfKind_8 : decode cX7_isOfKind 8 = .ok (.arraylength, 1) := by decide +kernel
theorem dX7_isOfKind_9 : decode cX7_isOfKind 9 = .ok (.if_icmp .ge 24, 3) := by decide +kernel
theorem dX7_isOfKind_12 : decode cX7_isOfKind 12 = .ok (.iload_n 2, 1) := by decide +kernel
theorem dX7_isOfKind_13 : decode cX7_isOfKind 13 = .ok (.ifCond .le 20, 3) := by decide +kernel
theorem dX7_isOfKind_16 : decode cX7_isOfKind 16 = .ok (.iload_n 2, 1) := by decide +kernel
theorem dX7_isOfKind_17 : decode cX7_isOfKind 17 = .ok (.iload_n 1, 1) := by decide +kernel
theorem dX7_isOfKind_18 : decode cX7_isOfKind 18 = .ok (.if_icmp .eq 15, 3) := by decide +kernel
theorem dX7_isOfKind_21 : decode cX7_isOfKind 21 = .ok (.getstatic 286, 3) := by decide +kernel
theorem dX7_isOfKind_24 : decode cX7_isOfKind 24 = .ok (.iload_n 2, 1) := by decide +kernel
theorem dX7_isOfKind_25 : decode cX7_isOfKind 25 = .ok (.iaload, 1) := by decide +kernel
theorem dX7_isOfKind_26 : decode cX7_isOfKind 26 = .ok (.istore_n 2, 1) := by decide +kernel
theorem dX7_isOfKind_27 : decode cX7_isOfKind 27 = .ok (.iinc 3 1, 3) := by decide +kernel
theorem dX7_isOfKind_30 : decode cX7_isOfKind 30 = .ok (.goto (-26), 3) := by decide +kernel
theorem dX7_isOfKind_33 : decode cX7_isOfKind 33 = .ok (.iload_n 2, 1) := by decide +kernel
theorem dX7_isOfKind_34 : decode cX7_isOfKind 34 = .ok (.iload_n 1, 1) := by decide +kernel
theorem dX7_isOfKind_35 : decode cX7_isOfKind 35 = .ok (.if_icmp .ne 7, 3) := by decide +kernel
theorem dX7_isOfKind_38 : decode cX7_isOfKind 38 = .ok (.iconst 1, 1) := by decide +kernel
theorem dX7_isOfKind_39 : decode cX7_isOfKind 39 = .ok (.goto 4, 3) := by decide +kernel
theorem dX7_isOfKind_42 : decode cX7_isOfKind 42 = .ok (.iconst 0, 1) := by decide +kernel
theorem dX7_isOfKind_43 : decode cX7_isOfKind 43 = .ok (.ireturn, 1) := by decide +kernel
theorem dX7_power_0 : decode cX7_power 0 = .ok (.iconst 1, 1) := by decide +kernel
theorem dX7_power_1 : decode cX7_power 1 = .ok (.istore_n 2, 1) := by decide +kernel
theorem dX7_power_2 : decode cX7_power 2 = .ok (.iconst 0, 1) := by decide +kernel
theorem dX7_power_3 : decode cX7_power 3 = .ok (.istore_n 3, 1) := by decide +kernel
theorem dX7_power_4 : decode cX7_power 4 = .ok (.iload_n 3, 1) := by decide +kernel
theorem dX7_power_5 : decode cX7_power 5 = .ok (.iload_n 1, 1) := by decide +kernel
theorem dX7_power_6 : decode cX7_power 6 = .ok (.if_icmp .ge 13, 3) := by decide +kernel
theorem dX7_power_9 : decode cX7_power 9 = .ok (.iload_n 2, 1) := by decide +kernel
theorem dX7_power_10 : decode cX7_power 10 = .ok (.iload_n 0, 1) := by decide +kernel
theorem dX7_power_11 : decode cX7_power 11 = .ok (.imul, 1) := by decide +kernel
theorem dX7_power_12 : decode cX7_power 12 = .ok (.istore_n 2, 1) := by decide +kernel
theorem dX7_power_13 : decode cX7_power 13 = .ok (.iinc 3 1, 3) := by decide +kernel
theorem dX7_power_16 : decode cX7_power 16 = .ok (.goto (-12), 3) := by decide +kernel
theorem dX7_power_19 : decode cX7_power 19 = .ok (.iload_n 2, 1) := by decide +kernel
theorem dX7_power_20 : decode cX7_power 20 = .ok (.ireturn, 1) := by decide +kernel
theorem dX7_commonDivisor_0 : decode cX7_commonDivisor 0 = .ok (.iload_n 0, 1) := by decide +kernel
theorem dX7_commonDivisor_1 : decode cX7_commonDivisor 1 = .ok (.istore_n 2, 1) := by decide +kernel
theorem dX7_commonDivisor_2 : decode cX7_commonDivisor 2 = .ok (.iload_n 1, 1) := by decide +kernel
theorem dX7_commonDivisor_3 : decode cX7_commonDivisor 3 = .ok (.istore_n 3, 1) := by decide +kernel
theorem dX7_commonDivisor_4 : decode cX7_commonDivisor 4 = .ok (.iconst 0, 1) := by decide +kernel
theorem dX7_commonDivisor_5 : decode cX7_commonDivisor 5 = .ok (.istore 4, 2) := by decide +kernel
theorem dX7_commonDivisor_7 : decode cX7_commonDivisor 7 = .ok (.iload 4, 2) := by decide +kernel
theorem dX7_commonDivisor_9 : decode cX7_commonDivisor 9 = .ok (.bipush 100, 2) := by decide +kernel
theorem dX7_commonDivisor_11 : decode cX7_commonDivisor 11 = .ok (.if_icmp .ge 23, 3) := by decide +kernel
theorem dX7_commonDivisor_14 : decode cX7_commonDivisor 14 = .ok (.iload_n 2, 1) := by decide +kernel
theorem dX7_commonDivisor_15 : decode cX7_commonDivisor 15 = .ok (.ifCond .eq 19, 3) := by decide +kernel
theorem dX7_commonDivisor_18 : decode cX7_commonDivisor 18 = .ok (.iload_n 3, 1) := by decide +kernel
theorem dX7_commonDivisor_19 : decode cX7_commonDivisor 19 = .ok (.iload_n 2, 1) := by decide +kernel
theorem dX7_commonDivisor_20 : decode cX7_commonDivisor 20 = .ok (.irem, 1) := by decide +kernel
theorem dX7_commonDivisor_21 : decode cX7_commonDivisor 21 = .ok (.istore 5, 2) := by decide +kernel
theorem dX7_commonDivisor_23 : decode cX7_commonDivisor 23 = .ok (.iload_n 2, 1) := by decide +kernel
theorem dX7_commonDivisor_24 : decode cX7_commonDivisor 24 = .ok (.istore_n 3, 1) := by decide +kernel
theorem dX7_commonDivisor_25 : decode cX7_commonDivisor 25 = .ok (.iload 5, 2) := by decide +kernel
theorem dX7_commonDivisor_27 : decode cX7_commonDivisor 27 = .ok (.istore_n 2, 1) := by decide +kernel
theorem dX7_commonDivisor_28 : decode cX7_commonDivisor 28 = .ok (.iinc 4 1, 3) := by decide +kernel
theorem dX7_commonDivisor_31 : decode cX7_commonDivisor 31 = .ok (.goto (-24), 3) := by decide +kernel
theorem dX7_commonDivisor_34 : decode cX7_commonDivisor 34 = .ok (.iload_n 3, 1) := by decide +kernel
theorem dX7_commonDivisor_35 : decode cX7_commonDivisor 35 = .ok (.ifCond .ne 7, 3) := by decide +kernel
theorem dX7_commonDivisor_38 : decode cX7_commonDivisor 38 = .ok (.iconst 1, 1) := by decide +kernel
theorem dX7_commonDivisor_39 : decode cX7_commonDivisor 39 = .ok (.goto 4, 3) := by decide +kernel
theorem dX7_commonDivisor_42 : decode cX7_commonDivisor 42 = .ok (.iload_n 3, 1) := by decide +kernel
theorem dX7_commonDivisor_43 : decode cX7_commonDivisor 43 = .ok (.ireturn, 1) := by decide +kernel
theorem dX8_init_0 : decode cX8_init 0 = .ok (.aload_n 0, 1) := by decide +kernel
theorem dX8_init_1 : decode cX8_init 1 = .ok (.invokespecial 1, 3) := by decide +kernel
theorem dX8_init_4 : decode cX8_init 4 = .ok (.aload_n 0, 1) := by decide +kernel
theorem dX8_init_5 : decode cX8_init 5 = .ok (.bipush 33, 2) := by decide +kernel
theorem dX8_init_7 : decode cX8_init 7 = .ok (.newarray .int, 2) := by decide +kernel
theorem dX8_init_9 : decode cX8_init 9 = .ok (.putfield 7, 3) := by decide +kernel
theorem dX8_init_12 : decode cX8_init 12 = .ok (.aload_n 0, 1) := by decide +kernel
theorem dX8_init_13 : decode cX8_init 13 = .ok (.bipush 66, 2) := by decide +kernel
theorem dX8_init_15 : decode cX8_init 15 = .ok (.newarray .int, 2) := by decide +kernel
theorem dX8_init_17 : decode cX8_init 17 = .ok (.putfield 13, 3) := by decide +kernel
theorem dX8_init_20 : decode cX8_init 20 = .ok (.aload_n 0, 1) := by decide +kernel
theorem dX8_init_21 : decode cX8_init 21 = .ok (.iconst 2, 1) := by decide +kernel
theorem dX8_init_22 : decode cX8_init 22 = .ok (.newarray .boolean, 2) := by decide +kernel
theorem dX8_init_24 : decode cX8_init 24 = .ok (.putfield 16, 3) := by decide +kernel
theorem dX8_init_27 : decode cX8_init 27 = .ok (.aload_n 0, 1) := by decide +kernel
theorem dX8_init_28 : decode cX8_init 28 = .ok (.sipush 792, 3) := by decide +kernel
theorem dX8_init_31 : decode cX8_init 31 = .ok (.newarray .int, 2) := by decide +kernel
theorem dX8_init_33 : decode cX8_init 33 = .ok (.putfield 20, 3) := by decide +kernel
theorem dX8_init_36 : decode cX8_init 36 = .ok (.aload_n 0, 1) := by decide +kernel
theorem dX8_init_37 : decode cX8_init 37 = .ok (.bipush 8, 2) := by decide +kernel
theorem dX8_init_39 : decode cX8_init 39 = .ok (.newarray .int, 2) := by decide +kernel
theorem dX8_init_41 : decode cX8_init 41 = .ok (.putfield 23, 3) := by decide +kernel
theorem dX8_init_44 : decode cX8_init 44 = .ok (.aload_n 0, 1) := by decide +kernel
theorem dX8_init_45 : decode cX8_init 45 = .ok (.bipush 8, 2) := by decide +kernel
theorem dX8_init_47 : decode cX8_init 47 = .ok (.newarray .int, 2) := by decide +kernel
theorem dX8_init_49 : decode cX8_init 49 = .ok (.putfield 26, 3) := by decide +kernel
theorem dX8_init_52 : decode cX8_init 52 = .ok (.aload_n 0, 1) := by decide +kernel
theorem dX8_init_53 : decode cX8_init 53 = .ok (.bipush 8, 2) := by decide +kernel
theorem dX8_init_55 : decode cX8_init 55 = .ok (.newarray .boolean, 2) := by decide +kernel
theorem dX8_init_57 : decode cX8_init 57 = .ok (.putfield 29, 3) := by decide +kernel
theorem dX8_init_60 : decode cX8_init 60 = .ok (.aload_n 0, 1) := by decide +kernel
theorem dX8_init_61 : decode cX8_init 61 = .ok (.sipush 320, 3) := by decide +kernel
theorem dX8_init_64 : decode cX8_init 64 = .ok (.newarray .int, 2) := by decide +kernel
theorem dX8_init_66 : decode cX8_init 66 = .ok (.putfield 32, 3) := by decide +kernel
theorem dX8_init_69 : decode cX8_init 69 = .ok (.aload_n 0, 1) := by decide +kernel
theorem dX8_init_70 : decode cX8_init 70 = .ok (.bipush 40, 2) := by decide +kernel
theorem dX8_init_72 : decode cX8_init 72 = .ok (.newarray .int, 2) := by decide +kernel
theorem dX8_init_74 : decode cX8_init 74 = .ok (.putfield 35, 3) := by decide +kernel
theorem dX8_init_77 : decode cX8_init 77 = .ok (.aload_n 0, 1) := by decide +kernel
theorem dX8_init_78 : decode cX8_init 78 = .ok (.bipush 70, 2) := by decide +kernel
theorem dX8_init_80 : decode cX8_init 80 = .ok (.newarray .int, 2) := by decide +kernel
theorem dX8_init_82 : decode cX8_init 82 = .ok (.putfield 38, 3) := by decide +kernel
theorem dX8_init_85 : decode cX8_init 85 = .ok (.aload_n 0, 1) := by decide +kernel
theorem dX8_init_86 : decode cX8_init 86 = .ok (.bipush 33, 2) := by decide +kernel
theorem dX8_init_88 : decode cX8_init 88 = .ok (.newarray .int, 2) := by decide +kernel
theorem dX8_init_90 : decode cX8_init 90 = .ok (.putfield 41, 3) := by decide +kernel
theorem dX8_init_93 : decode cX8_init 93 = .ok (.aload_n 0, 1) := by decide +kernel
theorem dX8_init_94 : decode cX8_init 94 = .ok (.bipush 33, 2) := by decide +kernel
theorem dX8_init_96 : decode cX8_init 96 = .ok (.newarray .int, 2) := by decide +kernel
theorem dX8_init_98 : decode cX8_init 98 = .ok (.putfield 44, 3) := by decide +kernel
theorem dX8_init_101 : decode cX8_init 101 = .ok (.aload_n 0, 1) := by decide +kernel
theorem dX8_init_102 : decode cX8_init 102 = .ok (.lconst 1, 1) := by decide +kernel
theorem dX8_init_103 : decode cX8_init 103 = .ok (.putfield 47, 3) := by decide +kernel
theorem dX8_init_106 : decode cX8_init 106 = .ok (.aload_n 0, 1) := by decide +kernel
theorem dX8_init_107 : decode cX8_init 107 = .ok (.bipush 16, 2) := by decide +kernel
theorem dX8_init_109 : decode cX8_init 109 = .ok (.newarray .int, 2) := by decide +kernel
theorem dX8_init_111 : decode cX8_init 111 = .ok (.putfield 51, 3) := by decide +kernel
theorem dX8_init_114 : decode cX8_init 114 = .ok (.return_, 1) := by decide +kernel
theorem dX8_in_0 : decode cX8_in 0 = .ok (.lload_n 0, 1) := by decide +kernel
theorem dX8_in_1 : decode cX8_in 1 = .ok (.lload_n 2, 1) := by decide +kernel
theorem dX8_in_2 : decode cX8_in 2 = .ok (.lcmp, 1) := by decide +kernel
theorem dX8_in_3 : decode cX8_in 3 = .ok (.ifCond .lt 14, 3) := by decide +kernel
theorem dX8_in_6 : decode cX8_in 6 = .ok (.lload_n 0, 1) := by decide +kernel
theorem dX8_in_7 : decode cX8_in 7 = .ok (.lload 4, 2) := by decide +kernel
theorem dX8_in_9 : decode cX8_in 9 = .ok (.lcmp, 1) := by decide +kernel
theorem dX8_in_10 : decode cX8_in 10 = .ok (.ifCond .gt 7, 3) := by decide +kernel
theorem dX8_in_13 : decode cX8_in 13 = .ok (.iconst 1, 1) := by decide +kernel
theorem dX8_in_14 : decode cX8_in 14 = .ok (.goto 4, 3) := by decide +kernel
theorem dX8_in_17 : decode cX8_in 17 = .ok (.iconst 0, 1) := by decide +kernel
theorem dX8_in_18 : decode cX8_in 18 = .ok (.ireturn, 1) := by decide +kernel
theorem dX8_has_0 : decode cX8_has 0 = .ok (.iload_n 0, 1) := by decide +kernel
theorem dX8_has_1 : decode cX8_has 1 = .ok (.iload_n 1, 1) := by decide +kernel
theorem dX8_has_2 : decode cX8_has 2 = .ok (.ishr, 1) := by decide +kernel
theorem dX8_has_3 : decode cX8_has 3 = .ok (.iconst 1, 1) := by decide +kernel
theorem dX8_has_4 : decode cX8_has 4 = .ok (.iand, 1) := by decide +kernel
theorem dX8_has_5 : decode cX8_has 5 = .ok (.iconst 1, 1) := by decide +kernel
theorem dX8_has_6 : decode cX8_has 6 = .ok (.if_icmp .ne 7, 3) := by decide +kernel
theorem dX8_has_9 : decode cX8_has 9 = .ok (.iconst 1, 1) := by decide +kernel
theorem dX8_has_10 : decode cX8_has 10 = .ok (.goto 4, 3) := by decide +kernel
theorem dX8_has_13 : decode cX8_has 13 = .ok (.iconst 0, 1) := by decide +kernel
theorem dX8_has_14 : decode cX8_has 14 = .ok (.ireturn, 1) := by decide +kernel
theorem dX8_found_0 : decode cX8_found 0 = .ok (.aload_n 0, 1) := by decide +kernel
theorem dX8_found_1 : decode cX8_found 1 = .ok (.iload_n 1, 1) := by decide +kernel
theorem dX8_found_2 : decode cX8_found 2 = .ok (.putfield 54, 3) := by decide +kernel
theorem dX8_found_5 : decode cX8_found 5 = .ok (.ldc 58, 2) := by decide +kernel
theorem dX8_found_7 : decode cX8_found 7 = .ok (.iload_n 1, 1) := by decide +kernel
theorem dX8_found_8 : decode cX8_found 8 = .ok (.isub, 1) := by decide +kernel
theorem dX8_found_9 : decode cX8_found 9 = .ok (.ireturn, 1) := by decide +kernel
theorem dX8_well_0 : decode cX8_well 0 = .ok (.aload_n 0, 1) := by decide +kernel
theorem dX8_well_1 : decode cX8_well 1 = .ok (.iconst 0, 1) := by decide +kernel
theorem dX8_well_2 : decode cX8_well 2 = .ok (.putfield 54, 3) := by decide +kernel
theorem dX8_well_5 : decode cX8_well 5 = .ok (.iload_n 1, 1) := by decide +kernel
theorem dX8_well_6 : decode cX8_well 6 = .ok (.ireturn, 1) := by decide +kernel
set_option maxRecDepth 20000 in
theorem ggX8_isRow_X8_in : GoodIn wsX8_isRow wsX8_in := goodIn_r _ [5] (by decide +kernel) (by decide +kernel)
set_option maxRecDepth 20000 in
theorem gX8_isRow_X8_in : GoodIn wsX8_isRow (va_wsS RX8 61 yX8_in wsX8_in) := goodIn_app (goodIn_of _ (by decide +kernel)) ggX8_isRow_X8_in
theorem dX8_isRow_0 : decode cX8_isRow 0 = .ok (.iload_n 0, 1) := by decide +kernel
theorem dX8_isRow_1 : decode cX8_isRow 1 = .ok (.i2l, 1) := by decide +kernel
theorem dX8_isRow_2 : decode cX8_isRow 2 = .ok (.lconst 0, 1) := by decide +kernel
theorem dX8_isRow_3 : decode cX8_isRow 3 = .ok (.ldc2_w 59, 3) := by decide +kernel
theorem dX8_isRow_6 : decode cX8_isRow 6 = .ok (.invokestatic 61, 3) := by decide +kernel
theorem dX8_isRow_9 : decode cX8_isRow 9 = .ok (.ireturn, 1) := by decide +kernel
set_option maxRecDepth 20000 in
theorem ggX8_row_X8_isRow : GoodIn wsX8_row wsX8_isRow := goodIn_r _ [10, 11, 12, 13, 9, 14] (by decide +kernel) (by decide +kernel)
set_option maxRecDepth 20000 in
theorem gX8_row_X8_isRow : GoodIn wsX8_row (va_wsS RX8 65 yX8_isRow wsX8_isRow) := goodIn_app (goodIn_of _ (by decide +kernel)) ggX8_row_X8_isRow
set_option maxRecDepth 20000 in
theorem ggX8_row_X8_in : GoodIn wsX8_row wsX8_in := goodIn_r _ [14] (by decide +kernel) (by decide +kernel)
set_option maxRecDepth 20000 in
theorem gX8_row_X8_in : GoodIn wsX8_row (va_wsS RX8 61 yX8_in wsX8_in) := goodIn_app (goodIn_of _ (by decide +kernel)) ggX8_row_X8_in
set_option maxRecDepth 20000 in
theorem ggX8_row_X8_found : GoodIn wsX8_row wsX8_found := goodIn_r _ [18, 19, 20, 25, 26, 27, 28, 29, 30, 31, 32, 33, 34, 35, 36, 37, 38, 39, 40, 41, 42, 43, 44, 45, 46, 47, 48] (by decide +kernel) (by decide +kernel)
set_option maxRecDepth 20000 in
theorem gX8_row_X8_found : GoodIn wsX8_row (wsV RX8 72 RX8 yX8_found wsX8_found) := goodIn_app (goodIn_of _ (by decide +kernel)) ggX8_row_X8_found
set_option maxRecDepth 20000 in
theorem ggX8_row_X8_well : GoodIn wsX8_row wsX8_well := goodIn_r _ [24, 19, 25, 26, 27, 28, 29, 30, 31, 32, 33, 34, 35, 36, 37, 38, 39, 40, 41, 42, 43, 44, 45, 46, 47, 48] (by decide +kernel) (by decide +kernel)
set_option maxRecDepth 20000 in
theorem gX8_row_X8_well : GoodIn wsX8_row (wsV RX8 76 RX8 yX8_well wsX8_well) := goodIn_app (goodIn_of _ (by decide +kernel)) ggX8_row_X8_well
theorem dX8_row_0 : decode cX8_row 0 = .ok (.iload_n 1, 1) := by decide +kernel
theorem dX8_row_1 : decode cX8_row 1 = .ok (.invokestatic 65, 3) := by decide +kernel
theorem dX8_row_4 : decode cX8_row 4 = .ok (.ifCond .eq 21, 3) := by decide +kernel
theorem dX8_row_7 : decode cX8_row 7 = .ok (.iload_n 2, 1) := by decide +kernel
theorem dX8_row_8 : decode cX8_row 8 = .ok (.i2l, 1) := by decide +kernel
theorem dX8_row_9 : decode cX8_row 9 = .ok (.lconst 0, 1) := by decide +kernel
theorem dX8_row_10 : decode cX8_row 10 = .ok (.ldc2_w 69, 3) := by decide +kernel
theorem dX8_row_13 : decode cX8_row 13 = .ok (.invokestatic 61, 3) := by decide +kernel
theorem dX8_row_16 : decode cX8_row 16 = .ok (.ifCond .eq 9, 3) := by decide +kernel
theorem dX8_row_19 : decode cX8_row 19 = .ok (.iload_n 3, 1) := by decide +kernel
theorem dX8_row_20 : decode cX8_row 20 = .ok (.bipush 40, 2) := by decide +kernel
theorem dX8_row_22 : decode cX8_row 22 = .ok (.if_icmp .le 6, 3) := by decide +kernel
theorem dX8_row_25 : decode cX8_row 25 = .ok (.ldc 71, 2) := by decide +kernel
theorem dX8_row_27 : decode cX8_row 27 = .ok (.ireturn, 1) := by decide +kernel
theorem dX8_row_28 : decode cX8_row 28 = .ok (.iload_n 3, 1) := by decide +kernel
theorem dX8_row_29 : decode cX8_row 29 = .ok (.ifCond .ge 9, 3) := by decide +kernel
theorem dX8_row_32 : decode cX8_row 32 = .ok (.aload_n 0, 1) := by decide +kernel
theorem dX8_row_33 : decode cX8_row 33 = .ok (.iconst 4, 1) := by decide +kernel
theorem dX8_row_34 : decode cX8_row 34 = .ok (.invokevirtual 72, 3) := by decide +kernel
theorem dX8_row_37 : decode cX8_row 37 = .ok (.ireturn, 1) := by decide +kernel
theorem dX8_row_38 : decode cX8_row 38 = .ok (.aload_n 0, 1) := by decide +kernel
theorem dX8_row_39 : decode cX8_row 39 = .ok (.getfield 29, 3) := by decide +kernel
theorem dX8_row_42 : decode cX8_row 42 = .ok (.iload_n 1, 1) := by decide +kernel
theorem dX8_row_43 : decode cX8_row 43 = .ok (.iconst 1, 1) := by decide +kernel
theorem dX8_row_44 : decode cX8_row 44 = .ok (.bastore, 1) := by decide +kernel
theorem dX8_row_45 : decode cX8_row 45 = .ok (.aload_n 0, 1) := by decide +kernel
theorem dX8_row_46 : decode cX8_row 46 = .ok (.getfield 23, 3) := by decide +kernel
theorem dX8_row_49 : decode cX8_row 49 = .ok (.iload_n 1, 1) := by decide +kernel
theorem dX8_row_50 : decode cX8_row 50 = .ok (.iload_n 2, 1) := by decide +kernel
theorem dX8_row_51 : decode cX8_row 51 = .ok (.iastore, 1) := by decide +kernel
theorem dX8_row_52 : decode cX8_row 52 = .ok (.aload_n 0, 1) := by decide +kernel
theorem dX8_row_53 : decode cX8_row 53 = .ok (.getfield 26, 3) := by decide +kernel
theorem dX8_row_56 : decode cX8_row 56 = .ok (.iload_n 1, 1) := by decide +kernel
theorem dX8_row_57 : decode cX8_row 57 = .ok (.iload_n 3, 1) := by decide +kernel
theorem dX8_row_58 : decode cX8_row 58 = .ok (.iastore, 1) := by decide +kernel
theorem dX8_row_59 : decode cX8_row 59 = .ok (.iconst 0, 1) := by decide +kernel
theorem dX8_row_60 : decode cX8_row 60 = .ok (.istore 4, 2) := by decide +kernel
theorem dX8_row_62 : decode cX8_row 62 = .ok (.iload 4, 2) := by decide +kernel
theorem dX8_row_64 : decode cX8_row 64 = .ok (.bipush 40, 2) := by decide +kernel
theorem dX8_row_66 : decode cX8_row 66 = .ok (.if_icmp .ge 22, 3) := by decide +kernel
theorem dX8_row_69 : decode cX8_row 69 = .ok (.aload_n 0, 1) := by decide +kernel
theorem dX8_row_70 : decode cX8_row 70 = .ok (.getfield 32, 3) := by decide +kernel
theorem dX8_row_73 : decode cX8_row 73 = .ok (.bipush 40, 2) := by decide +kernel
theorem dX8_row_75 : decode cX8_row 75 = .ok (.iload_n 1, 1) := by decide +kernel
theorem dX8_row_76 : decode cX8_row 76 = .ok (.imul, 1) := by decide +kernel
theorem dX8_row_77 : decode cX8_row 77 = .ok (.iload 4, 2) := by decide +kernel
theorem dX8_row_79 : decode cX8_row 79 = .ok (.iadd, 1) := by decide +kernel
theorem dX8_row_80 : decode cX8_row 80 = .ok (.iconst 0, 1) := by decide +kernel
theorem dX8_row_81 : decode cX8_row 81 = .ok (.iastore, 1) := by decide +kernel
theorem dX8_row_82 : decode cX8_row 82 = .ok (.iinc 4 1, 3) := by decide +kernel
theorem dX8_row_85 : decode cX8_row 85 = .ok (.goto (-23), 3) := by decide +kernel
theorem dX8_row_88 : decode cX8_row 88 = .ok (.aload_n 0, 1) := by decide +kernel
theorem dX8_row_89 : decode cX8_row 89 = .ok (.iload_n 3, 1) := by decide +kernel
theorem dX8_row_90 : decode cX8_row 90 = .ok (.invokevirtual 76, 3) := by decide +kernel
theorem dX8_row_93 : decode cX8_row 93 = .ok (.ireturn, 1) := by decide +kernel
set_option maxRecDepth 20000 in
theorem ggX8_set_X8_isRow : GoodIn wsX8_set wsX8_isRow := goodIn_r _ [9, 10, 11, 12, 8, 13] (by decide +kernel) (by decide +kernel)
set_option maxRecDepth 20000 in
theorem gX8_set_X8_isRow : GoodIn wsX8_set (va_wsS RX8 65 yX8_isRow wsX8_isRow) := goodIn_app (goodIn_of _ (by decide +kernel)) ggX8_set_X8_isRow
set_option maxRecDepth 20000 in
theorem ggX8_set_X8_found : GoodIn wsX8_set wsX8_found := goodIn_r _ [17, 18, 19, 24, 25, 26, 27, 28, 29, 30, 31, 32, 33, 34, 35, 36, 37, 38, 39, 40, 41, 42, 43, 44, 45, 46, 47] (by decide +kernel) (by decide +kernel)
set_option maxRecDepth 20000 in
theorem gX8_set_X8_found : GoodIn wsX8_set (wsV RX8 72 RX8 yX8_found wsX8_found) := goodIn_app (goodIn_of _ (by decide +kernel)) ggX8_set_X8_found
set_option maxRecDepth 20000 in
theorem ggX8_set_X8_in : GoodIn wsX8_set wsX8_in := goodIn_r _ [13] (by decide +kernel) (by decide +kernel)
set_option maxRecDepth 20000 in
theorem gX8_set_X8_in : GoodIn wsX8_set (va_wsS RX8 61 yX8_in wsX8_in) := goodIn_app (goodIn_of _ (by decide +kernel)) ggX8_set_X8_in
set_option maxRecDepth 20000 in
theorem ggX8_set_X8_well : GoodIn wsX8_set wsX8_well := goodIn_r _ [23, 18, 24, 25, 26, 27, 28, 29, 30, 31, 32, 33, 34, 35, 36, 37, 38, 39, 40, 41, 42, 43, 44, 45, 46, 47] (by decide +kernel) (by decide +kernel)
set_option maxRecDepth 20000 in
theorem gX8_set_X8_well : GoodIn wsX8_set (wsV RX8 76 RX8 yX8_well wsX8_well) := goodIn_app (goodIn_of _ (by decide +kernel)) ggX8_set_X8_well
theorem dX8_set_0 : decode cX8_set 0 = .ok (.iload_n 1, 1) := by decide +kernel
theorem dX8_set_1 : decode cX8_set 1 = .ok (.invokestatic 65, 3) := by decide +kernel
theorem dX8_set_4 : decode cX8_set 4 = .ok (.ifCond .ne 6, 3) := by decide +kernel
theorem dX8_set_7 : decode cX8_set 7 = .ok (.ldc 71, 2) := by decide +kernel
theorem dX8_set_9 : decode cX8_set 9 = .ok (.ireturn, 1) := by decide +kernel
theorem dX8_set_10 : decode cX8_set 10 = .ok (.aload_n 0, 1) := by decide +kernel
theorem dX8_set_11 : decode cX8_set 11 = .ok (.getfield 29, 3) := by decide +kernel
theorem dX8_set_14 : decode cX8_set 14 = .ok (.iload_n 1, 1) := by decide +kernel
theorem dX8_set_15 : decode cX8_set 15 = .ok (.baload, 1) := by decide +kernel
theorem dX8_set_16 : decode cX8_set 16 = .ok (.ifCond .ne 9, 3) := by decide +kernel
theorem dX8_set_19 : decode cX8_set 19 = .ok (.aload_n 0, 1) := by decide +kernel
theorem dX8_set_20 : decode cX8_set 20 = .ok (.iconst 1, 1) := by decide +kernel
theorem dX8_set_21 : decode cX8_set 21 = .ok (.invokevirtual 72, 3) := by decide +kernel
theorem dX8_set_24 : decode cX8_set 24 = .ok (.ireturn, 1) := by decide +kernel
theorem dX8_set_25 : decode cX8_set 25 = .ok (.iload_n 2, 1) := by decide +kernel
theorem dX8_set_26 : decode cX8_set 26 = .ok (.i2l, 1) := by decide +kernel
theorem dX8_set_27 : decode cX8_set 27 = .ok (.lconst 0, 1) := by decide +kernel
theorem dX8_set_28 : decode cX8_set 28 = .ok (.aload_n 0, 1) := by decide +kernel
theorem dX8_set_29 : decode cX8_set 29 = .ok (.getfield 26, 3) := by decide +kernel
theorem dX8_set_32 : decode cX8_set 32 = .ok (.iload_n 1, 1) := by decide +kernel
theorem dX8_set_33 : decode cX8_set 33 = .ok (.iaload, 1) := by decide +kernel
theorem dX8_set_34 : decode cX8_set 34 = .ok (.iconst 1, 1) := by decide +kernel
theorem dX8_set_35 : decode cX8_set 35 = .ok (.isub, 1) := by decide +kernel
theorem dX8_set_36 : decode cX8_set 36 = .ok (.i2l, 1) := by decide +kernel
theorem dX8_set_37 : decode cX8_set 37 = .ok (.invokestatic 61, 3) := by decide +kernel
theorem dX8_set_40 : decode cX8_set 40 = .ok (.ifCond .ne 9, 3) := by decide +kernel
theorem dX8_set_43 : decode cX8_set 43 = .ok (.aload_n 0, 1) := by decide +kernel
theorem dX8_set_44 : decode cX8_set 44 = .ok (.iconst 2, 1) := by decide +kernel
theorem dX8_set_45 : decode cX8_set 45 = .ok (.invokevirtual 72, 3) := by decide +kernel
theorem dX8_set_48 : decode cX8_set 48 = .ok (.ireturn, 1) := by decide +kernel
theorem dX8_set_49 : decode cX8_set 49 = .ok (.aload_n 0, 1) := by decide +kernel
theorem dX8_set_50 : decode cX8_set 50 = .ok (.getfield 23, 3) := by decide +kernel
theorem dX8_set_53 : decode cX8_set 53 = .ok (.iload_n 1, 1) := by decide +kernel
theorem dX8_set_54 : decode cX8_set 54 = .ok (.iaload, 1) := by decide +kernel
theorem dX8_set_55 : decode cX8_set 55 = .ok (.ifCond .ne 13, 3) := by decide +kernel
theorem dX8_set_58 : decode cX8_set 58 = .ok (.iload_n 3, 1) := by decide +kernel
theorem dX8_set_59 : decode cX8_set 59 = .ok (.bipush 24, 2) := by decide +kernel
theorem dX8_set_61 : decode cX8_set 61 = .ok (.ishl, 1) := by decide +kernel
theorem dX8_set_62 : decode cX8_set 62 = .ok (.bipush 24, 2) := by decide +kernel
theorem dX8_set_64 : decode cX8_set 64 = .ok (.ishr, 1) := by decide +kernel
theorem dX8_set_65 : decode cX8_set 65 = .ok (.goto 24, 3) := by decide +kernel
theorem dX8_set_68 : decode cX8_set 68 = .ok (.aload_n 0, 1) := by decide +kernel
theorem dX8_set_69 : decode cX8_set 69 = .ok (.getfield 23, 3) := by decide +kernel
theorem dX8_set_72 : decode cX8_set 72 = .ok (.iload_n 1, 1) := by decide +kernel
theorem dX8_set_73 : decode cX8_set 73 = .ok (.iaload, 1) := by decide +kernel
theorem dX8_set_74 : decode cX8_set 74 = .ok (.iconst 1, 1) := by decide +kernel
theorem dX8_set_75 : decode cX8_set 75 = .ok (.if_icmp .ne 13, 3) := by decide +kernel
theorem dX8_set_78 : decode cX8_set 78 = .ok (.iload_n 3, 1) := by decide +kernel
theorem dX8_set_79 : decode cX8_set 79 = .ok (.bipush 16, 2) := by decide +kernel
theorem dX8_set_81 : decode cX8_set 81 = .ok (.ishl, 1) := by decide +kernel
theorem dX8_set_82 : decode cX8_set 82 = .ok (.bipush 16, 2) := by decide +kernel
theorem dX8_set_84 : decode cX8_set 84 = .ok (.ishr, 1) := by decide +kernel
theorem dX8_set_85 : decode cX8_set 85 = .ok (.goto 4, 3) := by decide +kernel
theorem dX8_set_88 : decode cX8_set 88 = .ok (.iload_n 3, 1) := by decide +kernel
theorem dX8_set_89 : decode cX8_set 89 = .ok (.istore 4, 2) := by decide +kernel
theorem dX8_set_91 : decode cX8_set 91 = .ok (.aload_n 0, 1) := by decide +kernel
theorem dX8_set_92 : decode cX8_set 92 = .ok (.getfield 32, 3) := by decide +kernel
theorem dX8_set_95 : decode cX8_set 95 = .ok (.bipush 40, 2) := by decide +kernel
theorem dX8_set_97 : decode cX8_set 97 = .ok (.iload_n 1, 1) := by decide +kernel
theorem dX8_set_98 : decode cX8_set 98 = .ok (.imul, 1) := by decide +kernel
theorem dX8_set_99 : decode cX8_set 99 = .ok (.iload_n 2, 1) := by decide +kernel
theorem dX8_set_100 : decode cX8_set 100 = .ok (.iadd, 1) := by decide +kernel
theorem dX8_set_101 : decode cX8_set 101 = .ok (.iload 4, 2) := by decide +kernel
theorem dX8_set_103 : decode cX8_set 103 = .ok (.iastore, 1) := by decide +kernel
theorem dX8_set_104 : decode cX8_set 104 = .ok (.aload_n 0, 1) := by decide +kernel
theorem dX8_set_105 : decode cX8_set 105 = .ok (.iload 4, 2) := by decide +kernel
theorem dX8_set_107 : decode cX8_set 107 = .ok (.invokevirtual 76, 3) := by decide +kernel
theorem dX8_set_110 : decode cX8_set 110 = .ok (.ireturn, 1) := by decide +kernel
set_option maxRecDepth 20000 in
theorem ggX8_copy_X8_isRow : GoodIn wsX8_copy wsX8_isRow := goodIn_r _ [10, 11, 12, 13, 9, 14] (by decide +kernel) (by decide +kernel)
set_option maxRecDepth 20000 in
theorem gX8_copy_X8_isRow : GoodIn wsX8_copy (va_wsS RX8 65 yX8_isRow wsX8_isRow) := goodIn_app (goodIn_of _ (by decide +kernel)) ggX8_copy_X8_isRow
set_option maxRecDepth 20000 in
theorem ggX8_copy_X8_found : GoodIn wsX8_copy wsX8_found := goodIn_r _ [18, 19, 20, 25, 26, 27, 28, 29, 30, 31, 32, 33, 34, 35, 36, 37, 38, 39, 40, 41, 42, 43, 44, 45, 46, 47, 48] (by decide +kernel) (by decide +kernel)
set_option maxRecDepth 20000 in
theorem gX8_copy_X8_found : GoodIn wsX8_copy (wsV RX8 72 RX8 yX8_found wsX8_found) := goodIn_app (goodIn_of _ (by decide +kernel)) ggX8_copy_X8_found
set_option maxRecDepth 20000 in
theorem ggX8_copy_X8_well : GoodIn wsX8_copy wsX8_well := goodIn_r _ [24, 19, 25, 26, 27, 28, 29, 30, 31, 32, 33, 34, 35, 36, 37, 38, 39, 40, 41, 42, 43, 44, 45, 46, 47, 48] (by decide +kernel) (by decide +kernel)
set_option maxRecDepth 20000 in
theorem gX8_copy_X8_well : GoodIn wsX8_copy (wsV RX8 76 RX8 yX8_well wsX8_well) := goodIn_app (goodIn_of _ (by decide +kernel)) ggX8_copy_X8_well
theorem dX8_copy_0 : decode cX8_copy 0 = .ok (.iload_n 1, 1) := by decide +kernel
theorem dX8_copy_1 : decode cX8_copy 1 = .ok (.invokestatic 65, 3) := by decide +kernel
theorem dX8_copy_4 : decode cX8_copy 4 = .ok (.ifCond .eq 10, 3) := by decide +kernel
theorem dX8_copy_7 : decode cX8_copy 7 = .ok (.iload_n 3, 1) := by decide +kernel
theorem dX8_copy_8 : decode cX8_copy 8 = .ok (.invokestatic 65, 3) := by decide +kernel
theorem dX8_copy_11 : decode cX8_copy 11 = .ok (.ifCond .ne 6, 3) := by decide +kernel
theorem dX8_copy_14 : decode cX8_copy 14 = .ok (.ldc 71, 2) := by decide +kernel
theorem dX8_copy_16 : decode cX8_copy 16 = .ok (.ireturn, 1) := by decide +kernel
theorem dX8_copy_17 : decode cX8_copy 17 = .ok (.aload_n 0, 1) := by decide +kernel
theorem dX8_copy_18 : decode cX8_copy 18 = .ok (.getfield 29, 3) := by decide +kernel
theorem dX8_copy_21 : decode cX8_copy 21 = .ok (.iload_n 1, 1) := by decide +kernel
theorem dX8_copy_22 : decode cX8_copy 22 = .ok (.baload, 1) := by decide +kernel
theorem dX8_copy_23 : decode cX8_copy 23 = .ok (.ifCond .eq 12, 3) := by decide +kernel
theorem dX8_copy_26 : decode cX8_copy 26 = .ok (.aload_n 0, 1) := by decide +kernel
theorem dX8_copy_27 : decode cX8_copy 27 = .ok (.getfield 29, 3) := by decide +kernel
theorem dX8_copy_30 : decode cX8_copy 30 = .ok (.iload_n 3, 1) := by decide +kernel
theorem dX8_copy_31 : decode cX8_copy 31 = .ok (.baload, 1) := by decide +kernel
theorem dX8_copy_32 : decode cX8_copy 32 = .ok (.ifCond .ne 9, 3) := by decide +kernel
theorem dX8_copy_35 : decode cX8_copy 35 = .ok (.aload_n 0, 1) := by decide +kernel
theorem dX8_copy_36 : decode cX8_copy 36 = .ok (.iconst 1, 1) := by decide +kernel
theorem dX8_copy_37 : decode cX8_copy 37 = .ok (.invokevirtual 72, 3) := by decide +kernel
theorem dX8_copy_40 : decode cX8_copy 40 = .ok (.ireturn, 1) := by decide +kernel
theorem dX8_copy_41 : decode cX8_copy 41 = .ok (.aload_n 0, 1) := by decide +kernel
theorem dX8_copy_42 : decode cX8_copy 42 = .ok (.getfield 23, 3) := by decide +kernel
theorem dX8_copy_45 : decode cX8_copy 45 = .ok (.iload_n 1, 1) := by decide +kernel
theorem dX8_copy_46 : decode cX8_copy 46 = .ok (.iaload, 1) := by decide +kernel
theorem dX8_copy_47 : decode cX8_copy 47 = .ok (.aload_n 0, 1) := by decide +kernel
theorem dX8_copy_48 : decode cX8_copy 48 = .ok (.getfield 23, 3) := by decide +kernel
theorem dX8_copy_51 : decode cX8_copy 51 = .ok (.iload_n 3, 1) := by decide +kernel
theorem dX8_copy_52 : decode cX8_copy 52 = .ok (.iaload, 1) := by decide +kernel
theorem dX8_copy_53 : decode cX8_copy 53 = .ok (.if_icmp .eq 9, 3) := by decide +kernel
theorem dX8_copy_56 : decode cX8_copy 56 = .ok (.aload_n 0, 1) := by decide +kernel
theorem dX8_copy_57 : decode cX8_copy 57 = .ok (.iconst 5, 1) := by decide +kernel
theorem dX8_copy_58 : decode cX8_copy 58 = .ok (.invokevirtual 72, 3) := by decide +kernel
theorem dX8_copy_61 : decode cX8_copy 61 = .ok (.ireturn, 1) := by decide +kernel
theorem dX8_copy_62 : decode cX8_copy 62 = .ok (.iload_n 2, 1) := by decide +kernel
theorem dX8_copy_63 : decode cX8_copy 63 = .ok (.ifCond .lt 48, 3) := by decide +kernel
theorem dX8_copy_66 : decode cX8_copy 66 = .ok (.iload 4, 2) := by decide +kernel
theorem dX8_copy_68 : decode cX8_copy 68 = .ok (.ifCond .lt 43, 3) := by decide +kernel
theorem dX8_copy_71 : decode cX8_copy 71 = .ok (.iload 5, 2) := by decide +kernel
theorem dX8_copy_73 : decode cX8_copy 73 = .ok (.ifCond .lt 38, 3) := by decide +kernel
theorem dX8_copy_76 : decode cX8_copy 76 = .ok (.iload_n 2, 1) := by decide +kernel
theorem dX8_copy_77 : decode cX8_copy 77 = .ok (.i2l, 1) := by decide +kernel
theorem dX8_copy_78 : decode cX8_copy 78 = .ok (.iload 5, 2) := by decide +kernel
theorem dX8_copy_80 : decode cX8_copy 80 = .ok (.i2l, 1) := by decide +kernel
theorem dX8_copy_81 : decode cX8_copy 81 = .ok (.ladd, 1) := by decide +kernel
theorem dX8_copy_82 : decode cX8_copy 82 = .ok (.aload_n 0, 1) := by decide +kernel
theorem dX8_copy_83 : decode cX8_copy 83 = .ok (.getfield 26, 3) := by decide +kernel
theorem dX8_copy_86 : decode cX8_copy 86 = .ok (.iload_n 1, 1) := by decide +kernel
theorem dX8_copy_87 : decode cX8_copy 87 = .ok (.iaload, 1) := by decide +kernel
theorem dX8_copy_88 : decode cX8_copy 88 = .ok (.i2l, 1) := by decide +kernel
theorem dX8_copy_89 : decode cX8_copy 89 = .ok (.lcmp, 1) := by decide +kernel
theorem dX8_copy_90 : decode cX8_copy 90 = .ok (.ifCond .gt 21, 3) := by decide +kernel
theorem dX8_copy_93 : decode cX8_copy 93 = .ok (.iload 4, 2) := by decide +kernel
theorem dX8_copy_95 : decode cX8_copy 95 = .ok (.i2l, 1) := by decide +kernel
theorem dX8_copy_96 : decode cX8_copy 96 = .ok (.iload 5, 2) := by decide +kernel
theorem dX8_copy_98 : decode cX8_copy 98 = .ok (.i2l, 1) := by decide +kernel
theorem dX8_copy_99 : decode cX8_copy 99 = .ok (.ladd, 1) := by decide +kernel
theorem dX8_copy_100 : decode cX8_copy 100 = .ok (.aload_n 0, 1) := by decide +kernel
theorem dX8_copy_101 : decode cX8_copy 101 = .ok (.getfield 26, 3) := by decide +kernel
theorem dX8_copy_104 : decode cX8_copy 104 = .ok (.iload_n 3, 1) := by decide +kernel
theorem dX8_copy_105 : decode cX8_copy 105 = .ok (.iaload, 1) := by decide +kernel
theorem dX8_copy_106 : decode cX8_copy 106 = .ok (.i2l, 1) := by decide +kernel
theorem dX8_copy_107 : decode cX8_copy 107 = .ok (.lcmp, 1) := by decide +kernel
theorem dX8_copy_108 : decode cX8_copy 108 = .ok (.ifCond .le 9, 3) := by decide +kernel
theorem dX8_copy_111 : decode cX8_copy 111 = .ok (.aload_n 0, 1) := by decide +kernel
theorem dX8_copy_112 : decode cX8_copy 112 = .ok (.iconst 2, 1) := by decide +kernel
theorem dX8_copy_113 : decode cX8_copy 113 = .ok (.invokevirtual 72, 3) := by decide +kernel
theorem dX8_copy_116 : decode cX8_copy 116 = .ok (.ireturn, 1) := by decide +kernel
theorem dX8_copy_117 : decode cX8_copy 117 = .ok (.iconst 0, 1) := by decide +kernel
theorem dX8_copy_118 : decode cX8_copy 118 = .ok (.istore 6, 2) := by decide +kernel
theorem dX8_copy_120 : decode cX8_copy 120 = .ok (.iload 6, 2) := by decide +kernel
theorem dX8_copy_122 : decode cX8_copy 122 = .ok (.iload 5, 2) := by decide +kernel
theorem dX8_copy_124 : decode cX8_copy 124 = .ok (.if_icmp .ge 30, 3) := by decide +kernel
theorem dX8_copy_127 : decode cX8_copy 127 = .ok (.aload_n 0, 1) := by decide +kernel
theorem dX8_copy_128 : decode cX8_copy 128 = .ok (.getfield 35, 3) := by decide +kernel
theorem dX8_copy_131 : decode cX8_copy 131 = .ok (.iload 6, 2) := by decide +kernel
theorem dX8_copy_133 : decode cX8_copy 133 = .ok (.aload_n 0, 1) := by decide +kernel
theorem dX8_copy_134 : decode cX8_copy 134 = .ok (.getfield 32, 3) := by decide +kernel
theorem dX8_copy_137 : decode cX8_copy 137 = .ok (.bipush 40, 2) := by decide +kernel
theorem dX8_copy_139 : decode cX8_copy 139 = .ok (.iload_n 1, 1) := by decide +kernel
theorem dX8_copy_140 : decode cX8_copy 140 = .ok (.imul, 1) := by decide +kernel
theorem dX8_copy_141 : decode cX8_copy 141 = .ok (.iload_n 2, 1) := by decide +kernel
theorem dX8_copy_142 : decode cX8_copy 142 = .ok (.iadd, 1) := by decide +kernel
theorem dX8_copy_143 : decode cX8_copy 143 = .ok (.iload 6, 2) := by decide +kernel
theorem dX8_copy_145 : decode cX8_copy 145 = .ok (.iadd, 1) := by decide +kernel
theorem dX8_copy_146 : decode cX8_copy 146 = .ok (.iaload, 1) := by decide +kernel
theorem dX8_copy_147 : decode cX8_copy 147 = .ok (.iastore, 1) := by decide +kernel
theorem dX8_copy_148 : decode cX8_copy 148 = .ok (.iinc 6 1, 3) := by decide +kernel
theorem dX8_copy_151 : decode cX8_copy 151 = .ok (.goto (-31), 3) := by decide +kernel
theorem dX8_copy_154 : decode cX8_copy 154 = .ok (.iconst 0, 1) := by decide +kernel
theorem dX8_copy_155 : decode cX8_copy 155 = .ok (.istore 6, 2) := by decide +kernel
theorem dX8_copy_157 : decode cX8_copy 157 = .ok (.iload 6, 2) := by decide +kernel
theorem dX8_copy_159 : decode cX8_copy 159 = .ok (.iload 5, 2) := by decide +kernel
theorem dX8_copy_161 : decode cX8_copy 161 = .ok (.if_icmp .ge 31, 3) := by decide +kernel
theorem dX8_copy_164 : decode cX8_copy 164 = .ok (.aload_n 0, 1) := by decide +kernel
theorem dX8_copy_165 : decode cX8_copy 165 = .ok (.getfield 32, 3) := by decide +kernel
theorem dX8_copy_168 : decode cX8_copy 168 = .ok (.bipush 40, 2) := by decide +kernel
theorem dX8_copy_170 : decode cX8_copy 170 = .ok (.iload_n 3, 1) := by decide +kernel
theorem dX8_copy_171 : decode cX8_copy 171 = .ok (.imul, 1) := by decide +kernel
theorem dX8_copy_172 : decode cX8_copy 172 = .ok (.iload 4, 2) := by decide +kernel
theorem dX8_copy_174 : decode cX8_copy 174 = .ok (.iadd, 1) := by decide +kernel
theorem dX8_copy_175 : decode cX8_copy 175 = .ok (.iload 6, 2) := by decide +kernel
theorem dX8_copy_177 : decode cX8_copy 177 = .ok (.iadd, 1) := by decide +kernel
theorem dX8_copy_178 : decode cX8_copy 178 = .ok (.aload_n 0, 1) := by decide +kernel
theorem dX8_copy_179 : decode cX8_copy 179 = .ok (.getfield 35, 3) := by decide +kernel
theorem dX8_copy_182 : decode cX8_copy 182 = .ok (.iload 6, 2) := by decide +kernel
theorem dX8_copy_184 : decode cX8_copy 184 = .ok (.iaload, 1) := by decide +kernel
theorem dX8_copy_185 : decode cX8_copy 185 = .ok (.iastore, 1) := by decide +kernel
theorem dX8_copy_186 : decode cX8_copy 186 = .ok (.iinc 6 1, 3) := by decide +kernel
theorem dX8_copy_189 : decode cX8_copy 189 = .ok (.goto (-32), 3) := by decide +kernel
theorem dX8_copy_192 : decode cX8_copy 192 = .ok (.aload_n 0, 1) := by decide +kernel
theorem dX8_copy_193 : decode cX8_copy 193 = .ok (.iload 5, 2) := by decide +kernel
theorem dX8_copy_195 : decode cX8_copy 195 = .ok (.invokevirtual 76, 3) := by decide +kernel
theorem dX8_copy_198 : decode cX8_copy 198 = .ok (.ireturn, 1) := by decide +kernel
set_option maxRecDepth 20000 in
theorem ggX8_drop_X8_isRow : GoodIn wsX8_drop wsX8_isRow := goodIn_r _ [7, 8, 9, 10, 6, 11] (by decide +kernel) (by decide +kernel)
set_option maxRecDepth 20000 in
theorem gX8_drop_X8_isRow : GoodIn wsX8_drop (va_wsS RX8 65 yX8_isRow wsX8_isRow) := goodIn_app (goodIn_of _ (by decide +kernel)) ggX8_drop_X8_isRow
set_option maxRecDepth 20000 in
theorem ggX8_drop_X8_found : GoodIn wsX8_drop wsX8_found := goodIn_r _ [15, 16, 17, 22, 23, 24, 25, 26, 27, 28, 29, 30, 31, 32, 33, 34, 35, 36, 37, 38, 39, 40, 41, 42, 43, 44, 45] (by decide +kernel) (by decide +kernel)
set_option maxRecDepth 20000 in
theorem gX8_drop_X8_found : GoodIn wsX8_drop (wsV RX8 72 RX8 yX8_found wsX8_found) := goodIn_app (goodIn_of _ (by decide +kernel)) ggX8_drop_X8_found
set_option maxRecDepth 20000 in
theorem ggX8_drop_X8_well : GoodIn wsX8_drop wsX8_well := goodIn_r _ [21, 16, 22, 23, 24, 25, 26, 27, 28, 29, 30, 31, 32, 33, 34, 35, 36, 37, 38, 39, 40, 41, 42, 43, 44, 45] (by decide +kernel) (by decide +kernel)
set_option maxRecDepth 20000 in
theorem gX8_drop_X8_well : GoodIn wsX8_drop (wsV RX8 76 RX8 yX8_well wsX8_well) := goodIn_app (goodIn_of _ (by decide +kernel)) ggX8_drop_X8_well
theorem dX8_drop_0 : decode cX8_drop 0 = .ok (.iload_n 1, 1) := by decide +kernel
theorem dX8_drop_1 : decode cX8_drop 1 = .ok (.invokestatic 65, 3) := by decide +kernel
theorem dX8_drop_4 : decode cX8_drop 4 = .ok (.ifCond .ne 6, 3) := by decide +kernel
theorem dX8_drop_7 : decode cX8_drop 7 = .ok (.ldc 71, 2) := by decide +kernel
theorem dX8_drop_9 : decode cX8_drop 9 = .ok (.ireturn, 1) := by decide +kernel
theorem dX8_drop_10 : decode cX8_drop 10 = .ok (.aload_n 0, 1) := by decide +kernel
theorem dX8_drop_11 : decode cX8_drop 11 = .ok (.getfield 29, 3) := by decide +kernel
theorem dX8_drop_14 : decode cX8_drop 14 = .ok (.iload_n 1, 1) := by decide +kernel
theorem dX8_drop_15 : decode cX8_drop 15 = .ok (.baload, 1) := by decide +kernel
theorem dX8_drop_16 : decode cX8_drop 16 = .ok (.ifCond .ne 9, 3) := by decide +kernel
theorem dX8_drop_19 : decode cX8_drop 19 = .ok (.aload_n 0, 1) := by decide +kernel
theorem dX8_drop_20 : decode cX8_drop 20 = .ok (.iconst 1, 1) := by decide +kernel
theorem dX8_drop_21 : decode cX8_drop 21 = .ok (.invokevirtual 72, 3) := by decide +kernel
theorem dX8_drop_24 : decode cX8_drop 24 = .ok (.ireturn, 1) := by decide +kernel
theorem dX8_drop_25 : decode cX8_drop 25 = .ok (.aload_n 0, 1) := by decide +kernel
theorem dX8_drop_26 : decode cX8_drop 26 = .ok (.getfield 29, 3) := by decide +kernel
theorem dX8_drop_29 : decode cX8_drop 29 = .ok (.iload_n 1, 1) := by decide +kernel
theorem dX8_drop_30 : decode cX8_drop 30 = .ok (.iconst 0, 1) := by decide +kernel
theorem dX8_drop_31 : decode cX8_drop 31 = .ok (.bastore, 1) := by decide +kernel
theorem dX8_drop_32 : decode cX8_drop 32 = .ok (.aload_n 0, 1) := by decide +kernel
theorem dX8_drop_33 : decode cX8_drop 33 = .ok (.aload_n 0, 1) := by decide +kernel
theorem dX8_drop_34 : decode cX8_drop 34 = .ok (.getfield 26, 3) := by decide +kernel
theorem dX8_drop_37 : decode cX8_drop 37 = .ok (.iload_n 1, 1) := by decide +kernel
theorem dX8_drop_38 : decode cX8_drop 38 = .ok (.iaload, 1) := by decide +kernel
theorem dX8_drop_39 : decode cX8_drop 39 = .ok (.invokevirtual 76, 3) := by decide +kernel
theorem dX8_drop_42 : decode cX8_drop 42 = .ok (.ireturn, 1) := by decide +kernel
set_option maxRecDepth 20000 in
theorem ggX8_feed_X8_in : GoodIn wsX8_feed wsX8_in := goodIn_r _ [9] (by decide +kernel) (by decide +kernel)
set_option maxRecDepth 20000 in
theorem gX8_feed_X8_in : GoodIn wsX8_feed (va_wsS RX8 61 yX8_in wsX8_in) := goodIn_app (goodIn_of _ (by decide +kernel)) ggX8_feed_X8_in
theorem dX8_feed_0 : decode cX8_feed 0 = .ok (.iload_n 1, 1) := by decide +kernel
theorem dX8_feed_1 : decode cX8_feed 1 = .ok (.i2l, 1) := by decide +kernel
theorem dX8_feed_2 : decode cX8_feed 2 = .ok (.lconst 0, 1) := by decide +kernel
theorem dX8_feed_3 : decode cX8_feed 3 = .ok (.ldc2_w 79, 3) := by decide +kernel
theorem dX8_feed_6 : decode cX8_feed 6 = .ok (.invokestatic 61, 3) := by decide +kernel
theorem dX8_feed_9 : decode cX8_feed 9 = .ok (.ifCond .ne 6, 3) := by decide +kernel
theorem dX8_feed_12 : decode cX8_feed 12 = .ok (.ldc 71, 2) := by decide +kernel
theorem dX8_feed_14 : decode cX8_feed 14 = .ok (.ireturn, 1) := by decide +kernel
theorem dX8_feed_15 : decode cX8_feed 15 = .ok (.aload_n 0, 1) := by decide +kernel
theorem dX8_feed_16 : decode cX8_feed 16 = .ok (.getfield 81, 3) := by decide +kernel
theorem dX8_feed_19 : decode cX8_feed 19 = .ok (.bipush 70, 2) := by decide +kernel
theorem dX8_feed_21 : decode cX8_feed 21 = .ok (.if_icmp .ne 6, 3) := by decide +kernel
theorem dX8_feed_24 : decode cX8_feed 24 = .ok (.ldc 84, 2) := by decide +kernel
theorem dX8_feed_26 : decode cX8_feed 26 = .ok (.ireturn, 1) := by decide +kernel
theorem dX8_feed_27 : decode cX8_feed 27 = .ok (.aload_n 0, 1) := by decide +kernel
theorem dX8_feed_28 : decode cX8_feed 28 = .ok (.getfield 38, 3) := by decide +kernel
theorem dX8_feed_31 : decode cX8_feed 31 = .ok (.aload_n 0, 1) := by decide +kernel
theorem dX8_feed_32 : decode cX8_feed 32 = .ok (.getfield 81, 3) := by decide +kernel
theorem dX8_feed_35 : decode cX8_feed 35 = .ok (.iload_n 1, 1) := by decide +kernel
theorem dX8_feed_36 : decode cX8_feed 36 = .ok (.iastore, 1) := by decide +kernel
theorem dX8_feed_37 : decode cX8_feed 37 = .ok (.aload_n 0, 1) := by decide +kernel
theorem dX8_feed_38 : decode cX8_feed 38 = .ok (.dup, 1) := by decide +kernel
theorem dX8_feed_39 : decode cX8_feed 39 = .ok (.getfield 81, 3) := by decide +kernel
theorem dX8_feed_42 : decode cX8_feed 42 = .ok (.iconst 1, 1) := by decide +kernel
theorem dX8_feed_43 : decode cX8_feed 43 = .ok (.iadd, 1) := by decide +kernel
theorem dX8_feed_44 : decode cX8_feed 44 = .ok (.putfield 81, 3) := by decide +kernel
theorem dX8_feed_47 : decode cX8_feed 47 = .ok (.aload_n 0, 1) := by decide +kernel
theorem dX8_feed_48 : decode cX8_feed 48 = .ok (.getfield 81, 3) := by decide +kernel
theorem dX8_feed_51 : decode cX8_feed 51 = .ok (.ireturn, 1) := by decide +kernel
set_option maxRecDepth 20000 in
theorem ggX8_isFigure_X8_in : GoodIn wsX8_isFigure wsX8_in := goodIn_r _ [6] (by decide +kernel) (by decide +kernel)
set_option maxRecDepth 20000 in
theorem gX8_isFigure_X8_in : GoodIn wsX8_isFigure (va_wsS RX8 61 yX8_in wsX8_in) := goodIn_app (goodIn_of _ (by decide +kernel)) ggX8_isFigure_X8_in
theorem dX8_isFigure_0 : decode cX8_isFigure 0 = .ok (.iload_n 0, 1) := by decide +kernel
theorem dX8_isFigure_1 : decode cX8_isFigure 1 = .ok (.i2l, 1) := by decide +kernel
theorem dX8_isFigure_2 : decode cX8_isFigure 2 = .ok (.ldc2_w 85, 3) := by decide +kernel
theorem dX8_isFigure_5 : decode cX8_isFigure 5 = .ok (.ldc2_w 87, 3) := by decide +kernel
theorem dX8_isFigure_8 : decode cX8_isFigure 8 = .ok (.invokestatic 61, 3) := by decide +kernel
theorem dX8_isFigure_11 : decode cX8_isFigure 11 = .ok (.ireturn, 1) := by decide +kernel
set_option maxRecDepth 20000 in
theorem ggX8_look_X8_in : GoodIn wsX8_look wsX8_in := goodIn_r _ [12] (by decide +kernel) (by decide +kernel)
set_option maxRecDepth 20000 in
theorem gX8_look_X8_in : GoodIn wsX8_look (va_wsS RX8 61 yX8_in wsX8_in) := goodIn_app (goodIn_of _ (by decide +kernel)) ggX8_look_X8_in
set_option maxRecDepth 20000 in
theorem ggX8_look_X8_isFigure : GoodIn wsX8_look wsX8_isFigure := goodIn_r _ [15, 16, 17, 9, 10, 11, 12] (by decide +kernel) (by decide +kernel)
set_option maxRecDepth 20000 in
theorem gX8_look_X8_isFigure : GoodIn wsX8_look (va_wsS RX8 105 yX8_isFigure wsX8_isFigure) := goodIn_app (goodIn_of _ (by decide +kernel)) ggX8_look_X8_isFigure
theorem dX8_look_0 : decode cX8_look 0 = .ok (.aload_n 0, 1) := by decide +kernel
theorem dX8_look_1 : decode cX8_look 1 = .ok (.iload_n 1, 1) := by decide +kernel
theorem dX8_look_2 : decode cX8_look 2 = .ok (.putfield 89, 3) := by decide +kernel
theorem dX8_look_5 : decode cX8_look 5 = .ok (.aload_n 0, 1) := by decide +kernel
theorem dX8_look_6 : decode cX8_look 6 = .ok (.iconst 1, 1) := by decide +kernel
theorem dX8_look_7 : decode cX8_look 7 = .ok (.putfield 92, 3) := by decide +kernel
theorem dX8_look_10 : decode cX8_look 10 = .ok (.aload_n 0, 1) := by decide +kernel
theorem dX8_look_11 : decode cX8_look 11 = .ok (.iconst 0, 1) := by decide +kernel
theorem dX8_look_12 : decode cX8_look 12 = .ok (.putfield 95, 3) := by decide +kernel
theorem dX8_look_15 : decode cX8_look 15 = .ok (.aload_n 0, 1) := by decide +kernel
theorem dX8_look_16 : decode cX8_look 16 = .ok (.iconst 0, 1) := by decide +kernel
theorem dX8_look_17 : decode cX8_look 17 = .ok (.putfield 98, 3) := by decide +kernel
theorem dX8_look_20 : decode cX8_look 20 = .ok (.aload_n 0, 1) := by decide +kernel
theorem dX8_look_21 : decode cX8_look 21 = .ok (.getfield 89, 3) := by decide +kernel
theorem dX8_look_24 : decode cX8_look 24 = .ok (.aload_n 0, 1) := by decide +kernel
theorem dX8_look_25 : decode cX8_look 25 = .ok (.getfield 81, 3) := by decide +kernel
theorem dX8_look_28 : decode cX8_look 28 = .ok (.if_icmp .ne 4, 3) := by decide +kernel
theorem dX8_look_31 : decode cX8_look 31 = .ok (.return_, 1) := by decide +kernel
theorem dX8_look_32 : decode cX8_look 32 = .ok (.aload_n 0, 1) := by decide +kernel
theorem dX8_look_33 : decode cX8_look 33 = .ok (.getfield 38, 3) := by decide +kernel
theorem dX8_look_36 : decode cX8_look 36 = .ok (.aload_n 0, 1) := by decide +kernel
theorem dX8_look_37 : decode cX8_look 37 = .ok (.getfield 89, 3) := by decide +kernel
theorem dX8_look_40 : decode cX8_look 40 = .ok (.iaload, 1) := by decide +kernel
theorem dX8_look_41 : decode cX8_look 41 = .ok (.istore_n 2, 1) := by decide +kernel
theorem dX8_look_42 : decode cX8_look 42 = .ok (.aload_n 0, 1) := by decide +kernel
theorem dX8_look_43 : decode cX8_look 43 = .ok (.iload_n 2, 1) := by decide +kernel
theorem dX8_look_44 : decode cX8_look 44 = .ok (.i2l, 1) := by decide +kernel
theorem dX8_look_45 : decode cX8_look 45 = .ok (.ldc2_w 101, 3) := by decide +kernel
theorem dX8_look_48 : decode cX8_look 48 = .ok (.ldc2_w 103, 3) := by decide +kernel
theorem dX8_look_51 : decode cX8_look 51 = .ok (.invokestatic 61, 3) := by decide +kernel
theorem dX8_look_54 : decode cX8_look 54 = .ok (.ifCond .eq 7, 3) := by decide +kernel
theorem dX8_look_57 : decode cX8_look 57 = .ok (.iconst 1, 1) := by decide +kernel
theorem dX8_look_58 : decode cX8_look 58 = .ok (.goto 31, 3) := by decide +kernel
theorem dX8_look_61 : decode cX8_look 61 = .ok (.iload_n 2, 1) := by decide +kernel
theorem dX8_look_62 : decode cX8_look 62 = .ok (.invokestatic 105, 3) := by decide +kernel
theorem dX8_look_65 : decode cX8_look 65 = .ok (.ifCond .eq 7, 3) := by decide +kernel
theorem dX8_look_68 : decode cX8_look 68 = .ok (.iconst 2, 1) := by decide +kernel
theorem dX8_look_69 : decode cX8_look 69 = .ok (.goto 20, 3) := by decide +kernel
theorem dX8_look_72 : decode cX8_look 72 = .ok (.iload_n 2, 1) := by decide +kernel
theorem dX8_look_73 : decode cX8_look 73 = .ok (.bipush 44, 2) := by decide +kernel
theorem dX8_look_75 : decode cX8_look 75 = .ok (.if_icmp .eq 9, 3) := by decide +kernel
theorem dX8_look_78 : decode cX8_look 78 = .ok (.iload_n 2, 1) := by decide +kernel
theorem dX8_look_79 : decode cX8_look 79 = .ok (.bipush 59, 2) := by decide +kernel
theorem dX8_look_81 : decode cX8_look 81 = .ok (.if_icmp .ne 7, 3) := by decide +kernel
theorem dX8_look_84 : decode cX8_look 84 = .ok (.iconst 3, 1) := by decide +kernel
theorem dX8_look_85 : decode cX8_look 85 = .ok (.goto 4, 3) := by decide +kernel
theorem dX8_look_88 : decode cX8_look 88 = .ok (.iconst 4, 1) := by decide +kernel
theorem dX8_look_89 : decode cX8_look 89 = .ok (.putfield 98, 3) := by decide +kernel
theorem dX8_look_92 : decode cX8_look 92 = .ok (.aload_n 0, 1) := by decide +kernel
theorem dX8_look_93 : decode cX8_look 93 = .ok (.getfield 98, 3) := by decide +kernel
theorem dX8_look_96 : decode cX8_look 96 = .ok (.iconst 2, 1) := by decide +kernel
theorem dX8_look_97 : decode cX8_look 97 = .ok (.if_icmp .ne 52, 3) := by decide +kernel
theorem dX8_look_100 : decode cX8_look 100 = .ok (.aload_n 0, 1) := by decide +kernel
theorem dX8_look_101 : decode cX8_look 101 = .ok (.getfield 89, 3) := by decide +kernel
theorem dX8_look_104 : decode cX8_look 104 = .ok (.aload_n 0, 1) := by decide +kernel
theorem dX8_look_105 : decode cX8_look 105 = .ok (.getfield 92, 3) := by decide +kernel
theorem dX8_look_108 : decode cX8_look 108 = .ok (.iadd, 1) := by decide +kernel
theorem dX8_look_109 : decode cX8_look 109 = .ok (.aload_n 0, 1) := by decide +kernel
theorem dX8_look_110 : decode cX8_look 110 = .ok (.getfield 81, 3) := by decide +kernel
theorem dX8_look_113 : decode cX8_look 113 = .ok (.if_icmp .ge 36, 3) := by decide +kernel
theorem dX8_look_116 : decode cX8_look 116 = .ok (.aload_n 0, 1) := by decide +kernel
theorem dX8_look_117 : decode cX8_look 117 = .ok (.getfield 38, 3) := by decide +kernel
theorem dX8_look_120 : decode cX8_look 120 = .ok (.aload_n 0, 1) := by decide +kernel
theorem dX8_look_121 : decode cX8_look 121 = .ok (.getfield 89, 3) := by decide +kernel
theorem dX8_look_124 : decode cX8_look 124 = .ok (.aload_n 0, 1) := by decide +kernel
theorem dX8_look_125 : decode cX8_look 125 = .ok (.getfield 92, 3) := by decide +kernel
theorem dX8_look_128 : decode cX8_look 128 = .ok (.iadd, 1) := by decide +kernel
theorem dX8_look_129 : decode cX8_look 129 = .ok (.iaload, 1) := by decide +kernel
theorem dX8_look_130 : decode cX8_look 130 = .ok (.invokestatic 105, 3) := by decide +kernel
theorem dX8_look_133 : decode cX8_look 133 = .ok (.ifCond .eq 16, 3) := by decide +kernel
theorem dX8_look_136 : decode cX8_look 136 = .ok (.aload_n 0, 1) := by decide +kernel
theorem dX8_look_137 : decode cX8_look 137 = .ok (.dup, 1) := by decide +kernel
theorem dX8_look_138 : decode cX8_look 138 = .ok (.getfield 92, 3) := by decide +kernel
theorem dX8_look_141 : decode cX8_look 141 = .ok (.iconst 1, 1) := by decide +kernel
theorem dX8_look_142 : decode cX8_look 142 = .ok (.iadd, 1) := by decide +kernel
theorem dX8_look_143 : decode cX8_look 143 = .ok (.putfield 92, 3) := by decide +kernel
theorem dX8_look_146 : decode cX8_look 146 = .ok (.goto (-54), 3) := by decide +kernel
theorem dX8_look_149 : decode cX8_look 149 = .ok (.iconst 0, 1) := by decide +kernel
theorem dX8_look_150 : decode cX8_look 150 = .ok (.istore_n 3, 1) := by decide +kernel
theorem dX8_look_151 : decode cX8_look 151 = .ok (.iload_n 3, 1) := by decide +kernel
theorem dX8_look_152 : decode cX8_look 152 = .ok (.aload_n 0, 1) := by decide +kernel
theorem dX8_look_153 : decode cX8_look 153 = .ok (.getfield 92, 3) := by decide +kernel
theorem dX8_look_156 : decode cX8_look 156 = .ok (.if_icmp .ge 48, 3) := by decide +kernel
theorem dX8_look_159 : decode cX8_look 159 = .ok (.iload_n 3, 1) := by decide +kernel
theorem dX8_look_160 : decode cX8_look 160 = .ok (.iconst 2, 1) := by decide +kernel
theorem dX8_look_161 : decode cX8_look 161 = .ok (.if_icmp .ge 43, 3) := by decide +kernel
theorem dX8_look_164 : decode cX8_look 164 = .ok (.aload_n 0, 1) := by decide +kernel
theorem dX8_look_165 : decode cX8_look 165 = .ok (.getfield 98, 3) := by decide +kernel
theorem dX8_look_168 : decode cX8_look 168 = .ok (.iconst 2, 1) := by decide +kernel
theorem dX8_look_169 : decode cX8_look 169 = .ok (.if_icmp .ne 35, 3) := by decide +kernel
theorem dX8_look_172 : decode cX8_look 172 = .ok (.aload_n 0, 1) := by decide +kernel
theorem dX8_look_173 : decode cX8_look 173 = .ok (.bipush 10, 2) := by decide +kernel
theorem dX8_look_175 : decode cX8_look 175 = .ok (.aload_n 0, 1) := by decide +kernel
theorem dX8_look_176 : decode cX8_look 176 = .ok (.getfield 95, 3) := by decide +kernel
theorem dX8_look_179 : decode cX8_look 179 = .ok (.imul, 1) := by decide +kernel
theorem dX8_look_180 : decode cX8_look 180 = .ok (.aload_n 0, 1) := by decide +kernel
theorem dX8_look_181 : decode cX8_look 181 = .ok (.getfield 38, 3) := by decide +kernel
theorem dX8_look_184 : decode cX8_look 184 = .ok (.aload_n 0, 1) := by decide +kernel
theorem dX8_look_185 : decode cX8_look 185 = .ok (.getfield 89, 3) := by decide +kernel
theorem dX8_look_188 : decode cX8_look 188 = .ok (.iload_n 3, 1) := by decide +kernel
theorem dX8_look_189 : decode cX8_look 189 = .ok (.iadd, 1) := by decide +kernel
theorem dX8_look_190 : decode cX8_look 190 = .ok (.iaload, 1) := by decide +kernel
theorem dX8_look_191 : decode cX8_look 191 = .ok (.iadd, 1) := by decide +kernel
theorem dX8_look_192 : decode cX8_look 192 = .ok (.bipush 48, 2) := by decide +kernel
theorem dX8_look_194 : decode cX8_look 194 = .ok (.isub, 1) := by decide +kernel
theorem dX8_look_195 : decode cX8_look 195 = .ok (.putfield 95, 3) := by decide +kernel
theorem dX8_look_198 : decode cX8_look 198 = .ok (.iinc 3 1, 3) := by decide +kernel
theorem dX8_look_201 : decode cX8_look 201 = .ok (.goto (-50), 3) := by decide +kernel
theorem dX8_look_204 : decode cX8_look 204 = .ok (.aload_n 0, 1) := by decide +kernel
theorem dX8_look_205 : decode cX8_look 205 = .ok (.aload_n 0, 1) := by decide +kernel
theorem dX8_look_206 : decode cX8_look 206 = .ok (.getfield 98, 3) := by decide +kernel
theorem dX8_look_209 : decode cX8_look 209 = .ok (.iconst 2, 1) := by decide +kernel
theorem dX8_look_210 : decode cX8_look 210 = .ok (.if_icmp .ne 15, 3) := by decide +kernel
theorem dX8_look_213 : decode cX8_look 213 = .ok (.aload_n 0, 1) := by decide +kernel
theorem dX8_look_214 : decode cX8_look 214 = .ok (.getfield 92, 3) := by decide +kernel
theorem dX8_look_217 : decode cX8_look 217 = .ok (.iconst 2, 1) := by decide +kernel
theorem dX8_look_218 : decode cX8_look 218 = .ok (.if_icmp .le 7, 3) := by decide +kernel
theorem dX8_look_221 : decode cX8_look 221 = .ok (.iconst 4, 1) := by decide +kernel
theorem dX8_look_222 : decode cX8_look 222 = .ok (.goto 7, 3) := by decide +kernel
theorem dX8_look_225 : decode cX8_look 225 = .ok (.aload_n 0, 1) := by decide +kernel
theorem dX8_look_226 : decode cX8_look 226 = .ok (.getfield 98, 3) := by decide +kernel
theorem dX8_look_229 : decode cX8_look 229 = .ok (.putfield 98, 3) := by decide +kernel
theorem dX8_look_232 : decode cX8_look 232 = .ok (.return_, 1) := by decide +kernel
set_option maxRecDepth 20000 in
theorem ggX8_goOn_X8_look : GoodIn wsX8_goOn wsX8_look := goodIn_r _ [7, 1, 2, 8, 9, 10, 11, 12, 13, 14, 15, 6, 16, 17, 18, 19, 20, 21, 22, 23, 24, 25, 26, 27, 28, 29, 30, 31, 32, 33, 34, 35, 36, 37, 38, 39, 40, 41, 42, 43, 44, 45] (by decide +kernel) (by decide +kernel)
set_option maxRecDepth 20000 in
theorem gX8_goOn_X8_look : GoodIn wsX8_goOn (wsV RX8 108 RX8 yX8_look wsX8_look) := goodIn_app (goodIn_of _ (by decide +kernel)) ggX8_goOn_X8_look
theorem dX8_goOn_0 : decode cX8_goOn 0 = .ok (.aload_n 0, 1) := by decide +kernel
theorem dX8_goOn_1 : decode cX8_goOn 1 = .ok (.aload_n 0, 1) := by decide +kernel
theorem dX8_goOn_2 : decode cX8_goOn 2 = .ok (.getfield 89, 3) := by decide +kernel
theorem dX8_goOn_5 : decode cX8_goOn 5 = .ok (.aload_n 0, 1) := by decide +kernel
theorem dX8_goOn_6 : decode cX8_goOn 6 = .ok (.getfield 92, 3) := by decide +kernel
theorem dX8_goOn_9 : decode cX8_goOn 9 = .ok (.iadd, 1) := by decide +kernel
theorem dX8_goOn_10 : decode cX8_goOn 10 = .ok (.invokevirtual 108, 3) := by decide +kernel
theorem dX8_goOn_13 : decode cX8_goOn 13 = .ok (.return_, 1) := by decide +kernel
theorem dX8_isByte_0 : decode cX8_isByte 0 = .ok (.aload_n 0, 1) := by decide +kernel
theorem dX8_isByte_1 : decode cX8_isByte 1 = .ok (.getfield 98, 3) := by decide +kernel
theorem dX8_isByte_4 : decode cX8_isByte 4 = .ok (.iload_n 1, 1) := by decide +kernel
theorem dX8_isByte_5 : decode cX8_isByte 5 = .ok (.if_icmp .ne 20, 3) := by decide +kernel
theorem dX8_isByte_8 : decode cX8_isByte 8 = .ok (.aload_n 0, 1) := by decide +kernel
theorem dX8_isByte_9 : decode cX8_isByte 9 = .ok (.getfield 38, 3) := by decide +kernel
theorem dX8_isByte_12 : decode cX8_isByte 12 = .ok (.aload_n 0, 1) := by decide +kernel
theorem dX8_isByte_13 : decode cX8_isByte 13 = .ok (.getfield 89, 3) := by decide +kernel
theorem dX8_isByte_16 : decode cX8_isByte 16 = .ok (.iaload, 1) := by decide +kernel
theorem dX8_isByte_17 : decode cX8_isByte 17 = .ok (.iload_n 2, 1) := by decide +kernel
theorem dX8_isByte_18 : decode cX8_isByte 18 = .ok (.if_icmp .ne 7, 3) := by decide +kernel
theorem dX8_isByte_21 : decode cX8_isByte 21 = .ok (.iconst 1, 1) := by decide +kernel
theorem dX8_isByte_22 : decode cX8_isByte 22 = .ok (.goto 4, 3) := by decide +kernel
theorem dX8_isByte_25 : decode cX8_isByte 25 = .ok (.iconst 0, 1) := by decide +kernel
theorem dX8_isByte_26 : decode cX8_isByte 26 = .ok (.ireturn, 1) := by decide +kernel
theorem dX8_sortBy_0 : decode cX8_sortBy 0 = .ok (.iload_n 1, 1) := by decide +kernel
theorem dX8_sortBy_1 : decode cX8_sortBy 1 = .ok (.bipush 98, 2) := by decide +kernel
theorem dX8_sortBy_3 : decode cX8_sortBy 3 = .ok (.if_icmp .ne 7, 3) := by decide +kernel
theorem dX8_sortBy_6 : decode cX8_sortBy 6 = .ok (.iconst 1, 1) := by decide +kernel
theorem dX8_sortBy_7 : decode cX8_sortBy 7 = .ok (.goto 44, 3) := by decide +kernel
theorem dX8_sortBy_10 : decode cX8_sortBy 10 = .ok (.iload_n 1, 1) := by decide +kernel
theorem dX8_sortBy_11 : decode cX8_sortBy 11 = .ok (.bipush 115, 2) := by decide +kernel
theorem dX8_sortBy_13 : decode cX8_sortBy 13 = .ok (.if_icmp .ne 7, 3) := by decide +kernel
theorem dX8_sortBy_16 : decode cX8_sortBy 16 = .ok (.iconst 2, 1) := by decide +kernel
theorem dX8_sortBy_17 : decode cX8_sortBy 17 = .ok (.goto 34, 3) := by decide +kernel
theorem dX8_sortBy_20 : decode cX8_sortBy 20 = .ok (.iload_n 1, 1) := by decide +kernel
theorem dX8_sortBy_21 : decode cX8_sortBy 21 = .ok (.bipush 108, 2) := by decide +kernel
theorem dX8_sortBy_23 : decode cX8_sortBy 23 = .ok (.if_icmp .ne 7, 3) := by decide +kernel
theorem dX8_sortBy_26 : decode cX8_sortBy 26 = .ok (.iconst 3, 1) := by decide +kernel
theorem dX8_sortBy_27 : decode cX8_sortBy 27 = .ok (.goto 24, 3) := by decide +kernel
theorem dX8_sortBy_30 : decode cX8_sortBy 30 = .ok (.iload_n 1, 1) := by decide +kernel
theorem dX8_sortBy_31 : decode cX8_sortBy 31 = .ok (.bipush 111, 2) := by decide +kernel
theorem dX8_sortBy_33 : decode cX8_sortBy 33 = .ok (.if_icmp .ne 7, 3) := by decide +kernel
theorem dX8_sortBy_36 : decode cX8_sortBy 36 = .ok (.iconst 4, 1) := by decide +kernel
theorem dX8_sortBy_37 : decode cX8_sortBy 37 = .ok (.goto 14, 3) := by decide +kernel
theorem dX8_sortBy_40 : decode cX8_sortBy 40 = .ok (.iload_n 1, 1) := by decide +kernel
theorem dX8_sortBy_41 : decode cX8_sortBy 41 = .ok (.bipush 101, 2) := by decide +kernel
theorem dX8_sortBy_43 : decode cX8_sortBy 43 = .ok (.if_icmp .ne 7, 3) := by decide +kernel
theorem dX8_sortBy_46 : decode cX8_sortBy 46 = .ok (.iconst 5, 1) := by decide +kernel
theorem dX8_sortBy_47 : decode cX8_sortBy 47 = .ok (.goto 4, 3) := by decide +kernel
theorem dX8_sortBy_50 : decode cX8_sortBy 50 = .ok (.iconst 0, 1) := by decide +kernel
theorem dX8_sortBy_51 : decode cX8_sortBy 51 = .ok (.ireturn, 1) := by decide +kernel
set_option maxRecDepth 20000 in
theorem ggX8_readNumber_X8_in : GoodIn wsX8_readNumber wsX8_in := goodIn_r _ [7] (by decide +kernel) (by decide +kernel)
set_option maxRecDepth 20000 in
theorem gX8_readNumber_X8_in : GoodIn wsX8_readNumber (va_wsS RX8 61 yX8_in wsX8_in) := goodIn_app (goodIn_of _ (by decide +kernel)) ggX8_readNumber_X8_in
set_option maxRecDepth 20000 in
theorem ggX8_readNumber_X8_goOn : GoodIn wsX8_readNumber wsX8_goOn := goodIn_r _ [11, 12, 13, 14, 15, 16, 6, 17, 2, 1, 18, 19, 20, 21, 4, 5, 7, 22, 23, 24, 25, 26, 31, 32, 33, 34, 35, 36, 37, 38, 39, 40, 41, 42, 43, 44, 45, 46, 47, 48, 49, 50, 51, 52, 53, 54] (by decide +kernel) (by decide +kernel)
set_option maxRecDepth 20000 in
theorem gX8_readNumber_X8_goOn : GoodIn wsX8_readNumber (wsV RX8 112 RX8 yX8_goOn wsX8_goOn) := goodIn_app (goodIn_of _ (by decide +kernel)) ggX8_readNumber_X8_goOn
set_option maxRecDepth 20000 in
theorem ggX8_readNumber_X8_isByte : GoodIn wsX8_readNumber wsX8_isByte := goodIn_r _ [30, 1, 19, 12, 31, 32, 33, 34, 35, 36, 37, 38, 39, 40, 41, 42, 43, 44, 45, 46, 47, 48, 49, 50, 51, 52, 53, 54] (by decide +kernel) (by decide +kernel)
set_option maxRecDepth 20000 in
theorem gX8_readNumber_X8_isByte : GoodIn wsX8_readNumber (wsV RX8 115 RX8 yX8_isByte wsX8_isByte) := goodIn_app (goodIn_of _ (by decide +kernel)) ggX8_readNumber_X8_isByte
theorem dX8_readNumber_0 : decode cX8_readNumber 0 = .ok (.aload_n 0, 1) := by decide +kernel
theorem dX8_readNumber_1 : decode cX8_readNumber 1 = .ok (.getfield 98, 3) := by decide +kernel
theorem dX8_readNumber_4 : decode cX8_readNumber 4 = .ok (.iconst 2, 1) := by decide +kernel
theorem dX8_readNumber_5 : decode cX8_readNumber 5 = .ok (.if_icmp .eq 5, 3) := by decide +kernel
theorem dX8_readNumber_8 : decode cX8_readNumber 8 = .ok (.iconst 1, 1) := by decide +kernel
theorem dX8_readNumber_9 : decode cX8_readNumber 9 = .ok (.ireturn, 1) := by decide +kernel
theorem dX8_readNumber_10 : decode cX8_readNumber 10 = .ok (.aload_n 0, 1) := by decide +kernel
theorem dX8_readNumber_11 : decode cX8_readNumber 11 = .ok (.getfield 95, 3) := by decide +kernel
theorem dX8_readNumber_14 : decode cX8_readNumber 14 = .ok (.i2l, 1) := by decide +kernel
theorem dX8_readNumber_15 : decode cX8_readNumber 15 = .ok (.iload_n 2, 1) := by decide +kernel
theorem dX8_readNumber_16 : decode cX8_readNumber 16 = .ok (.i2l, 1) := by decide +kernel
theorem dX8_readNumber_17 : decode cX8_readNumber 17 = .ok (.iload_n 3, 1) := by decide +kernel
theorem dX8_readNumber_18 : decode cX8_readNumber 18 = .ok (.i2l, 1) := by decide +kernel
theorem dX8_readNumber_19 : decode cX8_readNumber 19 = .ok (.invokestatic 61, 3) := by decide +kernel
theorem dX8_readNumber_22 : decode cX8_readNumber 22 = .ok (.ifCond .ne 5, 3) := by decide +kernel
theorem dX8_readNumber_25 : decode cX8_readNumber 25 = .ok (.iconst 2, 1) := by decide +kernel
theorem dX8_readNumber_26 : decode cX8_readNumber 26 = .ok (.ireturn, 1) := by decide +kernel
theorem dX8_readNumber_27 : decode cX8_readNumber 27 = .ok (.aload_n 0, 1) := by decide +kernel
theorem dX8_readNumber_28 : decode cX8_readNumber 28 = .ok (.getfield 41, 3) := by decide +kernel
theorem dX8_readNumber_31 : decode cX8_readNumber 31 = .ok (.iload_n 1, 1) := by decide +kernel
theorem dX8_readNumber_32 : decode cX8_readNumber 32 = .ok (.aload_n 0, 1) := by decide +kernel
theorem dX8_readNumber_33 : decode cX8_readNumber 33 = .ok (.getfield 95, 3) := by decide +kernel
theorem dX8_readNumber_36 : decode cX8_readNumber 36 = .ok (.iastore, 1) := by decide +kernel
theorem dX8_readNumber_37 : decode cX8_readNumber 37 = .ok (.aload_n 0, 1) := by decide +kernel
theorem dX8_readNumber_38 : decode cX8_readNumber 38 = .ok (.invokevirtual 112, 3) := by decide +kernel
theorem dX8_readNumber_41 : decode cX8_readNumber 41 = .ok (.aload_n 0, 1) := by decide +kernel
theorem dX8_readNumber_42 : decode cX8_readNumber 42 = .ok (.iconst 3, 1) := by decide +kernel
theorem dX8_readNumber_43 : decode cX8_readNumber 43 = .ok (.iload 4, 2) := by decide +kernel
theorem dX8_readNumber_45 : decode cX8_readNumber 45 = .ok (.invokevirtual 115, 3) := by decide +kernel
theorem dX8_readNumber_48 : decode cX8_readNumber 48 = .ok (.ifCond .ne 5, 3) := by decide +kernel
theorem dX8_readNumber_51 : decode cX8_readNumber 51 = .ok (.iconst 1, 1) := by decide +kernel
theorem dX8_readNumber_52 : decode cX8_readNumber 52 = .ok (.ireturn, 1) := by decide +kernel
theorem dX8_readNumber_53 : decode cX8_readNumber 53 = .ok (.aload_n 0, 1) := by decide +kernel
theorem dX8_readNumber_54 : decode cX8_readNumber 54 = .ok (.invokevirtual 112, 3) := by decide +kernel
theorem dX8_readNumber_57 : decode cX8_readNumber 57 = .ok (.iconst 0, 1) := by decide +kernel
theorem dX8_readNumber_58 : decode cX8_readNumber 58 = .ok (.ireturn, 1) := by decide +kernel
set_option maxRecDepth 20000 in
theorem ggX8_readLaw_X8_isByte : GoodIn wsX8_readLaw wsX8_isByte := goodIn_r _ [5, 6, 7, 8, 35, 36, 37, 38, 39, 40, 41, 42, 43, 44, 45, 46, 47, 48, 49, 50, 51, 52, 53, 54, 55, 56, 57, 58] (by decide +kernel) (by decide +kernel)
set_option maxRecDepth 20000 in
theorem gX8_readLaw_X8_isByte : GoodIn wsX8_readLaw (wsV RX8 115 RX8 yX8_isByte wsX8_isByte) := goodIn_app (goodIn_of _ (by decide +kernel)) ggX8_readLaw_X8_isByte
set_option maxRecDepth 20000 in
theorem ggX8_readLaw_X8_goOn : GoodIn wsX8_readLaw wsX8_goOn := goodIn_r _ [12, 8, 13, 14, 15, 16, 4, 17, 18, 6, 19, 7, 20, 21, 22, 23, 24, 25, 26, 27, 28, 29, 35, 36, 37, 38, 39, 40, 41, 42, 43, 44, 45, 46, 47, 48, 49, 50, 51, 52, 53, 54, 55, 56, 57, 58] (by decide +kernel) (by decide +kernel)
set_option maxRecDepth 20000 in
theorem gX8_readLaw_X8_goOn : GoodIn wsX8_readLaw (wsV RX8 112 RX8 yX8_goOn wsX8_goOn) := goodIn_app (goodIn_of _ (by decide +kernel)) ggX8_readLaw_X8_goOn
set_option maxRecDepth 20000 in
theorem ggX8_readLaw_X8_readNumber : GoodIn wsX8_readLaw wsX8_readNumber := goodIn_r _ [33, 6, 18, 34, 22, 23, 4, 24, 9, 10, 11, 12, 8, 13, 14, 15, 16, 17, 19, 7, 20, 21, 25, 26, 27, 28, 29, 1, 2, 3, 5, 35, 36, 37, 38, 39, 40, 41, 42, 43, 44, 45, 46, 47, 48, 49, 50, 51, 52, 53, 54, 55, 56, 57, 58] (by decide +kernel) (by decide +kernel)
set_option maxRecDepth 20000 in
theorem gX8_readLaw_X8_readNumber : GoodIn wsX8_readLaw (wsV RX8 119 RX8 yX8_readNumber wsX8_readNumber) := goodIn_app (goodIn_of _ (by decide +kernel)) ggX8_readLaw_X8_readNumber
theorem dX8_readLaw_0 : decode cX8_readLaw 0 = .ok (.aload_n 0, 1) := by decide +kernel
theorem dX8_readLaw_1 : decode cX8_readLaw 1 = .ok (.iconst 1, 1) := by decide +kernel
theorem dX8_readLaw_2 : decode cX8_readLaw 2 = .ok (.bipush 103, 2) := by decide +kernel
theorem dX8_readLaw_4 : decode cX8_readLaw 4 = .ok (.invokevirtual 115, 3) := by decide +kernel
theorem dX8_readLaw_7 : decode cX8_readLaw 7 = .ok (.ifCond .ne 5, 3) := by decide +kernel
theorem dX8_readLaw_10 : decode cX8_readLaw 10 = .ok (.iconst 1, 1) := by decide +kernel
theorem dX8_readLaw_11 : decode cX8_readLaw 11 = .ok (.ireturn, 1) := by decide +kernel
theorem dX8_readLaw_12 : decode cX8_readLaw 12 = .ok (.aload_n 0, 1) := by decide +kernel
theorem dX8_readLaw_13 : decode cX8_readLaw 13 = .ok (.invokevirtual 112, 3) := by decide +kernel
theorem dX8_readLaw_16 : decode cX8_readLaw 16 = .ok (.aload_n 0, 1) := by decide +kernel
theorem dX8_readLaw_17 : decode cX8_readLaw 17 = .ok (.bipush 16, 2) := by decide +kernel
theorem dX8_readLaw_19 : decode cX8_readLaw 19 = .ok (.iconst 0, 1) := by decide +kernel
theorem dX8_readLaw_20 : decode cX8_readLaw 20 = .ok (.bipush 9, 2) := by decide +kernel
theorem dX8_readLaw_22 : decode cX8_readLaw 22 = .ok (.bipush 44, 2) := by decide +kernel
theorem dX8_readLaw_24 : decode cX8_readLaw 24 = .ok (.invokevirtual 119, 3) := by decide +kernel
theorem dX8_readLaw_27 : decode cX8_readLaw 27 = .ok (.istore_n 1, 1) := by decide +kernel
theorem dX8_readLaw_28 : decode cX8_readLaw 28 = .ok (.iload_n 1, 1) := by decide +kernel
theorem dX8_readLaw_29 : decode cX8_readLaw 29 = .ok (.ifCond .ne 17, 3) := by decide +kernel
theorem dX8_readLaw_32 : decode cX8_readLaw 32 = .ok (.aload_n 0, 1) := by decide +kernel
theorem dX8_readLaw_33 : decode cX8_readLaw 33 = .ok (.bipush 17, 2) := by decide +kernel
theorem dX8_readLaw_35 : decode cX8_readLaw 35 = .ok (.iconst 0, 1) := by decide +kernel
theorem dX8_readLaw_36 : decode cX8_readLaw 36 = .ok (.bipush 9, 2) := by decide +kernel
theorem dX8_readLaw_38 : decode cX8_readLaw 38 = .ok (.bipush 44, 2) := by decide +kernel
theorem dX8_readLaw_40 : decode cX8_readLaw 40 = .ok (.invokevirtual 119, 3) := by decide +kernel
theorem dX8_readLaw_43 : decode cX8_readLaw 43 = .ok (.goto 4, 3) := by decide +kernel
theorem dX8_readLaw_46 : decode cX8_readLaw 46 = .ok (.iload_n 1, 1) := by decide +kernel
theorem dX8_readLaw_47 : decode cX8_readLaw 47 = .ok (.istore_n 1, 1) := by decide +kernel
theorem dX8_readLaw_48 : decode cX8_readLaw 48 = .ok (.iload_n 1, 1) := by decide +kernel
theorem dX8_readLaw_49 : decode cX8_readLaw 49 = .ok (.ifCond .ne 17, 3) := by decide +kernel
theorem dX8_readLaw_52 : decode cX8_readLaw 52 = .ok (.aload_n 0, 1) := by decide +kernel
theorem dX8_readLaw_53 : decode cX8_readLaw 53 = .ok (.bipush 18, 2) := by decide +kernel
theorem dX8_readLaw_55 : decode cX8_readLaw 55 = .ok (.iconst 1, 1) := by decide +kernel
theorem dX8_readLaw_56 : decode cX8_readLaw 56 = .ok (.bipush 9, 2) := by decide +kernel
theorem dX8_readLaw_58 : decode cX8_readLaw 58 = .ok (.bipush 59, 2) := by decide +kernel
theorem dX8_readLaw_60 : decode cX8_readLaw 60 = .ok (.invokevirtual 119, 3) := by decide +kernel
theorem dX8_readLaw_63 : decode cX8_readLaw 63 = .ok (.goto 4, 3) := by decide +kernel
theorem dX8_readLaw_66 : decode cX8_readLaw 66 = .ok (.iload_n 1, 1) := by decide +kernel
theorem dX8_readLaw_67 : decode cX8_readLaw 67 = .ok (.ireturn, 1) := by decide +kernel
set_option maxRecDepth 20000 in
theorem ggX8_readToy_X8_sortBy : GoodIn wsX8_readToy wsX8_sortBy := goodIn_r _ [9] (by decide +kernel) (by decide +kernel)
set_option maxRecDepth 20000 in
theorem gX8_readToy_X8_sortBy : GoodIn wsX8_readToy (wsV RX8 123 RX8 yX8_sortBy wsX8_sortBy) := goodIn_app (goodIn_of _ (by decide +kernel)) ggX8_readToy_X8_sortBy
set_option maxRecDepth 20000 in
theorem ggX8_readToy_X8_goOn : GoodIn wsX8_readToy wsX8_goOn := goodIn_r _ [13, 4, 14, 15, 16, 17, 8, 18, 19, 2, 20, 3, 21, 22, 23, 24, 25, 26, 27, 28, 29, 30, 39, 40, 41, 42, 43, 44, 45, 46, 47, 48, 49, 50, 51, 52, 53, 54, 55, 56, 57, 58, 59, 60, 61, 62] (by decide +kernel) (by decide +kernel)
set_option maxRecDepth 20000 in
theorem gX8_readToy_X8_goOn : GoodIn wsX8_readToy (wsV RX8 112 RX8 yX8_goOn wsX8_goOn) := goodIn_app (goodIn_of _ (by decide +kernel)) ggX8_readToy_X8_goOn
set_option maxRecDepth 20000 in
theorem ggX8_readToy_X8_readNumber : GoodIn wsX8_readToy wsX8_readNumber := goodIn_r _ [34, 2, 19, 1, 23, 24, 8, 25, 10, 11, 12, 13, 4, 14, 15, 16, 17, 18, 20, 3, 21, 22, 26, 27, 28, 29, 30, 35, 36, 37, 38, 39, 40, 41, 42, 43, 44, 45, 46, 47, 48, 49, 50, 51, 52, 53, 54, 55, 56, 57, 58, 59, 60, 61, 62] (by decide +kernel) (by decide +kernel)
set_option maxRecDepth 20000 in
theorem gX8_readToy_X8_readNumber : GoodIn wsX8_readToy (wsV RX8 119 RX8 yX8_readNumber wsX8_readNumber) := goodIn_app (goodIn_of _ (by decide +kernel)) ggX8_readToy_X8_readNumber
theorem dX8_readToy_0 : decode cX8_readToy 0 = .ok (.aload_n 0, 1) := by decide +kernel
theorem dX8_readToy_1 : decode cX8_readToy 1 = .ok (.getfield 41, 3) := by decide +kernel
theorem dX8_readToy_4 : decode cX8_readToy 4 = .ok (.iconst 0, 1) := by decide +kernel
theorem dX8_readToy_5 : decode cX8_readToy 5 = .ok (.iaload, 1) := by decide +kernel
theorem dX8_readToy_6 : decode cX8_readToy 6 = .ok (.istore_n 1, 1) := by decide +kernel
theorem dX8_readToy_7 : decode cX8_readToy 7 = .ok (.aload_n 0, 1) := by decide +kernel
theorem dX8_readToy_8 : decode cX8_readToy 8 = .ok (.getfield 98, 3) := by decide +kernel
theorem dX8_readToy_11 : decode cX8_readToy 11 = .ok (.iconst 1, 1) := by decide +kernel
theorem dX8_readToy_12 : decode cX8_readToy 12 = .ok (.if_icmp .ne 19, 3) := by decide +kernel
theorem dX8_readToy_15 : decode cX8_readToy 15 = .ok (.aload_n 0, 1) := by decide +kernel
theorem dX8_readToy_16 : decode cX8_readToy 16 = .ok (.aload_n 0, 1) := by decide +kernel
theorem dX8_readToy_17 : decode cX8_readToy 17 = .ok (.getfield 38, 3) := by decide +kernel
theorem dX8_readToy_20 : decode cX8_readToy 20 = .ok (.aload_n 0, 1) := by decide +kernel
theorem dX8_readToy_21 : decode cX8_readToy 21 = .ok (.getfield 89, 3) := by decide +kernel
theorem dX8_readToy_24 : decode cX8_readToy 24 = .ok (.iaload, 1) := by decide +kernel
theorem dX8_readToy_25 : decode cX8_readToy 25 = .ok (.invokevirtual 123, 3) := by decide +kernel
theorem dX8_readToy_28 : decode cX8_readToy 28 = .ok (.goto 4, 3) := by decide +kernel
theorem dX8_readToy_31 : decode cX8_readToy 31 = .ok (.iconst 0, 1) := by decide +kernel
theorem dX8_readToy_32 : decode cX8_readToy 32 = .ok (.istore_n 2, 1) := by decide +kernel
theorem dX8_readToy_33 : decode cX8_readToy 33 = .ok (.iload_n 2, 1) := by decide +kernel
theorem dX8_readToy_34 : decode cX8_readToy 34 = .ok (.ifCond .ne 5, 3) := by decide +kernel
theorem dX8_readToy_37 : decode cX8_readToy 37 = .ok (.iconst 1, 1) := by decide +kernel
theorem dX8_readToy_38 : decode cX8_readToy 38 = .ok (.ireturn, 1) := by decide +kernel
theorem dX8_readToy_39 : decode cX8_readToy 39 = .ok (.iload_n 1, 1) := by decide +kernel
theorem dX8_readToy_40 : decode cX8_readToy 40 = .ok (.bipush 7, 2) := by decide +kernel
theorem dX8_readToy_42 : decode cX8_readToy 42 = .ok (.if_icmp .ne 5, 3) := by decide +kernel
theorem dX8_readToy_45 : decode cX8_readToy 45 = .ok (.iconst 3, 1) := by decide +kernel
theorem dX8_readToy_46 : decode cX8_readToy 46 = .ok (.ireturn, 1) := by decide +kernel
theorem dX8_readToy_47 : decode cX8_readToy 47 = .ok (.aload_n 0, 1) := by decide +kernel
theorem dX8_readToy_48 : decode cX8_readToy 48 = .ok (.getfield 41, 3) := by decide +kernel
theorem dX8_readToy_51 : decode cX8_readToy 51 = .ok (.iconst 1, 1) := by decide +kernel
theorem dX8_readToy_52 : decode cX8_readToy 52 = .ok (.iload_n 1, 1) := by decide +kernel
theorem dX8_readToy_53 : decode cX8_readToy 53 = .ok (.iadd, 1) := by decide +kernel
theorem dX8_readToy_54 : decode cX8_readToy 54 = .ok (.iload_n 2, 1) := by decide +kernel
theorem dX8_readToy_55 : decode cX8_readToy 55 = .ok (.iastore, 1) := by decide +kernel
theorem dX8_readToy_56 : decode cX8_readToy 56 = .ok (.aload_n 0, 1) := by decide +kernel
theorem dX8_readToy_57 : decode cX8_readToy 57 = .ok (.invokevirtual 112, 3) := by decide +kernel
theorem dX8_readToy_60 : decode cX8_readToy 60 = .ok (.aload_n 0, 1) := by decide +kernel
theorem dX8_readToy_61 : decode cX8_readToy 61 = .ok (.bipush 8, 2) := by decide +kernel
theorem dX8_readToy_63 : decode cX8_readToy 63 = .ok (.iload_n 1, 1) := by decide +kernel
theorem dX8_readToy_64 : decode cX8_readToy 64 = .ok (.iadd, 1) := by decide +kernel
theorem dX8_readToy_65 : decode cX8_readToy 65 = .ok (.iconst 1, 1) := by decide +kernel
theorem dX8_readToy_66 : decode cX8_readToy 66 = .ok (.bipush 9, 2) := by decide +kernel
theorem dX8_readToy_68 : decode cX8_readToy 68 = .ok (.bipush 44, 2) := by decide +kernel
theorem dX8_readToy_70 : decode cX8_readToy 70 = .ok (.invokevirtual 119, 3) := by decide +kernel
theorem dX8_readToy_73 : decode cX8_readToy 73 = .ok (.istore_n 3, 1) := by decide +kernel
theorem dX8_readToy_74 : decode cX8_readToy 74 = .ok (.iload_n 3, 1) := by decide +kernel
theorem dX8_readToy_75 : decode cX8_readToy 75 = .ok (.ifCond .ne 18, 3) := by decide +kernel
theorem dX8_readToy_78 : decode cX8_readToy 78 = .ok (.aload_n 0, 1) := by decide +kernel
theorem dX8_readToy_79 : decode cX8_readToy 79 = .ok (.bipush 19, 2) := by decide +kernel
theorem dX8_readToy_81 : decode cX8_readToy 81 = .ok (.iload_n 1, 1) := by decide +kernel
theorem dX8_readToy_82 : decode cX8_readToy 82 = .ok (.iadd, 1) := by decide +kernel
theorem dX8_readToy_83 : decode cX8_readToy 83 = .ok (.iconst 1, 1) := by decide +kernel
theorem dX8_readToy_84 : decode cX8_readToy 84 = .ok (.iconst 5, 1) := by decide +kernel
theorem dX8_readToy_85 : decode cX8_readToy 85 = .ok (.bipush 59, 2) := by decide +kernel
theorem dX8_readToy_87 : decode cX8_readToy 87 = .ok (.invokevirtual 119, 3) := by decide +kernel
theorem dX8_readToy_90 : decode cX8_readToy 90 = .ok (.goto 4, 3) := by decide +kernel
theorem dX8_readToy_93 : decode cX8_readToy 93 = .ok (.iload_n 3, 1) := by decide +kernel
theorem dX8_readToy_94 : decode cX8_readToy 94 = .ok (.istore_n 3, 1) := by decide +kernel
theorem dX8_readToy_95 : decode cX8_readToy 95 = .ok (.iload_n 3, 1) := by decide +kernel
theorem dX8_readToy_96 : decode cX8_readToy 96 = .ok (.ifCond .ne 74, 3) := by decide +kernel
theorem dX8_readToy_99 : decode cX8_readToy 99 = .ok (.iconst 0, 1) := by decide +kernel
theorem dX8_readToy_100 : decode cX8_readToy 100 = .ok (.istore 4, 2) := by decide +kernel
theorem dX8_readToy_102 : decode cX8_readToy 102 = .ok (.iconst 0, 1) := by decide +kernel
theorem dX8_readToy_103 : decode cX8_readToy 103 = .ok (.istore 5, 2) := by decide +kernel
theorem dX8_readToy_105 : decode cX8_readToy 105 = .ok (.iload 5, 2) := by decide +kernel
theorem dX8_readToy_107 : decode cX8_readToy 107 = .ok (.iload_n 1, 1) := by decide +kernel
theorem dX8_readToy_108 : decode cX8_readToy 108 = .ok (.if_icmp .ge 41, 3) := by decide +kernel
theorem dX8_readToy_111 : decode cX8_readToy 111 = .ok (.iload 4, 2) := by decide +kernel
theorem dX8_readToy_113 : decode cX8_readToy 113 = .ok (.aload_n 0, 1) := by decide +kernel
theorem dX8_readToy_114 : decode cX8_readToy 114 = .ok (.getfield 41, 3) := by decide +kernel
theorem dX8_readToy_117 : decode cX8_readToy 117 = .ok (.bipush 19, 2) := by decide +kernel
theorem dX8_readToy_119 : decode cX8_readToy 119 = .ok (.iload 5, 2) := by decide +kernel
theorem dX8_readToy_121 : decode cX8_readToy 121 = .ok (.iadd, 1) := by decide +kernel
theorem dX8_readToy_122 : decode cX8_readToy 122 = .ok (.iaload, 1) := by decide +kernel
theorem dX8_readToy_123 : decode cX8_readToy 123 = .ok (.aload_n 0, 1) := by decide +kernel
theorem dX8_readToy_124 : decode cX8_readToy 124 = .ok (.getfield 41, 3) := by decide +kernel
theorem dX8_readToy_127 : decode cX8_readToy 127 = .ok (.bipush 19, 2) := by decide +kernel
theorem dX8_readToy_129 : decode cX8_readToy 129 = .ok (.iload_n 1, 1) := by decide +kernel
theorem dX8_readToy_130 : decode cX8_readToy 130 = .ok (.iadd, 1) := by decide +kernel
theorem dX8_readToy_131 : decode cX8_readToy 131 = .ok (.iaload, 1) := by decide +kernel
theorem dX8_readToy_132 : decode cX8_readToy 132 = .ok (.if_icmp .ne 7, 3) := by decide +kernel
theorem dX8_readToy_135 : decode cX8_readToy 135 = .ok (.iconst 1, 1) := by decide +kernel
theorem dX8_readToy_136 : decode cX8_readToy 136 = .ok (.goto 4, 3) := by decide +kernel
theorem dX8_readToy_139 : decode cX8_readToy 139 = .ok (.iconst 0, 1) := by decide +kernel
theorem dX8_readToy_140 : decode cX8_readToy 140 = .ok (.iadd, 1) := by decide +kernel
theorem dX8_readToy_141 : decode cX8_readToy 141 = .ok (.istore 4, 2) := by decide +kernel
theorem dX8_readToy_143 : decode cX8_readToy 143 = .ok (.iinc 5 1, 3) := by decide +kernel
theorem dX8_readToy_146 : decode cX8_readToy 146 = .ok (.goto (-41), 3) := by decide +kernel
theorem dX8_readToy_149 : decode cX8_readToy 149 = .ok (.aload_n 0, 1) := by decide +kernel
theorem dX8_readToy_150 : decode cX8_readToy 150 = .ok (.getfield 41, 3) := by decide +kernel
theorem dX8_readToy_153 : decode cX8_readToy 153 = .ok (.bipush 26, 2) := by decide +kernel
theorem dX8_readToy_155 : decode cX8_readToy 155 = .ok (.iload_n 1, 1) := by decide +kernel
theorem dX8_readToy_156 : decode cX8_readToy 156 = .ok (.iadd, 1) := by decide +kernel
theorem dX8_readToy_157 : decode cX8_readToy 157 = .ok (.iload 4, 2) := by decide +kernel
theorem dX8_readToy_159 : decode cX8_readToy 159 = .ok (.iastore, 1) := by decide +kernel
theorem dX8_readToy_160 : decode cX8_readToy 160 = .ok (.aload_n 0, 1) := by decide +kernel
theorem dX8_readToy_161 : decode cX8_readToy 161 = .ok (.getfield 41, 3) := by decide +kernel
theorem dX8_readToy_164 : decode cX8_readToy 164 = .ok (.iconst 0, 1) := by decide +kernel
theorem dX8_readToy_165 : decode cX8_readToy 165 = .ok (.dup2, 1) := by decide +kernel
theorem dX8_readToy_166 : decode cX8_readToy 166 = .ok (.iaload, 1) := by decide +kernel
theorem dX8_readToy_167 : decode cX8_readToy 167 = .ok (.iconst 1, 1) := by decide +kernel
theorem dX8_readToy_168 : decode cX8_readToy 168 = .ok (.iadd, 1) := by decide +kernel
theorem dX8_readToy_169 : decode cX8_readToy 169 = .ok (.iastore, 1) := by decide +kernel
theorem dX8_readToy_170 : decode cX8_readToy 170 = .ok (.iload_n 3, 1) := by decide +kernel
theorem dX8_readToy_171 : decode cX8_readToy 171 = .ok (.ireturn, 1) := by decide +kernel
set_option maxRecDepth 20000 in
theorem ggX8_glass_X8_look : GoodIn wsX8_glass wsX8_look := goodIn_r _ [13, 6, 14, 15, 2, 3, 16, 17, 18, 19, 20, 12, 21, 22, 23, 24, 25, 26, 51, 52, 53, 54, 55, 56, 57, 58, 59, 60, 61, 62, 63, 64, 65, 66, 67, 68, 69, 70, 71, 72, 73, 74] (by decide +kernel) (by decide +kernel)
set_option maxRecDepth 20000 in
theorem gX8_glass_X8_look : GoodIn wsX8_glass (wsV RX8 108 RX8 yX8_look wsX8_look) := goodIn_app (goodIn_of _ (by decide +kernel)) ggX8_glass_X8_look
set_option maxRecDepth 20000 in
theorem ggX8_glass_X8_readLaw : GoodIn wsX8_glass wsX8_readLaw := goodIn_r _ [30, 31, 32, 33, 12, 34, 2, 16, 6, 35, 36, 37, 38, 14, 9, 10, 11, 13, 15, 3, 17, 18, 19, 20, 21, 22, 23, 24, 25, 26, 39, 40, 41, 42, 1, 51, 52, 53, 54, 55, 56, 57, 58, 59, 60, 61, 62, 63, 64, 65, 66, 67, 68, 69, 70, 71, 72, 73, 74] (by decide +kernel) (by decide +kernel)
set_option maxRecDepth 20000 in
theorem gX8_glass_X8_readLaw : GoodIn wsX8_glass (wsV RX8 126 RX8 yX8_readLaw wsX8_readLaw) := goodIn_app (goodIn_of _ (by decide +kernel)) ggX8_glass_X8_readLaw
set_option maxRecDepth 20000 in
theorem ggX8_glass_X8_readToy : GoodIn wsX8_glass wsX8_readToy := goodIn_r _ [46, 1, 2, 16, 6, 47, 48, 49, 12, 50, 35, 36, 37, 38, 14, 9, 10, 11, 13, 15, 3, 17, 18, 19, 20, 21, 22, 23, 24, 25, 26, 39, 40, 41, 42, 31, 32, 33, 34, 51, 52, 53, 54, 55, 56, 57, 58, 59, 60, 61, 62, 63, 64, 65, 66, 67, 68, 69, 70, 71, 72, 73, 74] (by decide +kernel) (by decide +kernel)
set_option maxRecDepth 20000 in
theorem gX8_glass_X8_readToy : GoodIn wsX8_glass (wsV RX8 130 RX8 yX8_readToy wsX8_readToy) := goodIn_app (goodIn_of _ (by decide +kernel)) ggX8_glass_X8_readToy
theorem dX8_glass_0 : decode cX8_glass 0 = .ok (.iconst 0, 1) := by decide +kernel
theorem dX8_glass_1 : decode cX8_glass 1 = .ok (.istore_n 1, 1) := by decide +kernel
theorem dX8_glass_2 : decode cX8_glass 2 = .ok (.iload_n 1, 1) := by decide +kernel
theorem dX8_glass_3 : decode cX8_glass 3 = .ok (.bipush 33, 2) := by decide +kernel
theorem dX8_glass_5 : decode cX8_glass 5 = .ok (.if_icmp .ge 16, 3) := by decide +kernel
theorem dX8_glass_8 : decode cX8_glass 8 = .ok (.aload_n 0, 1) := by decide +kernel
theorem dX8_glass_9 : decode cX8_glass 9 = .ok (.getfield 41, 3) := by decide +kernel
theorem dX8_glass_12 : decode cX8_glass 12 = .ok (.iload_n 1, 1) := by decide +kernel
theorem dX8_glass_13 : decode cX8_glass 13 = .ok (.iconst 0, 1) := by decide +kernel
theorem dX8_glass_14 : decode cX8_glass 14 = .ok (.iastore, 1) := by decide +kernel
theorem dX8_glass_15 : decode cX8_glass 15 = .ok (.iinc 1 1, 3) := by decide +kernel
theorem dX8_glass_18 : decode cX8_glass 18 = .ok (.goto (-16), 3) := by decide +kernel
theorem dX8_glass_21 : decode cX8_glass 21 = .ok (.aload_n 0, 1) := by decide +kernel
theorem dX8_glass_22 : decode cX8_glass 22 = .ok (.iconst 0, 1) := by decide +kernel
theorem dX8_glass_23 : decode cX8_glass 23 = .ok (.invokevirtual 108, 3) := by decide +kernel
theorem dX8_glass_26 : decode cX8_glass 26 = .ok (.aload_n 0, 1) := by decide +kernel
theorem dX8_glass_27 : decode cX8_glass 27 = .ok (.invokevirtual 126, 3) := by decide +kernel
theorem dX8_glass_30 : decode cX8_glass 30 = .ok (.istore_n 1, 1) := by decide +kernel
theorem dX8_glass_31 : decode cX8_glass 31 = .ok (.iload_n 1, 1) := by decide +kernel
theorem dX8_glass_32 : decode cX8_glass 32 = .ok (.ifCond .ne 27, 3) := by decide +kernel
theorem dX8_glass_35 : decode cX8_glass 35 = .ok (.aload_n 0, 1) := by decide +kernel
theorem dX8_glass_36 : decode cX8_glass 36 = .ok (.getfield 98, 3) := by decide +kernel
theorem dX8_glass_39 : decode cX8_glass 39 = .ok (.ifCond .ne 12, 3) := by decide +kernel
theorem dX8_glass_42 : decode cX8_glass 42 = .ok (.aload_n 0, 1) := by decide +kernel
theorem dX8_glass_43 : decode cX8_glass 43 = .ok (.getfield 41, 3) := by decide +kernel
theorem dX8_glass_46 : decode cX8_glass 46 = .ok (.iconst 0, 1) := by decide +kernel
theorem dX8_glass_47 : decode cX8_glass 47 = .ok (.iaload, 1) := by decide +kernel
theorem dX8_glass_48 : decode cX8_glass 48 = .ok (.ifCond .ne 11, 3) := by decide +kernel
theorem dX8_glass_51 : decode cX8_glass 51 = .ok (.aload_n 0, 1) := by decide +kernel
theorem dX8_glass_52 : decode cX8_glass 52 = .ok (.invokevirtual 130, 3) := by decide +kernel
theorem dX8_glass_55 : decode cX8_glass 55 = .ok (.istore_n 1, 1) := by decide +kernel
theorem dX8_glass_56 : decode cX8_glass 56 = .ok (.goto (-25), 3) := by decide +kernel
theorem dX8_glass_59 : decode cX8_glass 59 = .ok (.aload_n 0, 1) := by decide +kernel
theorem dX8_glass_60 : decode cX8_glass 60 = .ok (.iconst 0, 1) := by decide +kernel
theorem dX8_glass_61 : decode cX8_glass 61 = .ok (.putfield 81, 3) := by decide +kernel
theorem dX8_glass_64 : decode cX8_glass 64 = .ok (.iload_n 1, 1) := by decide +kernel
theorem dX8_glass_65 : decode cX8_glass 65 = .ok (.ifCond .eq 16, 3) := by decide +kernel
theorem dX8_glass_68 : decode cX8_glass 68 = .ok (.aload_n 0, 1) := by decide +kernel
theorem dX8_glass_69 : decode cX8_glass 69 = .ok (.iload_n 1, 1) := by decide +kernel
theorem dX8_glass_70 : decode cX8_glass 70 = .ok (.putfield 133, 3) := by decide +kernel
theorem dX8_glass_73 : decode cX8_glass 73 = .ok (.ldc 136, 2) := by decide +kernel
theorem dX8_glass_75 : decode cX8_glass 75 = .ok (.aload_n 0, 1) := by decide +kernel
theorem dX8_glass_76 : decode cX8_glass 76 = .ok (.getfield 89, 3) := by decide +kernel
theorem dX8_glass_79 : decode cX8_glass 79 = .ok (.isub, 1) := by decide +kernel
theorem dX8_glass_80 : decode cX8_glass 80 = .ok (.ireturn, 1) := by decide +kernel
theorem dX8_glass_81 : decode cX8_glass 81 = .ok (.iconst 0, 1) := by decide +kernel
theorem dX8_glass_82 : decode cX8_glass 82 = .ok (.istore_n 2, 1) := by decide +kernel
theorem dX8_glass_83 : decode cX8_glass 83 = .ok (.iload_n 2, 1) := by decide +kernel
theorem dX8_glass_84 : decode cX8_glass 84 = .ok (.bipush 33, 2) := by decide +kernel
theorem dX8_glass_86 : decode cX8_glass 86 = .ok (.if_icmp .ge 21, 3) := by decide +kernel
theorem dX8_glass_89 : decode cX8_glass 89 = .ok (.aload_n 0, 1) := by decide +kernel
theorem dX8_glass_90 : decode cX8_glass 90 = .ok (.getfield 7, 3) := by decide +kernel
theorem dX8_glass_93 : decode cX8_glass 93 = .ok (.iload_n 2, 1) := by decide +kernel
theorem dX8_glass_94 : decode cX8_glass 94 = .ok (.aload_n 0, 1) := by decide +kernel
theorem dX8_glass_95 : decode cX8_glass 95 = .ok (.getfield 41, 3) := by decide +kernel
theorem dX8_glass_98 : decode cX8_glass 98 = .ok (.iload_n 2, 1) := by decide +kernel
theorem dX8_glass_99 : decode cX8_glass 99 = .ok (.iaload, 1) := by decide +kernel
theorem dX8_glass_100 : decode cX8_glass 100 = .ok (.iastore, 1) := by decide +kernel
theorem dX8_glass_101 : decode cX8_glass 101 = .ok (.iinc 2 1, 3) := by decide +kernel
theorem dX8_glass_104 : decode cX8_glass 104 = .ok (.goto (-21), 3) := by decide +kernel
theorem dX8_glass_107 : decode cX8_glass 107 = .ok (.aload_n 0, 1) := by decide +kernel
theorem dX8_glass_108 : decode cX8_glass 108 = .ok (.iconst 0, 1) := by decide +kernel
theorem dX8_glass_109 : decode cX8_glass 109 = .ok (.putfield 137, 3) := by decide +kernel
theorem dX8_glass_112 : decode cX8_glass 112 = .ok (.aload_n 0, 1) := by decide +kernel
theorem dX8_glass_113 : decode cX8_glass 113 = .ok (.getfield 7, 3) := by decide +kernel
theorem dX8_glass_116 : decode cX8_glass 116 = .ok (.iconst 0, 1) := by decide +kernel
theorem dX8_glass_117 : decode cX8_glass 117 = .ok (.iaload, 1) := by decide +kernel
theorem dX8_glass_118 : decode cX8_glass 118 = .ok (.ireturn, 1) := by decide +kernel
theorem dX8_fault_0 : decode cX8_fault 0 = .ok (.aload_n 0, 1) := by decide +kernel
theorem dX8_fault_1 : decode cX8_fault 1 = .ok (.getfield 133, 3) := by decide +kernel
theorem dX8_fault_4 : decode cX8_fault 4 = .ok (.ireturn, 1) := by decide +kernel
theorem dX8_toys_0 : decode cX8_toys 0 = .ok (.aload_n 0, 1) := by decide +kernel
theorem dX8_toys_1 : decode cX8_toys 1 = .ok (.getfield 7, 3) := by decide +kernel
theorem dX8_toys_4 : decode cX8_toys 4 = .ok (.iconst 0, 1) := by decide +kernel
theorem dX8_toys_5 : decode cX8_toys 5 = .ok (.iaload, 1) := by decide +kernel
theorem dX8_toys_6 : decode cX8_toys 6 = .ok (.ireturn, 1) := by decide +kernel
set_option maxRecDepth 20000 in
theorem ggX8_isToy_X8_toys : GoodIn wsX8_isToy wsX8_toys := goodIn_r _ [5, 6, 10, 11, 12, 13, 14, 15, 16, 17, 18, 19, 20, 21, 22, 23, 24, 25, 26, 27, 28, 29, 30, 31, 32, 33] (by decide +kernel) (by decide +kernel)
set_option maxRecDepth 20000 in
theorem gX8_isToy_X8_toys : GoodIn wsX8_isToy (wsV RX8 140 RX8 yX8_toys wsX8_toys) := goodIn_app (goodIn_of _ (by decide +kernel)) ggX8_isToy_X8_toys
set_option maxRecDepth 20000 in
theorem ggX8_isToy_X8_in : GoodIn wsX8_isToy wsX8_in := goodIn_r _ [9] (by decide +kernel) (by decide +kernel)
set_option maxRecDepth 20000 in
theorem gX8_isToy_X8_in : GoodIn wsX8_isToy (va_wsS RX8 61 yX8_in wsX8_in) := goodIn_app (goodIn_of _ (by decide +kernel)) ggX8_isToy_X8_in
theorem dX8_isToy_0 : decode cX8_isToy 0 = .ok (.iload_n 1, 1) := by decide +kernel
theorem dX8_isToy_1 : decode cX8_isToy 1 = .ok (.i2l, 1) := by decide +kernel
theorem dX8_isToy_2 : decode cX8_isToy 2 = .ok (.lconst 0, 1) := by decide +kernel
theorem dX8_isToy_3 : decode cX8_isToy 3 = .ok (.aload_n 0, 1) := by decide +kernel
theorem dX8_isToy_4 : decode cX8_isToy 4 = .ok (.invokevirtual 140, 3) := by decide +kernel
theorem dX8_isToy_7 : decode cX8_isToy 7 = .ok (.iconst 1, 1) := by decide +kernel
theorem dX8_isToy_8 : decode cX8_isToy 8 = .ok (.isub, 1) := by decide +kernel
theorem dX8_isToy_9 : decode cX8_isToy 9 = .ok (.i2l, 1) := by decide +kernel
theorem dX8_isToy_10 : decode cX8_isToy 10 = .ok (.invokestatic 61, 3) := by decide +kernel
theorem dX8_isToy_13 : decode cX8_isToy 13 = .ok (.ireturn, 1) := by decide +kernel
set_option maxRecDepth 20000 in
theorem ggX8_isColumn_X8_in : GoodIn wsX8_isColumn wsX8_in := goodIn_r _ [5] (by decide +kernel) (by decide +kernel)
set_option maxRecDepth 20000 in
theorem gX8_isColumn_X8_in : GoodIn wsX8_isColumn (va_wsS RX8 61 yX8_in wsX8_in) := goodIn_app (goodIn_of _ (by decide +kernel)) ggX8_isColumn_X8_in
theorem dX8_isColumn_0 : decode cX8_isColumn 0 = .ok (.iload_n 0, 1) := by decide +kernel
theorem dX8_isColumn_1 : decode cX8_isColumn 1 = .ok (.i2l, 1) := by decide +kernel
theorem dX8_isColumn_2 : decode cX8_isColumn 2 = .ok (.lconst 1, 1) := by decide +kernel
theorem dX8_isColumn_3 : decode cX8_isColumn 3 = .ok (.ldc2_w 143, 3) := by decide +kernel
theorem dX8_isColumn_6 : decode cX8_isColumn 6 = .ok (.invokestatic 61, 3) := by decide +kernel
theorem dX8_isColumn_9 : decode cX8_isColumn 9 = .ok (.ireturn, 1) := by decide +kernel
theorem dX8_lyingIn_0 : decode cX8_lyingIn 0 = .ok (.iconst 0, 1) := by decide +kernel
theorem dX8_lyingIn_1 : decode cX8_lyingIn 1 = .ok (.istore_n 2, 1) := by decide +kernel
theorem dX8_lyingIn_2 : decode cX8_lyingIn 2 = .ok (.iconst 0, 1) := by decide +kernel
theorem dX8_lyingIn_3 : decode cX8_lyingIn 3 = .ok (.istore_n 3, 1) := by decide +kernel
theorem dX8_lyingIn_4 : decode cX8_lyingIn 4 = .ok (.iload_n 3, 1) := by decide +kernel
theorem dX8_lyingIn_5 : decode cX8_lyingIn 5 = .ok (.aload_n 0, 1) := by decide +kernel
theorem dX8_lyingIn_6 : decode cX8_lyingIn 6 = .ok (.iconst 0, 1) := by decide +kernel
theorem dX8_lyingIn_7 : decode cX8_lyingIn 7 = .ok (.iaload, 1) := by decide +kernel
theorem dX8_lyingIn_8 : decode cX8_lyingIn 8 = .ok (.if_icmp .ge 27, 3) := by decide +kernel
theorem dX8_lyingIn_11 : decode cX8_lyingIn 11 = .ok (.iload_n 2, 1) := by decide +kernel
theorem dX8_lyingIn_12 : decode cX8_lyingIn 12 = .ok (.aload_n 0, 1) := by decide +kernel
theorem dX8_lyingIn_13 : decode cX8_lyingIn 13 = .ok (.bipush 19, 2) := by decide +kernel
theorem dX8_lyingIn_15 : decode cX8_lyingIn 15 = .ok (.iload_n 3, 1) := by decide +kernel
theorem dX8_lyingIn_16 : decode cX8_lyingIn 16 = .ok (.iadd, 1) := by decide +kernel
theorem dX8_lyingIn_17 : decode cX8_lyingIn 17 = .ok (.iaload, 1) := by decide +kernel
theorem dX8_lyingIn_18 : decode cX8_lyingIn 18 = .ok (.iload_n 1, 1) := by decide +kernel
theorem dX8_lyingIn_19 : decode cX8_lyingIn 19 = .ok (.if_icmp .ne 7, 3) := by decide +kernel
theorem dX8_lyingIn_22 : decode cX8_lyingIn 22 = .ok (.iconst 1, 1) := by decide +kernel
theorem dX8_lyingIn_23 : decode cX8_lyingIn 23 = .ok (.goto 4, 3) := by decide +kernel
theorem dX8_lyingIn_26 : decode cX8_lyingIn 26 = .ok (.iconst 0, 1) := by decide +kernel
theorem dX8_lyingIn_27 : decode cX8_lyingIn 27 = .ok (.iadd, 1) := by decide +kernel
theorem dX8_lyingIn_28 : decode cX8_lyingIn 28 = .ok (.istore_n 2, 1) := by decide +kernel
theorem dX8_lyingIn_29 : decode cX8_lyingIn 29 = .ok (.iinc 3 1, 3) := by decide +kernel
theorem dX8_lyingIn_32 : decode cX8_lyingIn 32 = .ok (.goto (-28), 3) := by decide +kernel
theorem dX8_lyingIn_35 : decode cX8_lyingIn 35 = .ok (.iload_n 2, 1) := by decide +kernel
theorem dX8_lyingIn_36 : decode cX8_lyingIn 36 = .ok (.ireturn, 1) := by decide +kernel
theorem dX8_topOf_0 : decode cX8_topOf 0 = .ok (.iconst (-1), 1) := by decide +kernel
theorem dX8_topOf_1 : decode cX8_topOf 1 = .ok (.istore_n 2, 1) := by decide +kernel
theorem dX8_topOf_2 : decode cX8_topOf 2 = .ok (.iconst 0, 1) := by decide +kernel
theorem dX8_topOf_3 : decode cX8_topOf 3 = .ok (.istore_n 3, 1) := by decide +kernel
theorem dX8_topOf_4 : decode cX8_topOf 4 = .ok (.iload_n 3, 1) := by decide +kernel
theorem dX8_topOf_5 : decode cX8_topOf 5 = .ok (.aload_n 0, 1) := by decide +kernel
theorem dX8_topOf_6 : decode cX8_topOf 6 = .ok (.iconst 0, 1) := by decide +kernel
theorem dX8_topOf_7 : decode cX8_topOf 7 = .ok (.iaload, 1) := by decide +kernel
theorem dX8_topOf_8 : decode cX8_topOf 8 = .ok (.if_icmp .ge 40, 3) := by decide +kernel
theorem dX8_topOf_11 : decode cX8_topOf 11 = .ok (.aload_n 0, 1) := by decide +kernel
theorem dX8_topOf_12 : decode cX8_topOf 12 = .ok (.bipush 19, 2) := by decide +kernel
theorem dX8_topOf_14 : decode cX8_topOf 14 = .ok (.iload_n 3, 1) := by decide +kernel
theorem dX8_topOf_15 : decode cX8_topOf 15 = .ok (.iadd, 1) := by decide +kernel
theorem dX8_topOf_16 : decode cX8_topOf 16 = .ok (.iaload, 1) := by decide +kernel
theorem dX8_topOf_17 : decode cX8_topOf 17 = .ok (.iload_n 1, 1) := by decide +kernel
theorem dX8_topOf_18 : decode cX8_topOf 18 = .ok (.if_icmp .ne 24, 3) := by decide +kernel
theorem dX8_topOf_21 : decode cX8_topOf 21 = .ok (.iload_n 2, 1) := by decide +kernel
theorem dX8_topOf_22 : decode cX8_topOf 22 = .ok (.ifCond .lt 18, 3) := by decide +kernel
theorem dX8_topOf_25 : decode cX8_topOf 25 = .ok (.aload_n 0, 1) := by decide +kernel
theorem dX8_topOf_26 : decode cX8_topOf 26 = .ok (.bipush 26, 2) := by decide +kernel
theorem dX8_topOf_28 : decode cX8_topOf 28 = .ok (.iload_n 3, 1) := by decide +kernel
theorem dX8_topOf_29 : decode cX8_topOf 29 = .ok (.iadd, 1) := by decide +kernel
theorem dX8_topOf_30 : decode cX8_topOf 30 = .ok (.iaload, 1) := by decide +kernel
theorem dX8_topOf_31 : decode cX8_topOf 31 = .ok (.aload_n 0, 1) := by decide +kernel
theorem dX8_topOf_32 : decode cX8_topOf 32 = .ok (.bipush 26, 2) := by decide +kernel
theorem dX8_topOf_34 : decode cX8_topOf 34 = .ok (.iload_n 2, 1) := by decide +kernel
theorem dX8_topOf_35 : decode cX8_topOf 35 = .ok (.iadd, 1) := by decide +kernel
theorem dX8_topOf_36 : decode cX8_topOf 36 = .ok (.iaload, 1) := by decide +kernel
theorem dX8_topOf_37 : decode cX8_topOf 37 = .ok (.if_icmp .le 5, 3) := by decide +kernel
theorem dX8_topOf_40 : decode cX8_topOf 40 = .ok (.iload_n 3, 1) := by decide +kernel
theorem dX8_topOf_41 : decode cX8_topOf 41 = .ok (.istore_n 2, 1) := by decide +kernel
theorem dX8_topOf_42 : decode cX8_topOf 42 = .ok (.iinc 3 1, 3) := by decide +kernel
theorem dX8_topOf_45 : decode cX8_topOf 45 = .ok (.goto (-41), 3) := by decide +kernel
theorem dX8_topOf_48 : decode cX8_topOf 48 = .ok (.iload_n 2, 1) := by decide +kernel
theorem dX8_topOf_49 : decode cX8_topOf 49 = .ok (.ireturn, 1) := by decide +kernel
theorem dX8_needAs_0 : decode cX8_needAs 0 = .ok (.iload_n 0, 1) := by decide +kernel
theorem dX8_needAs_1 : decode cX8_needAs 1 = .ok (.iconst 2, 1) := by decide +kernel
theorem dX8_needAs_2 : decode cX8_needAs 2 = .ok (.if_icmp .ne 9, 3) := by decide +kernel
theorem dX8_needAs_5 : decode cX8_needAs 5 = .ok (.iload_n 1, 1) := by decide +kernel
theorem dX8_needAs_6 : decode cX8_needAs 6 = .ok (.iconst 2, 1) := by decide +kernel
theorem dX8_needAs_7 : decode cX8_needAs 7 = .ok (.iadd, 1) := by decide +kernel
theorem dX8_needAs_8 : decode cX8_needAs 8 = .ok (.goto 17, 3) := by decide +kernel
theorem dX8_needAs_11 : decode cX8_needAs 11 = .ok (.iload_n 0, 1) := by decide +kernel
theorem dX8_needAs_12 : decode cX8_needAs 12 = .ok (.iconst 3, 1) := by decide +kernel
theorem dX8_needAs_13 : decode cX8_needAs 13 = .ok (.if_icmp .ne 11, 3) := by decide +kernel
theorem dX8_needAs_16 : decode cX8_needAs 16 = .ok (.iload_n 1, 1) := by decide +kernel
theorem dX8_needAs_17 : decode cX8_needAs 17 = .ok (.iconst 2, 1) := by decide +kernel
theorem dX8_needAs_18 : decode cX8_needAs 18 = .ok (.idiv, 1) := by decide +kernel
theorem dX8_needAs_19 : decode cX8_needAs 19 = .ok (.iconst 1, 1) := by decide +kernel
theorem dX8_needAs_20 : decode cX8_needAs 20 = .ok (.iadd, 1) := by decide +kernel
theorem dX8_needAs_21 : decode cX8_needAs 21 = .ok (.goto 4, 3) := by decide +kernel
theorem dX8_needAs_24 : decode cX8_needAs 24 = .ok (.iload_n 1, 1) := by decide +kernel
theorem dX8_needAs_25 : decode cX8_needAs 25 = .ok (.ireturn, 1) := by decide +kernel
set_option maxRecDepth 20000 in
theorem ggX8_needOf_X8_needAs : GoodIn wsX8_needOf wsX8_needAs := goodIn_r _ [4] (by decide +kernel) (by decide +kernel)
set_option maxRecDepth 20000 in
theorem gX8_needOf_X8_needAs : GoodIn wsX8_needOf (va_wsS RX8 145 yX8_needAs wsX8_needAs) := goodIn_app (goodIn_of _ (by decide +kernel)) ggX8_needOf_X8_needAs
theorem dX8_needOf_0 : decode cX8_needOf 0 = .ok (.aload_n 0, 1) := by decide +kernel
theorem dX8_needOf_1 : decode cX8_needOf 1 = .ok (.iconst 1, 1) := by decide +kernel
theorem dX8_needOf_2 : decode cX8_needOf 2 = .ok (.iload_n 1, 1) := by decide +kernel
theorem dX8_needOf_3 : decode cX8_needOf 3 = .ok (.iadd, 1) := by decide +kernel
theorem dX8_needOf_4 : decode cX8_needOf 4 = .ok (.iaload, 1) := by decide +kernel
theorem dX8_needOf_5 : decode cX8_needOf 5 = .ok (.aload_n 0, 1) := by decide +kernel
theorem dX8_needOf_6 : decode cX8_needOf 6 = .ok (.bipush 8, 2) := by decide +kernel
theorem dX8_needOf_8 : decode cX8_needOf 8 = .ok (.iload_n 1, 1) := by decide +kernel
theorem dX8_needOf_9 : decode cX8_needOf 9 = .ok (.iadd, 1) := by decide +kernel
theorem dX8_needOf_10 : decode cX8_needOf 10 = .ok (.iaload, 1) := by decide +kernel
theorem dX8_needOf_11 : decode cX8_needOf 11 = .ok (.invokestatic 145, 3) := by decide +kernel
theorem dX8_needOf_14 : decode cX8_needOf 14 = .ok (.ireturn, 1) := by decide +kernel
theorem dX8_gripOf_0 : decode cX8_gripOf 0 = .ok (.iload_n 1, 1) := by decide +kernel
theorem dX8_gripOf_1 : decode cX8_gripOf 1 = .ok (.aload_n 0, 1) := by decide +kernel
theorem dX8_gripOf_2 : decode cX8_gripOf 2 = .ok (.bipush 18, 2) := by decide +kernel
theorem dX8_gripOf_4 : decode cX8_gripOf 4 = .ok (.iaload, 1) := by decide +kernel
theorem dX8_gripOf_5 : decode cX8_gripOf 5 = .ok (.irem, 1) := by decide +kernel
theorem dX8_gripOf_6 : decode cX8_gripOf 6 = .ok (.ifCond .ne 10, 3) := by decide +kernel
theorem dX8_gripOf_9 : decode cX8_gripOf 9 = .ok (.aload_n 0, 1) := by decide +kernel
theorem dX8_gripOf_10 : decode cX8_gripOf 10 = .ok (.bipush 17, 2) := by decide +kernel
theorem dX8_gripOf_12 : decode cX8_gripOf 12 = .ok (.iaload, 1) := by decide +kernel
theorem dX8_gripOf_13 : decode cX8_gripOf 13 = .ok (.goto 7, 3) := by decide +kernel
theorem dX8_gripOf_16 : decode cX8_gripOf 16 = .ok (.aload_n 0, 1) := by decide +kernel
theorem dX8_gripOf_17 : decode cX8_gripOf 17 = .ok (.bipush 16, 2) := by decide +kernel
theorem dX8_gripOf_19 : decode cX8_gripOf 19 = .ok (.iaload, 1) := by decide +kernel
theorem dX8_gripOf_20 : decode cX8_gripOf 20 = .ok (.ireturn, 1) := by decide +kernel
set_option maxRecDepth 20000 in
theorem ggX8_lay_X8_lyingIn : GoodIn wsX8_lay wsX8_lyingIn := goodIn_r _ [4] (by decide +kernel) (by decide +kernel)
set_option maxRecDepth 20000 in
theorem gX8_lay_X8_lyingIn : GoodIn wsX8_lay (va_wsS RX8 149 yX8_lyingIn wsX8_lyingIn) := goodIn_app (goodIn_of _ (by decide +kernel)) ggX8_lay_X8_lyingIn
theorem dX8_lay_0 : decode cX8_lay 0 = .ok (.aload_n 0, 1) := by decide +kernel
theorem dX8_lay_1 : decode cX8_lay 1 = .ok (.bipush 26, 2) := by decide +kernel
theorem dX8_lay_3 : decode cX8_lay 3 = .ok (.iload_n 1, 1) := by decide +kernel
theorem dX8_lay_4 : decode cX8_lay 4 = .ok (.iadd, 1) := by decide +kernel
theorem dX8_lay_5 : decode cX8_lay 5 = .ok (.aload_n 0, 1) := by decide +kernel
theorem dX8_lay_6 : decode cX8_lay 6 = .ok (.iload_n 2, 1) := by decide +kernel
theorem dX8_lay_7 : decode cX8_lay 7 = .ok (.invokestatic 149, 3) := by decide +kernel
theorem dX8_lay_10 : decode cX8_lay 10 = .ok (.iastore, 1) := by decide +kernel
theorem dX8_lay_11 : decode cX8_lay 11 = .ok (.aload_n 0, 1) := by decide +kernel
theorem dX8_lay_12 : decode cX8_lay 12 = .ok (.bipush 19, 2) := by decide +kernel
theorem dX8_lay_14 : decode cX8_lay 14 = .ok (.iload_n 1, 1) := by decide +kernel
theorem dX8_lay_15 : decode cX8_lay 15 = .ok (.iadd, 1) := by decide +kernel
theorem dX8_lay_16 : decode cX8_lay 16 = .ok (.iload_n 2, 1) := by decide +kernel
theorem dX8_lay_17 : decode cX8_lay 17 = .ok (.iastore, 1) := by decide +kernel
theorem dX8_lay_18 : decode cX8_lay 18 = .ok (.return_, 1) := by decide +kernel
set_option maxRecDepth 20000 in
theorem ggX8_rolls_X8_lyingIn : GoodIn wsX8_rolls wsX8_lyingIn := goodIn_r _ [4] (by decide +kernel) (by decide +kernel)
set_option maxRecDepth 20000 in
theorem gX8_rolls_X8_lyingIn : GoodIn wsX8_rolls (va_wsS RX8 149 yX8_lyingIn wsX8_lyingIn) := goodIn_app (goodIn_of _ (by decide +kernel)) ggX8_rolls_X8_lyingIn
theorem dX8_rolls_0 : decode cX8_rolls 0 = .ok (.aload_n 0, 1) := by decide +kernel
theorem dX8_rolls_1 : decode cX8_rolls 1 = .ok (.iload_n 1, 1) := by decide +kernel
theorem dX8_rolls_2 : decode cX8_rolls 2 = .ok (.invokestatic 149, 3) := by decide +kernel
theorem dX8_rolls_5 : decode cX8_rolls 5 = .ok (.istore_n 2, 1) := by decide +kernel
theorem dX8_rolls_6 : decode cX8_rolls 6 = .ok (.iload_n 1, 1) := by decide +kernel
theorem dX8_rolls_7 : decode cX8_rolls 7 = .ok (.iconst 1, 1) := by decide +kernel
theorem dX8_rolls_8 : decode cX8_rolls 8 = .ok (.if_icmp .le 20, 3) := by decide +kernel
theorem dX8_rolls_11 : decode cX8_rolls 11 = .ok (.aload_n 0, 1) := by decide +kernel
theorem dX8_rolls_12 : decode cX8_rolls 12 = .ok (.iload_n 1, 1) := by decide +kernel
theorem dX8_rolls_13 : decode cX8_rolls 13 = .ok (.iconst 1, 1) := by decide +kernel
theorem dX8_rolls_14 : decode cX8_rolls 14 = .ok (.isub, 1) := by decide +kernel
theorem dX8_rolls_15 : decode cX8_rolls 15 = .ok (.invokestatic 149, 3) := by decide +kernel
theorem dX8_rolls_18 : decode cX8_rolls 18 = .ok (.iload_n 2, 1) := by decide +kernel
theorem dX8_rolls_19 : decode cX8_rolls 19 = .ok (.iconst 2, 1) := by decide +kernel
theorem dX8_rolls_20 : decode cX8_rolls 20 = .ok (.isub, 1) := by decide +kernel
theorem dX8_rolls_21 : decode cX8_rolls 21 = .ok (.if_icmp .gt 7, 3) := by decide +kernel
theorem dX8_rolls_24 : decode cX8_rolls 24 = .ok (.iload_n 1, 1) := by decide +kernel
theorem dX8_rolls_25 : decode cX8_rolls 25 = .ok (.iconst 1, 1) := by decide +kernel
theorem dX8_rolls_26 : decode cX8_rolls 26 = .ok (.isub, 1) := by decide +kernel
theorem dX8_rolls_27 : decode cX8_rolls 27 = .ok (.ireturn, 1) := by decide +kernel
theorem dX8_rolls_28 : decode cX8_rolls 28 = .ok (.iload_n 1, 1) := by decide +kernel
theorem dX8_rolls_29 : decode cX8_rolls 29 = .ok (.iconst 5, 1) := by decide +kernel
theorem dX8_rolls_30 : decode cX8_rolls 30 = .ok (.if_icmp .ge 22, 3) := by decide +kernel
theorem dX8_rolls_33 : decode cX8_rolls 33 = .ok (.aload_n 0, 1) := by decide +kernel
theorem dX8_rolls_34 : decode cX8_rolls 34 = .ok (.iload_n 1, 1) := by decide +kernel
theorem dX8_rolls_35 : decode cX8_rolls 35 = .ok (.iconst 1, 1) := by decide +kernel
theorem dX8_rolls_36 : decode cX8_rolls 36 = .ok (.iadd, 1) := by decide +kernel
theorem dX8_rolls_37 : decode cX8_rolls 37 = .ok (.invokestatic 149, 3) := by decide +kernel
theorem dX8_rolls_40 : decode cX8_rolls 40 = .ok (.iload_n 2, 1) := by decide +kernel
theorem dX8_rolls_41 : decode cX8_rolls 41 = .ok (.iconst 2, 1) := by decide +kernel
theorem dX8_rolls_42 : decode cX8_rolls 42 = .ok (.isub, 1) := by decide +kernel
theorem dX8_rolls_43 : decode cX8_rolls 43 = .ok (.if_icmp .gt 9, 3) := by decide +kernel
theorem dX8_rolls_46 : decode cX8_rolls 46 = .ok (.iload_n 1, 1) := by decide +kernel
theorem dX8_rolls_47 : decode cX8_rolls 47 = .ok (.iconst 1, 1) := by decide +kernel
theorem dX8_rolls_48 : decode cX8_rolls 48 = .ok (.iadd, 1) := by decide +kernel
theorem dX8_rolls_49 : decode cX8_rolls 49 = .ok (.goto 4, 3) := by decide +kernel
theorem dX8_rolls_52 : decode cX8_rolls 52 = .ok (.iload_n 1, 1) := by decide +kernel
theorem dX8_rolls_53 : decode cX8_rolls 53 = .ok (.ireturn, 1) := by decide +kernel
theorem dX8_take_0 : decode cX8_take 0 = .ok (.aload_n 0, 1) := by decide +kernel
theorem dX8_take_1 : decode cX8_take 1 = .ok (.bipush 19, 2) := by decide +kernel
theorem dX8_take_3 : decode cX8_take 3 = .ok (.iload_n 1, 1) := by decide +kernel
theorem dX8_take_4 : decode cX8_take 4 = .ok (.iadd, 1) := by decide +kernel
theorem dX8_take_5 : decode cX8_take 5 = .ok (.iload_n 2, 1) := by decide +kernel
theorem dX8_take_6 : decode cX8_take 6 = .ok (.iastore, 1) := by decide +kernel
theorem dX8_take_7 : decode cX8_take 7 = .ok (.aload_n 0, 1) := by decide +kernel
theorem dX8_take_8 : decode cX8_take 8 = .ok (.bipush 26, 2) := by decide +kernel
theorem dX8_take_10 : decode cX8_take 10 = .ok (.iload_n 1, 1) := by decide +kernel
theorem dX8_take_11 : decode cX8_take 11 = .ok (.iadd, 1) := by decide +kernel
theorem dX8_take_12 : decode cX8_take 12 = .ok (.iconst 0, 1) := by decide +kernel
theorem dX8_take_13 : decode cX8_take 13 = .ok (.iastore, 1) := by decide +kernel
theorem dX8_take_14 : decode cX8_take 14 = .ok (.return_, 1) := by decide +kernel
set_option maxRecDepth 20000 in
theorem ggX8_goPlay_X8_topOf : GoodIn wsX8_goPlay wsX8_topOf := goodIn_r _ [4] (by decide +kernel) (by decide +kernel)
set_option maxRecDepth 20000 in
theorem gX8_goPlay_X8_topOf : GoodIn wsX8_goPlay (va_wsS RX8 153 yX8_topOf wsX8_topOf) := goodIn_app (goodIn_of _ (by decide +kernel)) ggX8_goPlay_X8_topOf
set_option maxRecDepth 20000 in
theorem ggX8_goPlay_X8_needOf : GoodIn wsX8_goPlay wsX8_needOf := goodIn_r _ [7, 8, 9, 3, 10] (by decide +kernel) (by decide +kernel)
set_option maxRecDepth 20000 in
theorem gX8_goPlay_X8_needOf : GoodIn wsX8_goPlay (va_wsS RX8 156 yX8_needOf wsX8_needOf) := goodIn_app (goodIn_of _ (by decide +kernel)) ggX8_goPlay_X8_needOf
set_option maxRecDepth 20000 in
theorem ggX8_goPlay_X8_rolls : GoodIn wsX8_goPlay wsX8_rolls := goodIn_r _ [13, 14, 15, 3, 16] (by decide +kernel) (by decide +kernel)
set_option maxRecDepth 20000 in
theorem gX8_goPlay_X8_rolls : GoodIn wsX8_goPlay (va_wsS RX8 159 yX8_rolls wsX8_rolls) := goodIn_app (goodIn_of _ (by decide +kernel)) ggX8_goPlay_X8_rolls
set_option maxRecDepth 20000 in
theorem ggX8_goPlay_X8_lay : GoodIn wsX8_goPlay wsX8_lay := goodIn_r _ [19, 14, 15, 3, 16] (by decide +kernel) (by decide +kernel)
set_option maxRecDepth 20000 in
theorem gX8_goPlay_X8_lay : GoodIn wsX8_goPlay (va_wsS RX8 162 yX8_lay wsX8_lay) := goodIn_app (goodIn_of _ (by decide +kernel)) ggX8_goPlay_X8_lay
set_option maxRecDepth 20000 in
theorem ggX8_goPlay_X8_take : GoodIn wsX8_goPlay wsX8_take := goodIn_r _ [22] (by decide +kernel) (by decide +kernel)
set_option maxRecDepth 20000 in
theorem gX8_goPlay_X8_take : GoodIn wsX8_goPlay (va_wsS RX8 166 yX8_take wsX8_take) := goodIn_app (goodIn_of _ (by decide +kernel)) ggX8_goPlay_X8_take
set_option maxRecDepth 20000 in
theorem ggX8_goPlay_X8_lyingIn : GoodIn wsX8_goPlay wsX8_lyingIn := goodIn_r _ [16] (by decide +kernel) (by decide +kernel)
set_option maxRecDepth 20000 in
theorem gX8_goPlay_X8_lyingIn : GoodIn wsX8_goPlay (va_wsS RX8 149 yX8_lyingIn wsX8_lyingIn) := goodIn_app (goodIn_of _ (by decide +kernel)) ggX8_goPlay_X8_lyingIn
theorem dX8_goPlay_0 : decode cX8_goPlay 0 = .ok (.aload_n 0, 1) := by decide +kernel
theorem dX8_goPlay_1 : decode cX8_goPlay 1 = .ok (.iload_n 1, 1) := by decide +kernel
theorem dX8_goPlay_2 : decode cX8_goPlay 2 = .ok (.invokestatic 153, 3) := by decide +kernel
theorem dX8_goPlay_5 : decode cX8_goPlay 5 = .ok (.istore_n 3, 1) := by decide +kernel
theorem dX8_goPlay_6 : decode cX8_goPlay 6 = .ok (.aload_n 0, 1) := by decide +kernel
theorem dX8_goPlay_7 : decode cX8_goPlay 7 = .ok (.bipush 15, 2) := by decide +kernel
theorem dX8_goPlay_9 : decode cX8_goPlay 9 = .ok (.dup2, 1) := by decide +kernel
theorem dX8_goPlay_10 : decode cX8_goPlay 10 = .ok (.iaload, 1) := by decide +kernel
theorem dX8_goPlay_11 : decode cX8_goPlay 11 = .ok (.iconst 1, 1) := by decide +kernel
theorem dX8_goPlay_12 : decode cX8_goPlay 12 = .ok (.iadd, 1) := by decide +kernel
theorem dX8_goPlay_13 : decode cX8_goPlay 13 = .ok (.iastore, 1) := by decide +kernel
theorem dX8_goPlay_14 : decode cX8_goPlay 14 = .ok (.iload_n 3, 1) := by decide +kernel
theorem dX8_goPlay_15 : decode cX8_goPlay 15 = .ok (.ifCond .ge 5, 3) := by decide +kernel
theorem dX8_goPlay_18 : decode cX8_goPlay 18 = .ok (.iload_n 3, 1) := by decide +kernel
theorem dX8_goPlay_19 : decode cX8_goPlay 19 = .ok (.ireturn, 1) := by decide +kernel
theorem dX8_goPlay_20 : decode cX8_goPlay 20 = .ok (.aload_n 0, 1) := by decide +kernel
theorem dX8_goPlay_21 : decode cX8_goPlay 21 = .ok (.iload_n 3, 1) := by decide +kernel
theorem dX8_goPlay_22 : decode cX8_goPlay 22 = .ok (.invokestatic 156, 3) := by decide +kernel
theorem dX8_goPlay_25 : decode cX8_goPlay 25 = .ok (.istore 4, 2) := by decide +kernel
theorem dX8_goPlay_27 : decode cX8_goPlay 27 = .ok (.iload_n 2, 1) := by decide +kernel
theorem dX8_goPlay_28 : decode cX8_goPlay 28 = .ok (.iload 4, 2) := by decide +kernel
theorem dX8_goPlay_30 : decode cX8_goPlay 30 = .ok (.if_icmp .ge 38, 3) := by decide +kernel
theorem dX8_goPlay_33 : decode cX8_goPlay 33 = .ok (.aload_n 0, 1) := by decide +kernel
theorem dX8_goPlay_34 : decode cX8_goPlay 34 = .ok (.iconst 1, 1) := by decide +kernel
theorem dX8_goPlay_35 : decode cX8_goPlay 35 = .ok (.iload_n 3, 1) := by decide +kernel
theorem dX8_goPlay_36 : decode cX8_goPlay 36 = .ok (.iadd, 1) := by decide +kernel
theorem dX8_goPlay_37 : decode cX8_goPlay 37 = .ok (.iaload, 1) := by decide +kernel
theorem dX8_goPlay_38 : decode cX8_goPlay 38 = .ok (.iconst 4, 1) := by decide +kernel
theorem dX8_goPlay_39 : decode cX8_goPlay 39 = .ok (.if_icmp .lt 11, 3) := by decide +kernel
theorem dX8_goPlay_42 : decode cX8_goPlay 42 = .ok (.aload_n 0, 1) := by decide +kernel
theorem dX8_goPlay_43 : decode cX8_goPlay 43 = .ok (.iload_n 1, 1) := by decide +kernel
theorem dX8_goPlay_44 : decode cX8_goPlay 44 = .ok (.invokestatic 159, 3) := by decide +kernel
theorem dX8_goPlay_47 : decode cX8_goPlay 47 = .ok (.goto 4, 3) := by decide +kernel
theorem dX8_goPlay_50 : decode cX8_goPlay 50 = .ok (.iload_n 1, 1) := by decide +kernel
theorem dX8_goPlay_51 : decode cX8_goPlay 51 = .ok (.istore 5, 2) := by decide +kernel
theorem dX8_goPlay_53 : decode cX8_goPlay 53 = .ok (.iload 5, 2) := by decide +kernel
theorem dX8_goPlay_55 : decode cX8_goPlay 55 = .ok (.iload_n 1, 1) := by decide +kernel
theorem dX8_goPlay_56 : decode cX8_goPlay 56 = .ok (.if_icmp .eq 10, 3) := by decide +kernel
theorem dX8_goPlay_59 : decode cX8_goPlay 59 = .ok (.aload_n 0, 1) := by decide +kernel
theorem dX8_goPlay_60 : decode cX8_goPlay 60 = .ok (.iload_n 3, 1) := by decide +kernel
theorem dX8_goPlay_61 : decode cX8_goPlay 61 = .ok (.iload 5, 2) := by decide +kernel
theorem dX8_goPlay_63 : decode cX8_goPlay 63 = .ok (.invokestatic 162, 3) := by decide +kernel
theorem dX8_goPlay_66 : decode cX8_goPlay 66 = .ok (.iload_n 3, 1) := by decide +kernel
theorem dX8_goPlay_67 : decode cX8_goPlay 67 = .ok (.ireturn, 1) := by decide +kernel
theorem dX8_goPlay_68 : decode cX8_goPlay 68 = .ok (.iload_n 2, 1) := by decide +kernel
theorem dX8_goPlay_69 : decode cX8_goPlay 69 = .ok (.istore 5, 2) := by decide +kernel
theorem dX8_goPlay_71 : decode cX8_goPlay 71 = .ok (.iload_n 1, 1) := by decide +kernel
