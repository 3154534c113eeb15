theorem dX8_goPlay_72 : decode cX8_goPlay 72 = .ok (.istore 6, 2) := by decide +kernel
theorem dX8_goPlay_74 : decode cX8_goPlay 74 = .ok (.iload 6, 2) := by decide +kernel
theorem dX8_goPlay_76 : decode cX8_goPlay 76 = .ok (.iconst 1, 1) := by decide +kernel
theorem dX8_goPlay_77 : decode cX8_goPlay 77 = .ok (.if_icmp .lt 19, 3) := by decide +kernel
theorem dX8_goPlay_80 : decode cX8_goPlay 80 = .ok (.iload 5, 2) := by decide +kernel
theorem dX8_goPlay_82 : decode cX8_goPlay 82 = .ok (.iload 4, 2) := by decide +kernel
theorem dX8_goPlay_84 : decode cX8_goPlay 84 = .ok (.if_icmp .lt 12, 3) := by decide +kernel
theorem dX8_goPlay_87 : decode cX8_goPlay 87 = .ok (.iinc 6 (-1), 3) := by decide +kernel
theorem dX8_goPlay_90 : decode cX8_goPlay 90 = .ok (.iinc 5 (-1), 3) := by decide +kernel
theorem dX8_goPlay_93 : decode cX8_goPlay 93 = .ok (.goto (-19), 3) := by decide +kernel
theorem dX8_goPlay_96 : decode cX8_goPlay 96 = .ok (.iload 6, 2) := by decide +kernel
theorem dX8_goPlay_98 : decode cX8_goPlay 98 = .ok (.iconst 1, 1) := by decide +kernel
theorem dX8_goPlay_99 : decode cX8_goPlay 99 = .ok (.if_icmp .ge 12, 3) := by decide +kernel
theorem dX8_goPlay_102 : decode cX8_goPlay 102 = .ok (.aload_n 0, 1) := by decide +kernel
theorem dX8_goPlay_103 : decode cX8_goPlay 103 = .ok (.iload_n 3, 1) := by decide +kernel
theorem dX8_goPlay_104 : decode cX8_goPlay 104 = .ok (.iconst 0, 1) := by decide +kernel
theorem dX8_goPlay_105 : decode cX8_goPlay 105 = .ok (.invokestatic 166, 3) := by decide +kernel
theorem dX8_goPlay_108 : decode cX8_goPlay 108 = .ok (.goto 38, 3) := by decide +kernel
theorem dX8_goPlay_111 : decode cX8_goPlay 111 = .ok (.aload_n 0, 1) := by decide +kernel
theorem dX8_goPlay_112 : decode cX8_goPlay 112 = .ok (.iconst 1, 1) := by decide +kernel
theorem dX8_goPlay_113 : decode cX8_goPlay 113 = .ok (.iload_n 3, 1) := by decide +kernel
theorem dX8_goPlay_114 : decode cX8_goPlay 114 = .ok (.iadd, 1) := by decide +kernel
theorem dX8_goPlay_115 : decode cX8_goPlay 115 = .ok (.iaload, 1) := by decide +kernel
theorem dX8_goPlay_116 : decode cX8_goPlay 116 = .ok (.iconst 5, 1) := by decide +kernel
theorem dX8_goPlay_117 : decode cX8_goPlay 117 = .ok (.if_icmp .ne 22, 3) := by decide +kernel
theorem dX8_goPlay_120 : decode cX8_goPlay 120 = .ok (.aload_n 0, 1) := by decide +kernel
theorem dX8_goPlay_121 : decode cX8_goPlay 121 = .ok (.iload 6, 2) := by decide +kernel
theorem dX8_goPlay_123 : decode cX8_goPlay 123 = .ok (.invokestatic 149, 3) := by decide +kernel
theorem dX8_goPlay_126 : decode cX8_goPlay 126 = .ok (.ifCond .ne 13, 3) := by decide +kernel
theorem dX8_goPlay_129 : decode cX8_goPlay 129 = .ok (.aload_n 0, 1) := by decide +kernel
theorem dX8_goPlay_130 : decode cX8_goPlay 130 = .ok (.iload_n 3, 1) := by decide +kernel
theorem dX8_goPlay_131 : decode cX8_goPlay 131 = .ok (.bipush 9, 2) := by decide +kernel
theorem dX8_goPlay_133 : decode cX8_goPlay 133 = .ok (.invokestatic 166, 3) := by decide +kernel
theorem dX8_goPlay_136 : decode cX8_goPlay 136 = .ok (.goto 10, 3) := by decide +kernel
theorem dX8_goPlay_139 : decode cX8_goPlay 139 = .ok (.aload_n 0, 1) := by decide +kernel
theorem dX8_goPlay_140 : decode cX8_goPlay 140 = .ok (.iload_n 3, 1) := by decide +kernel
theorem dX8_goPlay_141 : decode cX8_goPlay 141 = .ok (.iload 6, 2) := by decide +kernel
theorem dX8_goPlay_143 : decode cX8_goPlay 143 = .ok (.invokestatic 162, 3) := by decide +kernel
theorem dX8_goPlay_146 : decode cX8_goPlay 146 = .ok (.iload_n 3, 1) := by decide +kernel
theorem dX8_goPlay_147 : decode cX8_goPlay 147 = .ok (.ireturn, 1) := by decide +kernel
set_option maxRecDepth 20000 in
theorem ggX8_goNext_X8_gripOf : GoodIn wsX8_goNext wsX8_gripOf := goodIn_r _ [4] (by decide +kernel) (by decide +kernel)
set_option maxRecDepth 20000 in
theorem gX8_goNext_X8_gripOf : GoodIn wsX8_goNext (va_wsS RX8 169 yX8_gripOf wsX8_gripOf) := goodIn_app (goodIn_of _ (by decide +kernel)) ggX8_goNext_X8_gripOf
set_option maxRecDepth 20000 in
theorem ggX8_goNext_X8_goPlay : GoodIn wsX8_goNext wsX8_goPlay := goodIn_r _ [7, 8, 9, 3, 10, 11, 12, 13, 14, 15, 16, 17, 18, 19, 20, 21, 22, 23, 24, 25, 26, 27, 28] (by decide +kernel) (by decide +kernel)
set_option maxRecDepth 20000 in
theorem gX8_goNext_X8_goPlay : GoodIn wsX8_goNext (va_wsS RX8 172 yX8_goPlay wsX8_goPlay) := goodIn_app (goodIn_of _ (by decide +kernel)) ggX8_goNext_X8_goPlay
theorem dX8_goNext_0 : decode cX8_goNext 0 = .ok (.aload_n 0, 1) := by decide +kernel
theorem dX8_goNext_1 : decode cX8_goNext 1 = .ok (.iload_n 1, 1) := by decide +kernel
theorem dX8_goNext_2 : decode cX8_goNext 2 = .ok (.aload_n 0, 1) := by decide +kernel
theorem dX8_goNext_3 : decode cX8_goNext 3 = .ok (.aload_n 0, 1) := by decide +kernel
theorem dX8_goNext_4 : decode cX8_goNext 4 = .ok (.bipush 15, 2) := by decide +kernel
theorem dX8_goNext_6 : decode cX8_goNext 6 = .ok (.iaload, 1) := by decide +kernel
theorem dX8_goNext_7 : decode cX8_goNext 7 = .ok (.iconst 1, 1) := by decide +kernel
theorem dX8_goNext_8 : decode cX8_goNext 8 = .ok (.iadd, 1) := by decide +kernel
theorem dX8_goNext_9 : decode cX8_goNext 9 = .ok (.invokestatic 169, 3) := by decide +kernel
theorem dX8_goNext_12 : decode cX8_goNext 12 = .ok (.invokestatic 172, 3) := by decide +kernel
theorem dX8_goNext_15 : decode cX8_goNext 15 = .ok (.ireturn, 1) := by decide +kernel
theorem dX8_save_0 : decode cX8_save 0 = .ok (.aload_n 0, 1) := by decide +kernel
theorem dX8_save_1 : decode cX8_save 1 = .ok (.getfield 137, 3) := by decide +kernel
theorem dX8_save_4 : decode cX8_save 4 = .ok (.bipush 24, 2) := by decide +kernel
theorem dX8_save_6 : decode cX8_save 6 = .ok (.if_icmp .ne 43, 3) := by decide +kernel
theorem dX8_save_9 : decode cX8_save 9 = .ok (.iconst 0, 1) := by decide +kernel
theorem dX8_save_10 : decode cX8_save 10 = .ok (.istore_n 1, 1) := by decide +kernel
theorem dX8_save_11 : decode cX8_save 11 = .ok (.iload_n 1, 1) := by decide +kernel
theorem dX8_save_12 : decode cX8_save 12 = .ok (.sipush 759, 3) := by decide +kernel
theorem dX8_save_15 : decode cX8_save 15 = .ok (.if_icmp .ge 24, 3) := by decide +kernel
theorem dX8_save_18 : decode cX8_save 18 = .ok (.aload_n 0, 1) := by decide +kernel
theorem dX8_save_19 : decode cX8_save 19 = .ok (.getfield 20, 3) := by decide +kernel
theorem dX8_save_22 : decode cX8_save 22 = .ok (.iload_n 1, 1) := by decide +kernel
theorem dX8_save_23 : decode cX8_save 23 = .ok (.aload_n 0, 1) := by decide +kernel
theorem dX8_save_24 : decode cX8_save 24 = .ok (.getfield 20, 3) := by decide +kernel
theorem dX8_save_27 : decode cX8_save 27 = .ok (.bipush 33, 2) := by decide +kernel
theorem dX8_save_29 : decode cX8_save 29 = .ok (.iload_n 1, 1) := by decide +kernel
theorem dX8_save_30 : decode cX8_save 30 = .ok (.iadd, 1) := by decide +kernel
theorem dX8_save_31 : decode cX8_save 31 = .ok (.iaload, 1) := by decide +kernel
theorem dX8_save_32 : decode cX8_save 32 = .ok (.iastore, 1) := by decide +kernel
theorem dX8_save_33 : decode cX8_save 33 = .ok (.iinc 1 1, 3) := by decide +kernel
theorem dX8_save_36 : decode cX8_save 36 = .ok (.goto (-25), 3) := by decide +kernel
theorem dX8_save_39 : decode cX8_save 39 = .ok (.aload_n 0, 1) := by decide +kernel
theorem dX8_save_40 : decode cX8_save 40 = .ok (.dup, 1) := by decide +kernel
theorem dX8_save_41 : decode cX8_save 41 = .ok (.getfield 137, 3) := by decide +kernel
theorem dX8_save_44 : decode cX8_save 44 = .ok (.iconst 1, 1) := by decide +kernel
theorem dX8_save_45 : decode cX8_save 45 = .ok (.isub, 1) := by decide +kernel
theorem dX8_save_46 : decode cX8_save 46 = .ok (.putfield 137, 3) := by decide +kernel
theorem dX8_save_49 : decode cX8_save 49 = .ok (.iconst 0, 1) := by decide +kernel
theorem dX8_save_50 : decode cX8_save 50 = .ok (.istore_n 1, 1) := by decide +kernel
theorem dX8_save_51 : decode cX8_save 51 = .ok (.iload_n 1, 1) := by decide +kernel
theorem dX8_save_52 : decode cX8_save 52 = .ok (.bipush 33, 2) := by decide +kernel
theorem dX8_save_54 : decode cX8_save 54 = .ok (.if_icmp .ge 29, 3) := by decide +kernel
theorem dX8_save_57 : decode cX8_save 57 = .ok (.aload_n 0, 1) := by decide +kernel
theorem dX8_save_58 : decode cX8_save 58 = .ok (.getfield 20, 3) := by decide +kernel
theorem dX8_save_61 : decode cX8_save 61 = .ok (.bipush 33, 2) := by decide +kernel
theorem dX8_save_63 : decode cX8_save 63 = .ok (.aload_n 0, 1) := by decide +kernel
theorem dX8_save_64 : decode cX8_save 64 = .ok (.getfield 137, 3) := by decide +kernel
theorem dX8_save_67 : decode cX8_save 67 = .ok (.imul, 1) := by decide +kernel
theorem dX8_save_68 : decode cX8_save 68 = .ok (.iload_n 1, 1) := by decide +kernel
theorem dX8_save_69 : decode cX8_save 69 = .ok (.iadd, 1) := by decide +kernel
theorem dX8_save_70 : decode cX8_save 70 = .ok (.aload_n 0, 1) := by decide +kernel
theorem dX8_save_71 : decode cX8_save 71 = .ok (.getfield 7, 3) := by decide +kernel
theorem dX8_save_74 : decode cX8_save 74 = .ok (.iload_n 1, 1) := by decide +kernel
theorem dX8_save_75 : decode cX8_save 75 = .ok (.iaload, 1) := by decide +kernel
theorem dX8_save_76 : decode cX8_save 76 = .ok (.iastore, 1) := by decide +kernel
theorem dX8_save_77 : decode cX8_save 77 = .ok (.iinc 1 1, 3) := by decide +kernel
theorem dX8_save_80 : decode cX8_save 80 = .ok (.goto (-29), 3) := by decide +kernel
theorem dX8_save_83 : decode cX8_save 83 = .ok (.aload_n 0, 1) := by decide +kernel
theorem dX8_save_84 : decode cX8_save 84 = .ok (.dup, 1) := by decide +kernel
theorem dX8_save_85 : decode cX8_save 85 = .ok (.getfield 137, 3) := by decide +kernel
theorem dX8_save_88 : decode cX8_save 88 = .ok (.iconst 1, 1) := by decide +kernel
theorem dX8_save_89 : decode cX8_save 89 = .ok (.iadd, 1) := by decide +kernel
theorem dX8_save_90 : decode cX8_save 90 = .ok (.putfield 137, 3) := by decide +kernel
theorem dX8_save_93 : decode cX8_save 93 = .ok (.return_, 1) := by decide +kernel
set_option maxRecDepth 20000 in
theorem ggX8_play_X8_toys : GoodIn wsX8_play wsX8_toys := goodIn_r _ [10, 3, 54, 55, 56, 57, 58, 59, 60, 61, 62, 63, 64, 65, 66, 67, 68, 69, 70, 71, 72, 73, 74, 75, 76, 77] (by decide +kernel) (by decide +kernel)
set_option maxRecDepth 20000 in
theorem gX8_play_X8_toys : GoodIn wsX8_play (wsV RX8 140 RX8 yX8_toys wsX8_toys) := goodIn_app (goodIn_of _ (by decide +kernel)) ggX8_play_X8_toys
set_option maxRecDepth 20000 in
theorem ggX8_play_X8_isColumn : GoodIn wsX8_play wsX8_isColumn := goodIn_r _ [13, 14, 15, 16, 9, 17] (by decide +kernel) (by decide +kernel)
set_option maxRecDepth 20000 in
theorem gX8_play_X8_isColumn : GoodIn wsX8_play (va_wsS RX8 177 yX8_isColumn wsX8_isColumn) := goodIn_app (goodIn_of _ (by decide +kernel)) ggX8_play_X8_isColumn
set_option maxRecDepth 20000 in
theorem ggX8_play_X8_save : GoodIn wsX8_play wsX8_save := goodIn_r _ [21, 22, 23, 3, 54, 55, 56, 57, 58, 59, 60, 61, 62, 63, 64, 65, 66, 67, 68, 69, 70, 71, 72, 73, 74, 75, 76, 77] (by decide +kernel) (by decide +kernel)
set_option maxRecDepth 20000 in
theorem gX8_play_X8_save : GoodIn wsX8_play (wsV RX8 180 RX8 yX8_save wsX8_save) := goodIn_app (goodIn_of _ (by decide +kernel)) ggX8_play_X8_save
set_option maxRecDepth 20000 in
theorem ggX8_play_X8_goNext : GoodIn wsX8_play wsX8_goNext := goodIn_r _ [26, 27, 28, 9, 29, 30, 31, 32, 33, 34, 35, 36, 37, 38, 39, 40, 41, 42, 43, 44, 45, 46, 47, 48, 49, 50, 51, 52, 53] (by decide +kernel) (by decide +kernel)
set_option maxRecDepth 20000 in
theorem gX8_play_X8_goNext : GoodIn wsX8_play (va_wsS RX8 183 yX8_goNext wsX8_goNext) := goodIn_app (goodIn_of _ (by decide +kernel)) ggX8_play_X8_goNext
theorem dX8_play_0 : decode cX8_play 0 = .ok (.aload_n 0, 1) := by decide +kernel
theorem dX8_play_1 : decode cX8_play 1 = .ok (.invokevirtual 140, 3) := by decide +kernel
theorem dX8_play_4 : decode cX8_play 4 = .ok (.ifCond .ne 6, 3) := by decide +kernel
theorem dX8_play_7 : decode cX8_play 7 = .ok (.ldc 176, 2) := by decide +kernel
theorem dX8_play_9 : decode cX8_play 9 = .ok (.ireturn, 1) := by decide +kernel
theorem dX8_play_10 : decode cX8_play 10 = .ok (.iload_n 1, 1) := by decide +kernel
theorem dX8_play_11 : decode cX8_play 11 = .ok (.invokestatic 177, 3) := by decide +kernel
theorem dX8_play_14 : decode cX8_play 14 = .ok (.ifCond .ne 6, 3) := by decide +kernel
theorem dX8_play_17 : decode cX8_play 17 = .ok (.ldc 71, 2) := by decide +kernel
theorem dX8_play_19 : decode cX8_play 19 = .ok (.ireturn, 1) := by decide +kernel
theorem dX8_play_20 : decode cX8_play 20 = .ok (.aload_n 0, 1) := by decide +kernel
theorem dX8_play_21 : decode cX8_play 21 = .ok (.getfield 7, 3) := by decide +kernel
theorem dX8_play_24 : decode cX8_play 24 = .ok (.bipush 15, 2) := by decide +kernel
theorem dX8_play_26 : decode cX8_play 26 = .ok (.iaload, 1) := by decide +kernel
theorem dX8_play_27 : decode cX8_play 27 = .ok (.sipush 9999, 3) := by decide +kernel
theorem dX8_play_30 : decode cX8_play 30 = .ok (.if_icmp .ne 6, 3) := by decide +kernel
theorem dX8_play_33 : decode cX8_play 33 = .ok (.ldc 84, 2) := by decide +kernel
theorem dX8_play_35 : decode cX8_play 35 = .ok (.ireturn, 1) := by decide +kernel
theorem dX8_play_36 : decode cX8_play 36 = .ok (.aload_n 0, 1) := by decide +kernel
theorem dX8_play_37 : decode cX8_play 37 = .ok (.invokevirtual 180, 3) := by decide +kernel
theorem dX8_play_40 : decode cX8_play 40 = .ok (.aload_n 0, 1) := by decide +kernel
theorem dX8_play_41 : decode cX8_play 41 = .ok (.getfield 7, 3) := by decide +kernel
theorem dX8_play_44 : decode cX8_play 44 = .ok (.iload_n 1, 1) := by decide +kernel
theorem dX8_play_45 : decode cX8_play 45 = .ok (.invokestatic 183, 3) := by decide +kernel
theorem dX8_play_48 : decode cX8_play 48 = .ok (.istore_n 2, 1) := by decide +kernel
theorem dX8_play_49 : decode cX8_play 49 = .ok (.iload_n 2, 1) := by decide +kernel
theorem dX8_play_50 : decode cX8_play 50 = .ok (.ifCond .ge 8, 3) := by decide +kernel
theorem dX8_play_53 : decode cX8_play 53 = .ok (.ldc 186, 2) := by decide +kernel
theorem dX8_play_55 : decode cX8_play 55 = .ok (.goto 12, 3) := by decide +kernel
theorem dX8_play_58 : decode cX8_play 58 = .ok (.aload_n 0, 1) := by decide +kernel
theorem dX8_play_59 : decode cX8_play 59 = .ok (.getfield 7, 3) := by decide +kernel
theorem dX8_play_62 : decode cX8_play 62 = .ok (.bipush 19, 2) := by decide +kernel
theorem dX8_play_64 : decode cX8_play 64 = .ok (.iload_n 2, 1) := by decide +kernel
theorem dX8_play_65 : decode cX8_play 65 = .ok (.iadd, 1) := by decide +kernel
theorem dX8_play_66 : decode cX8_play 66 = .ok (.iaload, 1) := by decide +kernel
theorem dX8_play_67 : decode cX8_play 67 = .ok (.ireturn, 1) := by decide +kernel
set_option maxRecDepth 20000 in
theorem ggX8_put_X8_isToy : GoodIn wsX8_put wsX8_isToy := goodIn_r _ [8, 9, 10, 11, 7, 12, 2, 13, 14, 15, 32, 33, 34, 35, 36, 37, 38, 39, 40, 41, 42, 43, 44, 45, 46, 47, 48, 49, 50, 51, 52, 53, 54, 55] (by decide +kernel) (by decide +kernel)
set_option maxRecDepth 20000 in
theorem gX8_put_X8_isToy : GoodIn wsX8_put (wsV RX8 187 RX8 yX8_isToy wsX8_isToy) := goodIn_app (goodIn_of _ (by decide +kernel)) ggX8_put_X8_isToy
set_option maxRecDepth 20000 in
theorem ggX8_put_X8_isColumn : GoodIn wsX8_put wsX8_isColumn := goodIn_r _ [18, 19, 13, 14, 7, 15] (by decide +kernel) (by decide +kernel)
set_option maxRecDepth 20000 in
theorem gX8_put_X8_isColumn : GoodIn wsX8_put (va_wsS RX8 177 yX8_isColumn wsX8_isColumn) := goodIn_app (goodIn_of _ (by decide +kernel)) ggX8_put_X8_isColumn
set_option maxRecDepth 20000 in
theorem ggX8_put_X8_save : GoodIn wsX8_put wsX8_save := goodIn_r _ [23, 24, 25, 2, 32, 33, 34, 35, 36, 37, 38, 39, 40, 41, 42, 43, 44, 45, 46, 47, 48, 49, 50, 51, 52, 53, 54, 55] (by decide +kernel) (by decide +kernel)
set_option maxRecDepth 20000 in
theorem gX8_put_X8_save : GoodIn wsX8_put (wsV RX8 180 RX8 yX8_save wsX8_save) := goodIn_app (goodIn_of _ (by decide +kernel)) ggX8_put_X8_save
set_option maxRecDepth 20000 in
theorem ggX8_put_X8_lay : GoodIn wsX8_put wsX8_lay := goodIn_r _ [28, 29, 30, 7, 31] (by decide +kernel) (by decide +kernel)
set_option maxRecDepth 20000 in
theorem gX8_put_X8_lay : GoodIn wsX8_put (va_wsS RX8 162 yX8_lay wsX8_lay) := goodIn_app (goodIn_of _ (by decide +kernel)) ggX8_put_X8_lay
set_option maxRecDepth 20000 in
theorem ggX8_put_X8_lyingIn : GoodIn wsX8_put wsX8_lyingIn := goodIn_r _ [31] (by decide +kernel) (by decide +kernel)
set_option maxRecDepth 20000 in
theorem gX8_put_X8_lyingIn : GoodIn wsX8_put (va_wsS RX8 149 yX8_lyingIn wsX8_lyingIn) := goodIn_app (goodIn_of _ (by decide +kernel)) ggX8_put_X8_lyingIn
theorem dX8_put_0 : decode cX8_put 0 = .ok (.aload_n 0, 1) := by decide +kernel
theorem dX8_put_1 : decode cX8_put 1 = .ok (.iload_n 1, 1) := by decide +kernel
theorem dX8_put_2 : decode cX8_put 2 = .ok (.invokevirtual 187, 3) := by decide +kernel
theorem dX8_put_5 : decode cX8_put 5 = .ok (.ifCond .eq 10, 3) := by decide +kernel
theorem dX8_put_8 : decode cX8_put 8 = .ok (.iload_n 2, 1) := by decide +kernel
theorem dX8_put_9 : decode cX8_put 9 = .ok (.invokestatic 177, 3) := by decide +kernel
theorem dX8_put_12 : decode cX8_put 12 = .ok (.ifCond .ne 6, 3) := by decide +kernel
theorem dX8_put_15 : decode cX8_put 15 = .ok (.ldc 71, 2) := by decide +kernel
theorem dX8_put_17 : decode cX8_put 17 = .ok (.ireturn, 1) := by decide +kernel
theorem dX8_put_18 : decode cX8_put 18 = .ok (.aload_n 0, 1) := by decide +kernel
theorem dX8_put_19 : decode cX8_put 19 = .ok (.getfield 7, 3) := by decide +kernel
theorem dX8_put_22 : decode cX8_put 22 = .ok (.bipush 19, 2) := by decide +kernel
theorem dX8_put_24 : decode cX8_put 24 = .ok (.iload_n 1, 1) := by decide +kernel
theorem dX8_put_25 : decode cX8_put 25 = .ok (.iadd, 1) := by decide +kernel
theorem dX8_put_26 : decode cX8_put 26 = .ok (.iaload, 1) := by decide +kernel
theorem dX8_put_27 : decode cX8_put 27 = .ok (.invokestatic 177, 3) := by decide +kernel
theorem dX8_put_30 : decode cX8_put 30 = .ok (.ifCond .eq 6, 3) := by decide +kernel
theorem dX8_put_33 : decode cX8_put 33 = .ok (.ldc 176, 2) := by decide +kernel
theorem dX8_put_35 : decode cX8_put 35 = .ok (.ireturn, 1) := by decide +kernel
theorem dX8_put_36 : decode cX8_put 36 = .ok (.aload_n 0, 1) := by decide +kernel
theorem dX8_put_37 : decode cX8_put 37 = .ok (.invokevirtual 180, 3) := by decide +kernel
theorem dX8_put_40 : decode cX8_put 40 = .ok (.aload_n 0, 1) := by decide +kernel
theorem dX8_put_41 : decode cX8_put 41 = .ok (.getfield 7, 3) := by decide +kernel
theorem dX8_put_44 : decode cX8_put 44 = .ok (.iload_n 1, 1) := by decide +kernel
theorem dX8_put_45 : decode cX8_put 45 = .ok (.iload_n 2, 1) := by decide +kernel
theorem dX8_put_46 : decode cX8_put 46 = .ok (.invokestatic 162, 3) := by decide +kernel
theorem dX8_put_49 : decode cX8_put 49 = .ok (.aload_n 0, 1) := by decide +kernel
theorem dX8_put_50 : decode cX8_put 50 = .ok (.getfield 7, 3) := by decide +kernel
theorem dX8_put_53 : decode cX8_put 53 = .ok (.iload_n 2, 1) := by decide +kernel
theorem dX8_put_54 : decode cX8_put 54 = .ok (.invokestatic 149, 3) := by decide +kernel
theorem dX8_put_57 : decode cX8_put 57 = .ok (.ireturn, 1) := by decide +kernel
set_option maxRecDepth 20000 in
theorem ggX8_grip_X8_toys : GoodIn wsX8_grip wsX8_toys := goodIn_r _ [9, 4, 19, 20, 21, 22, 23, 24, 25, 26, 27, 28, 29, 30, 31, 32, 33, 34, 35, 36, 37, 38, 39, 40, 41, 42] (by decide +kernel) (by decide +kernel)
set_option maxRecDepth 20000 in
theorem gX8_grip_X8_toys : GoodIn wsX8_grip (wsV RX8 140 RX8 yX8_toys wsX8_toys) := goodIn_app (goodIn_of _ (by decide +kernel)) ggX8_grip_X8_toys
set_option maxRecDepth 20000 in
theorem ggX8_grip_X8_in : GoodIn wsX8_grip wsX8_in := goodIn_r _ [12] (by decide +kernel) (by decide +kernel)
set_option maxRecDepth 20000 in
theorem gX8_grip_X8_in : GoodIn wsX8_grip (va_wsS RX8 61 yX8_in wsX8_in) := goodIn_app (goodIn_of _ (by decide +kernel)) ggX8_grip_X8_in
set_option maxRecDepth 20000 in
theorem ggX8_grip_X8_save : GoodIn wsX8_grip wsX8_save := goodIn_r _ [16, 17, 18, 4, 19, 20, 21, 22, 23, 24, 25, 26, 27, 28, 29, 30, 31, 32, 33, 34, 35, 36, 37, 38, 39, 40, 41, 42] (by decide +kernel) (by decide +kernel)
set_option maxRecDepth 20000 in
theorem gX8_grip_X8_save : GoodIn wsX8_grip (wsV RX8 180 RX8 yX8_save wsX8_save) := goodIn_app (goodIn_of _ (by decide +kernel)) ggX8_grip_X8_save
theorem dX8_grip_0 : decode cX8_grip 0 = .ok (.aload_n 0, 1) := by decide +kernel
theorem dX8_grip_1 : decode cX8_grip 1 = .ok (.invokevirtual 140, 3) := by decide +kernel
theorem dX8_grip_4 : decode cX8_grip 4 = .ok (.ifCond .ne 6, 3) := by decide +kernel
theorem dX8_grip_7 : decode cX8_grip 7 = .ok (.ldc 176, 2) := by decide +kernel
theorem dX8_grip_9 : decode cX8_grip 9 = .ok (.ireturn, 1) := by decide +kernel
theorem dX8_grip_10 : decode cX8_grip 10 = .ok (.iload_n 1, 1) := by decide +kernel
theorem dX8_grip_11 : decode cX8_grip 11 = .ok (.i2l, 1) := by decide +kernel
theorem dX8_grip_12 : decode cX8_grip 12 = .ok (.lconst 0, 1) := by decide +kernel
theorem dX8_grip_13 : decode cX8_grip 13 = .ok (.lconst 1, 1) := by decide +kernel
theorem dX8_grip_14 : decode cX8_grip 14 = .ok (.invokestatic 61, 3) := by decide +kernel
theorem dX8_grip_17 : decode cX8_grip 17 = .ok (.ifCond .eq 15, 3) := by decide +kernel
theorem dX8_grip_20 : decode cX8_grip 20 = .ok (.iload_n 2, 1) := by decide +kernel
theorem dX8_grip_21 : decode cX8_grip 21 = .ok (.i2l, 1) := by decide +kernel
theorem dX8_grip_22 : decode cX8_grip 22 = .ok (.lconst 0, 1) := by decide +kernel
theorem dX8_grip_23 : decode cX8_grip 23 = .ok (.ldc2_w 190, 3) := by decide +kernel
theorem dX8_grip_26 : decode cX8_grip 26 = .ok (.invokestatic 61, 3) := by decide +kernel
theorem dX8_grip_29 : decode cX8_grip 29 = .ok (.ifCond .ne 6, 3) := by decide +kernel
theorem dX8_grip_32 : decode cX8_grip 32 = .ok (.ldc 71, 2) := by decide +kernel
theorem dX8_grip_34 : decode cX8_grip 34 = .ok (.ireturn, 1) := by decide +kernel
theorem dX8_grip_35 : decode cX8_grip 35 = .ok (.aload_n 0, 1) := by decide +kernel
theorem dX8_grip_36 : decode cX8_grip 36 = .ok (.getfield 7, 3) := by decide +kernel
theorem dX8_grip_39 : decode cX8_grip 39 = .ok (.bipush 16, 2) := by decide +kernel
theorem dX8_grip_41 : decode cX8_grip 41 = .ok (.iload_n 1, 1) := by decide +kernel
theorem dX8_grip_42 : decode cX8_grip 42 = .ok (.iadd, 1) := by decide +kernel
theorem dX8_grip_43 : decode cX8_grip 43 = .ok (.iaload, 1) := by decide +kernel
theorem dX8_grip_44 : decode cX8_grip 44 = .ok (.istore_n 3, 1) := by decide +kernel
theorem dX8_grip_45 : decode cX8_grip 45 = .ok (.aload_n 0, 1) := by decide +kernel
theorem dX8_grip_46 : decode cX8_grip 46 = .ok (.invokevirtual 180, 3) := by decide +kernel
theorem dX8_grip_49 : decode cX8_grip 49 = .ok (.aload_n 0, 1) := by decide +kernel
theorem dX8_grip_50 : decode cX8_grip 50 = .ok (.getfield 7, 3) := by decide +kernel
theorem dX8_grip_53 : decode cX8_grip 53 = .ok (.bipush 16, 2) := by decide +kernel
theorem dX8_grip_55 : decode cX8_grip 55 = .ok (.iload_n 1, 1) := by decide +kernel
theorem dX8_grip_56 : decode cX8_grip 56 = .ok (.iadd, 1) := by decide +kernel
theorem dX8_grip_57 : decode cX8_grip 57 = .ok (.iload_n 2, 1) := by decide +kernel
theorem dX8_grip_58 : decode cX8_grip 58 = .ok (.iastore, 1) := by decide +kernel
theorem dX8_grip_59 : decode cX8_grip 59 = .ok (.iload_n 3, 1) := by decide +kernel
theorem dX8_grip_60 : decode cX8_grip 60 = .ok (.ireturn, 1) := by decide +kernel
theorem dX8_undo_0 : decode cX8_undo 0 = .ok (.aload_n 0, 1) := by decide +kernel
theorem dX8_undo_1 : decode cX8_undo 1 = .ok (.getfield 137, 3) := by decide +kernel
theorem dX8_undo_4 : decode cX8_undo 4 = .ok (.ifCond .ne 6, 3) := by decide +kernel
theorem dX8_undo_7 : decode cX8_undo 7 = .ok (.ldc 176, 2) := by decide +kernel
theorem dX8_undo_9 : decode cX8_undo 9 = .ok (.ireturn, 1) := by decide +kernel
theorem dX8_undo_10 : decode cX8_undo 10 = .ok (.aload_n 0, 1) := by decide +kernel
theorem dX8_undo_11 : decode cX8_undo 11 = .ok (.dup, 1) := by decide +kernel
theorem dX8_undo_12 : decode cX8_undo 12 = .ok (.getfield 137, 3) := by decide +kernel
theorem dX8_undo_15 : decode cX8_undo 15 = .ok (.iconst 1, 1) := by decide +kernel
theorem dX8_undo_16 : decode cX8_undo 16 = .ok (.isub, 1) := by decide +kernel
theorem dX8_undo_17 : decode cX8_undo 17 = .ok (.putfield 137, 3) := by decide +kernel
theorem dX8_undo_20 : decode cX8_undo 20 = .ok (.iconst 0, 1) := by decide +kernel
theorem dX8_undo_21 : decode cX8_undo 21 = .ok (.istore_n 1, 1) := by decide +kernel
theorem dX8_undo_22 : decode cX8_undo 22 = .ok (.iload_n 1, 1) := by decide +kernel
theorem dX8_undo_23 : decode cX8_undo 23 = .ok (.bipush 33, 2) := by decide +kernel
theorem dX8_undo_25 : decode cX8_undo 25 = .ok (.if_icmp .ge 29, 3) := by decide +kernel
theorem dX8_undo_28 : decode cX8_undo 28 = .ok (.aload_n 0, 1) := by decide +kernel
theorem dX8_undo_29 : decode cX8_undo 29 = .ok (.getfield 7, 3) := by decide +kernel
theorem dX8_undo_32 : decode cX8_undo 32 = .ok (.iload_n 1, 1) := by decide +kernel
theorem dX8_undo_33 : decode cX8_undo 33 = .ok (.aload_n 0, 1) := by decide +kernel
theorem dX8_undo_34 : decode cX8_undo 34 = .ok (.getfield 20, 3) := by decide +kernel
theorem dX8_undo_37 : decode cX8_undo 37 = .ok (.bipush 33, 2) := by decide +kernel
theorem dX8_undo_39 : decode cX8_undo 39 = .ok (.aload_n 0, 1) := by decide +kernel
theorem dX8_undo_40 : decode cX8_undo 40 = .ok (.getfield 137, 3) := by decide +kernel
theorem dX8_undo_43 : decode cX8_undo 43 = .ok (.imul, 1) := by decide +kernel
theorem dX8_undo_44 : decode cX8_undo 44 = .ok (.iload_n 1, 1) := by decide +kernel
theorem dX8_undo_45 : decode cX8_undo 45 = .ok (.iadd, 1) := by decide +kernel
theorem dX8_undo_46 : decode cX8_undo 46 = .ok (.iaload, 1) := by decide +kernel
theorem dX8_undo_47 : decode cX8_undo 47 = .ok (.iastore, 1) := by decide +kernel
theorem dX8_undo_48 : decode cX8_undo 48 = .ok (.iinc 1 1, 3) := by decide +kernel
theorem dX8_undo_51 : decode cX8_undo 51 = .ok (.goto (-29), 3) := by decide +kernel
theorem dX8_undo_54 : decode cX8_undo 54 = .ok (.aload_n 0, 1) := by decide +kernel
theorem dX8_undo_55 : decode cX8_undo 55 = .ok (.getfield 137, 3) := by decide +kernel
theorem dX8_undo_58 : decode cX8_undo 58 = .ok (.ireturn, 1) := by decide +kernel
set_option maxRecDepth 20000 in
theorem ggX8_toy_X8_isToy : GoodIn wsX8_toy wsX8_isToy := goodIn_r _ [8, 9, 10, 11, 7, 12, 3, 13, 14, 15, 29, 30, 31, 32, 33, 34, 35, 36, 37, 38, 39, 40, 41, 42, 43, 44, 45, 46, 47, 48, 49, 50, 51, 52] (by decide +kernel) (by decide +kernel)
set_option maxRecDepth 20000 in
theorem gX8_toy_X8_isToy : GoodIn wsX8_toy (wsV RX8 187 RX8 yX8_isToy wsX8_isToy) := goodIn_app (goodIn_of _ (by decide +kernel)) ggX8_toy_X8_isToy
set_option maxRecDepth 20000 in
theorem ggX8_toy_X8_in : GoodIn wsX8_toy wsX8_in := goodIn_r _ [15] (by decide +kernel) (by decide +kernel)
set_option maxRecDepth 20000 in
theorem gX8_toy_X8_in : GoodIn wsX8_toy (va_wsS RX8 61 yX8_in wsX8_in) := goodIn_app (goodIn_of _ (by decide +kernel)) ggX8_toy_X8_in
set_option maxRecDepth 20000 in
theorem ggX8_toy_X8_needOf : GoodIn wsX8_toy wsX8_needOf := goodIn_r _ [18, 19, 20, 7, 21] (by decide +kernel) (by decide +kernel)
set_option maxRecDepth 20000 in
theorem gX8_toy_X8_needOf : GoodIn wsX8_toy (va_wsS RX8 156 yX8_needOf wsX8_needOf) := goodIn_app (goodIn_of _ (by decide +kernel)) ggX8_toy_X8_needOf
set_option maxRecDepth 20000 in
theorem ggX8_toy_X8_isColumn : GoodIn wsX8_toy wsX8_isColumn := goodIn_r _ [24, 25, 13, 14, 7, 15] (by decide +kernel) (by decide +kernel)
set_option maxRecDepth 20000 in
theorem gX8_toy_X8_isColumn : GoodIn wsX8_toy (va_wsS RX8 177 yX8_isColumn wsX8_isColumn) := goodIn_app (goodIn_of _ (by decide +kernel)) ggX8_toy_X8_isColumn
set_option maxRecDepth 20000 in
theorem ggX8_toy_X8_lyingIn : GoodIn wsX8_toy wsX8_lyingIn := goodIn_r _ [28] (by decide +kernel) (by decide +kernel)
set_option maxRecDepth 20000 in
theorem gX8_toy_X8_lyingIn : GoodIn wsX8_toy (va_wsS RX8 149 yX8_lyingIn wsX8_lyingIn) := goodIn_app (goodIn_of _ (by decide +kernel)) ggX8_toy_X8_lyingIn
theorem dX8_toy_0 : decode cX8_toy 0 = .ok (.aload_n 0, 1) := by decide +kernel
theorem dX8_toy_1 : decode cX8_toy 1 = .ok (.iload_n 1, 1) := by decide +kernel
theorem dX8_toy_2 : decode cX8_toy 2 = .ok (.invokevirtual 187, 3) := by decide +kernel
theorem dX8_toy_5 : decode cX8_toy 5 = .ok (.ifCond .eq 15, 3) := by decide +kernel
theorem dX8_toy_8 : decode cX8_toy 8 = .ok (.iload_n 2, 1) := by decide +kernel
theorem dX8_toy_9 : decode cX8_toy 9 = .ok (.i2l, 1) := by decide +kernel
theorem dX8_toy_10 : decode cX8_toy 10 = .ok (.lconst 0, 1) := by decide +kernel
theorem dX8_toy_11 : decode cX8_toy 11 = .ok (.ldc2_w 192, 3) := by decide +kernel
theorem dX8_toy_14 : decode cX8_toy 14 = .ok (.invokestatic 61, 3) := by decide +kernel
theorem dX8_toy_17 : decode cX8_toy 17 = .ok (.ifCond .ne 6, 3) := by decide +kernel
theorem dX8_toy_20 : decode cX8_toy 20 = .ok (.ldc 71, 2) := by decide +kernel
theorem dX8_toy_22 : decode cX8_toy 22 = .ok (.ireturn, 1) := by decide +kernel
theorem dX8_toy_23 : decode cX8_toy 23 = .ok (.aload_n 0, 1) := by decide +kernel
theorem dX8_toy_24 : decode cX8_toy 24 = .ok (.getfield 7, 3) := by decide +kernel
theorem dX8_toy_27 : decode cX8_toy 27 = .ok (.bipush 19, 2) := by decide +kernel
theorem dX8_toy_29 : decode cX8_toy 29 = .ok (.iload_n 1, 1) := by decide +kernel
theorem dX8_toy_30 : decode cX8_toy 30 = .ok (.iadd, 1) := by decide +kernel
theorem dX8_toy_31 : decode cX8_toy 31 = .ok (.iaload, 1) := by decide +kernel
theorem dX8_toy_32 : decode cX8_toy 32 = .ok (.istore_n 3, 1) := by decide +kernel
theorem dX8_toy_33 : decode cX8_toy 33 = .ok (.iload_n 2, 1) := by decide +kernel
theorem dX8_toy_34 : decode cX8_toy 34 = .ok (.tableswitch 83 0 3 #[30, 40, 42, 51], 30) := by decide +kernel
theorem dX8_toy_64 : decode cX8_toy 64 = .ok (.aload_n 0, 1) := by decide +kernel
theorem dX8_toy_65 : decode cX8_toy 65 = .ok (.getfield 7, 3) := by decide +kernel
theorem dX8_toy_68 : decode cX8_toy 68 = .ok (.bipush 8, 2) := by decide +kernel
theorem dX8_toy_70 : decode cX8_toy 70 = .ok (.iload_n 1, 1) := by decide +kernel
theorem dX8_toy_71 : decode cX8_toy 71 = .ok (.iadd, 1) := by decide +kernel
theorem dX8_toy_72 : decode cX8_toy 72 = .ok (.iaload, 1) := by decide +kernel
theorem dX8_toy_73 : decode cX8_toy 73 = .ok (.ireturn, 1) := by decide +kernel
theorem dX8_toy_74 : decode cX8_toy 74 = .ok (.iload_n 3, 1) := by decide +kernel
theorem dX8_toy_75 : decode cX8_toy 75 = .ok (.ireturn, 1) := by decide +kernel
theorem dX8_toy_76 : decode cX8_toy 76 = .ok (.aload_n 0, 1) := by decide +kernel
theorem dX8_toy_77 : decode cX8_toy 77 = .ok (.getfield 7, 3) := by decide +kernel
theorem dX8_toy_80 : decode cX8_toy 80 = .ok (.iload_n 1, 1) := by decide +kernel
theorem dX8_toy_81 : decode cX8_toy 81 = .ok (.invokestatic 156, 3) := by decide +kernel
theorem dX8_toy_84 : decode cX8_toy 84 = .ok (.ireturn, 1) := by decide +kernel
theorem dX8_toy_85 : decode cX8_toy 85 = .ok (.iload_n 3, 1) := by decide +kernel
theorem dX8_toy_86 : decode cX8_toy 86 = .ok (.invokestatic 177, 3) := by decide +kernel
theorem dX8_toy_89 : decode cX8_toy 89 = .ok (.ifCond .eq 26, 3) := by decide +kernel
theorem dX8_toy_92 : decode cX8_toy 92 = .ok (.aload_n 0, 1) := by decide +kernel
theorem dX8_toy_93 : decode cX8_toy 93 = .ok (.getfield 7, 3) := by decide +kernel
theorem dX8_toy_96 : decode cX8_toy 96 = .ok (.iload_n 3, 1) := by decide +kernel
theorem dX8_toy_97 : decode cX8_toy 97 = .ok (.invokestatic 149, 3) := by decide +kernel
theorem dX8_toy_100 : decode cX8_toy 100 = .ok (.iconst 1, 1) := by decide +kernel
theorem dX8_toy_101 : decode cX8_toy 101 = .ok (.isub, 1) := by decide +kernel
theorem dX8_toy_102 : decode cX8_toy 102 = .ok (.aload_n 0, 1) := by decide +kernel
theorem dX8_toy_103 : decode cX8_toy 103 = .ok (.getfield 7, 3) := by decide +kernel
theorem dX8_toy_106 : decode cX8_toy 106 = .ok (.bipush 26, 2) := by decide +kernel
theorem dX8_toy_108 : decode cX8_toy 108 = .ok (.iload_n 1, 1) := by decide +kernel
theorem dX8_toy_109 : decode cX8_toy 109 = .ok (.iadd, 1) := by decide +kernel
theorem dX8_toy_110 : decode cX8_toy 110 = .ok (.iaload, 1) := by decide +kernel
theorem dX8_toy_111 : decode cX8_toy 111 = .ok (.isub, 1) := by decide +kernel
theorem dX8_toy_112 : decode cX8_toy 112 = .ok (.goto 4, 3) := by decide +kernel
theorem dX8_toy_115 : decode cX8_toy 115 = .ok (.iconst 0, 1) := by decide +kernel
theorem dX8_toy_116 : decode cX8_toy 116 = .ok (.ireturn, 1) := by decide +kernel
theorem dX8_toy_117 : decode cX8_toy 117 = .ok (.aload_n 0, 1) := by decide +kernel
theorem dX8_toy_118 : decode cX8_toy 118 = .ok (.getfield 7, 3) := by decide +kernel
theorem dX8_toy_121 : decode cX8_toy 121 = .ok (.bipush 26, 2) := by decide +kernel
theorem dX8_toy_123 : decode cX8_toy 123 = .ok (.iload_n 1, 1) := by decide +kernel
theorem dX8_toy_124 : decode cX8_toy 124 = .ok (.iadd, 1) := by decide +kernel
theorem dX8_toy_125 : decode cX8_toy 125 = .ok (.iaload, 1) := by decide +kernel
theorem dX8_toy_126 : decode cX8_toy 126 = .ok (.ireturn, 1) := by decide +kernel
set_option maxRecDepth 20000 in
theorem ggX8_setIn_X8_toys : GoodIn wsX8_setIn wsX8_toys := goodIn_r _ [6, 1, 7, 8, 9, 10, 11, 12, 13, 14, 15, 16, 17, 18, 19, 20, 21, 22, 23, 24, 25, 26, 27, 28, 29, 30] (by decide +kernel) (by decide +kernel)
set_option maxRecDepth 20000 in
theorem gX8_setIn_X8_toys : GoodIn wsX8_setIn (wsV RX8 140 RX8 yX8_toys wsX8_toys) := goodIn_app (goodIn_of _ (by decide +kernel)) ggX8_setIn_X8_toys
theorem dX8_setIn_0 : decode cX8_setIn 0 = .ok (.iconst 0, 1) := by decide +kernel
theorem dX8_setIn_1 : decode cX8_setIn 1 = .ok (.istore_n 2, 1) := by decide +kernel
theorem dX8_setIn_2 : decode cX8_setIn 2 = .ok (.iconst 0, 1) := by decide +kernel
theorem dX8_setIn_3 : decode cX8_setIn 3 = .ok (.istore_n 3, 1) := by decide +kernel
theorem dX8_setIn_4 : decode cX8_setIn 4 = .ok (.iload_n 3, 1) := by decide +kernel
theorem dX8_setIn_5 : decode cX8_setIn 5 = .ok (.aload_n 0, 1) := by decide +kernel
theorem dX8_setIn_6 : decode cX8_setIn 6 = .ok (.invokevirtual 140, 3) := by decide +kernel
theorem dX8_setIn_9 : decode cX8_setIn 9 = .ok (.if_icmp .ge 32, 3) := by decide +kernel
theorem dX8_setIn_12 : decode cX8_setIn 12 = .ok (.iload_n 2, 1) := by decide +kernel
theorem dX8_setIn_13 : decode cX8_setIn 13 = .ok (.aload_n 0, 1) := by decide +kernel
theorem dX8_setIn_14 : decode cX8_setIn 14 = .ok (.getfield 7, 3) := by decide +kernel
theorem dX8_setIn_17 : decode cX8_setIn 17 = .ok (.bipush 19, 2) := by decide +kernel
theorem dX8_setIn_19 : decode cX8_setIn 19 = .ok (.iload_n 3, 1) := by decide +kernel
theorem dX8_setIn_20 : decode cX8_setIn 20 = .ok (.iadd, 1) := by decide +kernel
theorem dX8_setIn_21 : decode cX8_setIn 21 = .ok (.iaload, 1) := by decide +kernel
theorem dX8_setIn_22 : decode cX8_setIn 22 = .ok (.iload_n 1, 1) := by decide +kernel
theorem dX8_setIn_23 : decode cX8_setIn 23 = .ok (.if_icmp .ne 9, 3) := by decide +kernel
theorem dX8_setIn_26 : decode cX8_setIn 26 = .ok (.iconst 1, 1) := by decide +kernel
theorem dX8_setIn_27 : decode cX8_setIn 27 = .ok (.iload_n 3, 1) := by decide +kernel
theorem dX8_setIn_28 : decode cX8_setIn 28 = .ok (.ishl, 1) := by decide +kernel
theorem dX8_setIn_29 : decode cX8_setIn 29 = .ok (.goto 4, 3) := by decide +kernel
theorem dX8_setIn_32 : decode cX8_setIn 32 = .ok (.iconst 0, 1) := by decide +kernel
theorem dX8_setIn_33 : decode cX8_setIn 33 = .ok (.ior, 1) := by decide +kernel
theorem dX8_setIn_34 : decode cX8_setIn 34 = .ok (.istore_n 2, 1) := by decide +kernel
theorem dX8_setIn_35 : decode cX8_setIn 35 = .ok (.iinc 3 1, 3) := by decide +kernel
theorem dX8_setIn_38 : decode cX8_setIn 38 = .ok (.goto (-34), 3) := by decide +kernel
theorem dX8_setIn_41 : decode cX8_setIn 41 = .ok (.iload_n 2, 1) := by decide +kernel
theorem dX8_setIn_42 : decode cX8_setIn 42 = .ok (.ireturn, 1) := by decide +kernel
set_option maxRecDepth 20000 in
theorem ggX8_column_X8_toys : GoodIn wsX8_column wsX8_toys := goodIn_r _ [10, 4, 28, 29, 30, 31, 32, 33, 34, 35, 36, 37, 38, 39, 40, 41, 42, 43, 44, 45, 46, 47, 48, 49, 50, 51] (by decide +kernel) (by decide +kernel)
set_option maxRecDepth 20000 in
theorem gX8_column_X8_toys : GoodIn wsX8_column (wsV RX8 140 RX8 yX8_toys wsX8_toys) := goodIn_app (goodIn_of _ (by decide +kernel)) ggX8_column_X8_toys
set_option maxRecDepth 20000 in
theorem ggX8_column_X8_isColumn : GoodIn wsX8_column wsX8_isColumn := goodIn_r _ [13, 14, 15, 16, 9, 17] (by decide +kernel) (by decide +kernel)
set_option maxRecDepth 20000 in
theorem gX8_column_X8_isColumn : GoodIn wsX8_column (va_wsS RX8 177 yX8_isColumn wsX8_isColumn) := goodIn_app (goodIn_of _ (by decide +kernel)) ggX8_column_X8_isColumn
set_option maxRecDepth 20000 in
theorem ggX8_column_X8_in : GoodIn wsX8_column wsX8_in := goodIn_r _ [17] (by decide +kernel) (by decide +kernel)
set_option maxRecDepth 20000 in
theorem gX8_column_X8_in : GoodIn wsX8_column (va_wsS RX8 61 yX8_in wsX8_in) := goodIn_app (goodIn_of _ (by decide +kernel)) ggX8_column_X8_in
set_option maxRecDepth 20000 in
theorem ggX8_column_X8_topOf : GoodIn wsX8_column wsX8_topOf := goodIn_r _ [20] (by decide +kernel) (by decide +kernel)
set_option maxRecDepth 20000 in
theorem gX8_column_X8_topOf : GoodIn wsX8_column (va_wsS RX8 153 yX8_topOf wsX8_topOf) := goodIn_app (goodIn_of _ (by decide +kernel)) ggX8_column_X8_topOf
set_option maxRecDepth 20000 in
theorem ggX8_column_X8_lyingIn : GoodIn wsX8_column wsX8_lyingIn := goodIn_r _ [23] (by decide +kernel) (by decide +kernel)
set_option maxRecDepth 20000 in
theorem gX8_column_X8_lyingIn : GoodIn wsX8_column (va_wsS RX8 149 yX8_lyingIn wsX8_lyingIn) := goodIn_app (goodIn_of _ (by decide +kernel)) ggX8_column_X8_lyingIn
set_option maxRecDepth 20000 in
theorem ggX8_column_X8_setIn : GoodIn wsX8_column wsX8_setIn := goodIn_r _ [27, 4, 6, 7, 8, 9, 10, 28, 29, 30, 31, 32, 33, 34, 35, 36, 37, 38, 39, 40, 41, 42, 43, 44, 45, 46, 47, 48, 49, 50, 51] (by decide +kernel) (by decide +kernel)
set_option maxRecDepth 20000 in
theorem gX8_column_X8_setIn : GoodIn wsX8_column (wsV RX8 194 RX8 yX8_setIn wsX8_setIn) := goodIn_app (goodIn_of _ (by decide +kernel)) ggX8_column_X8_setIn
theorem dX8_column_0 : decode cX8_column 0 = .ok (.aload_n 0, 1) := by decide +kernel
theorem dX8_column_1 : decode cX8_column 1 = .ok (.invokevirtual 140, 3) := by decide +kernel
theorem dX8_column_4 : decode cX8_column 4 = .ok (.ifCond .ne 6, 3) := by decide +kernel
theorem dX8_column_7 : decode cX8_column 7 = .ok (.ldc 176, 2) := by decide +kernel
theorem dX8_column_9 : decode cX8_column 9 = .ok (.ireturn, 1) := by decide +kernel
theorem dX8_column_10 : decode cX8_column 10 = .ok (.iload_n 1, 1) := by decide +kernel
theorem dX8_column_11 : decode cX8_column 11 = .ok (.invokestatic 177, 3) := by decide +kernel
theorem dX8_column_14 : decode cX8_column 14 = .ok (.ifCond .eq 15, 3) := by decide +kernel
theorem dX8_column_17 : decode cX8_column 17 = .ok (.iload_n 2, 1) := by decide +kernel
theorem dX8_column_18 : decode cX8_column 18 = .ok (.i2l, 1) := by decide +kernel
theorem dX8_column_19 : decode cX8_column 19 = .ok (.lconst 0, 1) := by decide +kernel
theorem dX8_column_20 : decode cX8_column 20 = .ok (.ldc2_w 69, 3) := by decide +kernel
theorem dX8_column_23 : decode cX8_column 23 = .ok (.invokestatic 61, 3) := by decide +kernel
theorem dX8_column_26 : decode cX8_column 26 = .ok (.ifCond .ne 6, 3) := by decide +kernel
theorem dX8_column_29 : decode cX8_column 29 = .ok (.ldc 71, 2) := by decide +kernel
theorem dX8_column_31 : decode cX8_column 31 = .ok (.ireturn, 1) := by decide +kernel
theorem dX8_column_32 : decode cX8_column 32 = .ok (.aload_n 0, 1) := by decide +kernel
theorem dX8_column_33 : decode cX8_column 33 = .ok (.getfield 7, 3) := by decide +kernel
theorem dX8_column_36 : decode cX8_column 36 = .ok (.iload_n 1, 1) := by decide +kernel
theorem dX8_column_37 : decode cX8_column 37 = .ok (.invokestatic 153, 3) := by decide +kernel
theorem dX8_column_40 : decode cX8_column 40 = .ok (.istore_n 3, 1) := by decide +kernel
theorem dX8_column_41 : decode cX8_column 41 = .ok (.iload_n 2, 1) := by decide +kernel
theorem dX8_column_42 : decode cX8_column 42 = .ok (.ifCond .ne 14, 3) := by decide +kernel
theorem dX8_column_45 : decode cX8_column 45 = .ok (.aload_n 0, 1) := by decide +kernel
theorem dX8_column_46 : decode cX8_column 46 = .ok (.getfield 7, 3) := by decide +kernel
theorem dX8_column_49 : decode cX8_column 49 = .ok (.iload_n 1, 1) := by decide +kernel
theorem dX8_column_50 : decode cX8_column 50 = .ok (.invokestatic 149, 3) := by decide +kernel
theorem dX8_column_53 : decode cX8_column 53 = .ok (.goto 26, 3) := by decide +kernel
theorem dX8_column_56 : decode cX8_column 56 = .ok (.iload_n 2, 1) := by decide +kernel
theorem dX8_column_57 : decode cX8_column 57 = .ok (.iconst 2, 1) := by decide +kernel
theorem dX8_column_58 : decode cX8_column 58 = .ok (.if_icmp .ne 11, 3) := by decide +kernel
theorem dX8_column_61 : decode cX8_column 61 = .ok (.aload_n 0, 1) := by decide +kernel
theorem dX8_column_62 : decode cX8_column 62 = .ok (.iload_n 1, 1) := by decide +kernel
theorem dX8_column_63 : decode cX8_column 63 = .ok (.invokevirtual 194, 3) := by decide +kernel
theorem dX8_column_66 : decode cX8_column 66 = .ok (.goto 13, 3) := by decide +kernel
theorem dX8_column_69 : decode cX8_column 69 = .ok (.iload_n 3, 1) := by decide +kernel
theorem dX8_column_70 : decode cX8_column 70 = .ok (.ifCond .ge 8, 3) := by decide +kernel
theorem dX8_column_73 : decode cX8_column 73 = .ok (.ldc 186, 2) := by decide +kernel
theorem dX8_column_75 : decode cX8_column 75 = .ok (.goto 4, 3) := by decide +kernel
theorem dX8_column_78 : decode cX8_column 78 = .ok (.iload_n 3, 1) := by decide +kernel
theorem dX8_column_79 : decode cX8_column 79 = .ok (.ireturn, 1) := by decide +kernel
theorem dX8_layHand_0 : decode cX8_layHand 0 = .ok (.iconst 0, 1) := by decide +kernel
theorem dX8_layHand_1 : decode cX8_layHand 1 = .ok (.istore_n 1, 1) := by decide +kernel
theorem dX8_layHand_2 : decode cX8_layHand 2 = .ok (.iload_n 1, 1) := by decide +kernel
theorem dX8_layHand_3 : decode cX8_layHand 3 = .ok (.bipush 33, 2) := by decide +kernel
theorem dX8_layHand_5 : decode cX8_layHand 5 = .ok (.if_icmp .ge 21, 3) := by decide +kernel
theorem dX8_layHand_8 : decode cX8_layHand 8 = .ok (.aload_n 0, 1) := by decide +kernel
theorem dX8_layHand_9 : decode cX8_layHand 9 = .ok (.getfield 44, 3) := by decide +kernel
theorem dX8_layHand_12 : decode cX8_layHand 12 = .ok (.iload_n 1, 1) := by decide +kernel
theorem dX8_layHand_13 : decode cX8_layHand 13 = .ok (.aload_n 0, 1) := by decide +kernel
theorem dX8_layHand_14 : decode cX8_layHand 14 = .ok (.getfield 7, 3) := by decide +kernel
theorem dX8_layHand_17 : decode cX8_layHand 17 = .ok (.iload_n 1, 1) := by decide +kernel
theorem dX8_layHand_18 : decode cX8_layHand 18 = .ok (.iaload, 1) := by decide +kernel
theorem dX8_layHand_19 : decode cX8_layHand 19 = .ok (.iastore, 1) := by decide +kernel
theorem dX8_layHand_20 : decode cX8_layHand 20 = .ok (.iinc 1 1, 3) := by decide +kernel
theorem dX8_layHand_23 : decode cX8_layHand 23 = .ok (.goto (-21), 3) := by decide +kernel
theorem dX8_layHand_26 : decode cX8_layHand 26 = .ok (.return_, 1) := by decide +kernel
set_option maxRecDepth 20000 in
theorem ggX8_gives_X8_toys : GoodIn wsX8_gives wsX8_toys := goodIn_r _ [9, 10, 52, 53, 54, 55, 56, 57, 58, 59, 60, 61, 62, 63, 64, 65, 66, 67, 68, 69, 70, 71, 72, 73, 74, 75] (by decide +kernel) (by decide +kernel)
set_option maxRecDepth 20000 in
theorem gX8_gives_X8_toys : GoodIn wsX8_gives (wsV RX8 140 RX8 yX8_toys wsX8_toys) := goodIn_app (goodIn_of _ (by decide +kernel)) ggX8_gives_X8_toys
set_option maxRecDepth 20000 in
theorem ggX8_gives_X8_isColumn : GoodIn wsX8_gives wsX8_isColumn := goodIn_r _ [13, 14, 15, 16, 8, 17] (by decide +kernel) (by decide +kernel)
set_option maxRecDepth 20000 in
theorem gX8_gives_X8_isColumn : GoodIn wsX8_gives (va_wsS RX8 177 yX8_isColumn wsX8_isColumn) := goodIn_app (goodIn_of _ (by decide +kernel)) ggX8_gives_X8_isColumn
set_option maxRecDepth 20000 in
theorem ggX8_gives_X8_layHand : GoodIn wsX8_gives wsX8_layHand := goodIn_r _ [21, 3, 10, 52, 53, 54, 55, 56, 57, 58, 59, 60, 61, 62, 63, 64, 65, 66, 67, 68, 69, 70, 71, 72, 73, 74, 75] (by decide +kernel) (by decide +kernel)
set_option maxRecDepth 20000 in
theorem gX8_gives_X8_layHand : GoodIn wsX8_gives (wsV RX8 197 RX8 yX8_layHand wsX8_layHand) := goodIn_app (goodIn_of _ (by decide +kernel)) ggX8_gives_X8_layHand
set_option maxRecDepth 20000 in
theorem ggX8_gives_X8_goNext : GoodIn wsX8_gives wsX8_goNext := goodIn_r _ [24, 25, 26, 8, 27, 28, 29, 30, 31, 32, 33, 34, 35, 36, 37, 38, 39, 40, 41, 42, 43, 44, 45, 46, 47, 48, 49, 50, 51] (by decide +kernel) (by decide +kernel)
set_option maxRecDepth 20000 in
theorem gX8_gives_X8_goNext : GoodIn wsX8_gives (va_wsS RX8 183 yX8_goNext wsX8_goNext) := goodIn_app (goodIn_of _ (by decide +kernel)) ggX8_gives_X8_goNext
theorem dX8_gives_0 : decode cX8_gives 0 = .ok (.aload_n 0, 1) := by decide +kernel
theorem dX8_gives_1 : decode cX8_gives 1 = .ok (.invokevirtual 140, 3) := by decide +kernel
theorem dX8_gives_4 : decode cX8_gives 4 = .ok (.ifCond .ne 6, 3) := by decide +kernel
theorem dX8_gives_7 : decode cX8_gives 7 = .ok (.ldc 176, 2) := by decide +kernel
theorem dX8_gives_9 : decode cX8_gives 9 = .ok (.ireturn, 1) := by decide +kernel
theorem dX8_gives_10 : decode cX8_gives 10 = .ok (.iload_n 1, 1) := by decide +kernel
theorem dX8_gives_11 : decode cX8_gives 11 = .ok (.invokestatic 177, 3) := by decide +kernel
theorem dX8_gives_14 : decode cX8_gives 14 = .ok (.ifCond .ne 6, 3) := by decide +kernel
theorem dX8_gives_17 : decode cX8_gives 17 = .ok (.ldc 71, 2) := by decide +kernel
theorem dX8_gives_19 : decode cX8_gives 19 = .ok (.ireturn, 1) := by decide +kernel
theorem dX8_gives_20 : decode cX8_gives 20 = .ok (.aload_n 0, 1) := by decide +kernel
theorem dX8_gives_21 : decode cX8_gives 21 = .ok (.invokevirtual 197, 3) := by decide +kernel
theorem dX8_gives_24 : decode cX8_gives 24 = .ok (.aload_n 0, 1) := by decide +kernel
theorem dX8_gives_25 : decode cX8_gives 25 = .ok (.getfield 44, 3) := by decide +kernel
theorem dX8_gives_28 : decode cX8_gives 28 = .ok (.iload_n 1, 1) := by decide +kernel
theorem dX8_gives_29 : decode cX8_gives 29 = .ok (.invokestatic 183, 3) := by decide +kernel
theorem dX8_gives_32 : decode cX8_gives 32 = .ok (.istore_n 2, 1) := by decide +kernel
theorem dX8_gives_33 : decode cX8_gives 33 = .ok (.iload_n 2, 1) := by decide +kernel
theorem dX8_gives_34 : decode cX8_gives 34 = .ok (.ifCond .ge 8, 3) := by decide +kernel
theorem dX8_gives_37 : decode cX8_gives 37 = .ok (.ldc 186, 2) := by decide +kernel
theorem dX8_gives_39 : decode cX8_gives 39 = .ok (.goto 12, 3) := by decide +kernel
theorem dX8_gives_42 : decode cX8_gives 42 = .ok (.aload_n 0, 1) := by decide +kernel
theorem dX8_gives_43 : decode cX8_gives 43 = .ok (.getfield 44, 3) := by decide +kernel
theorem dX8_gives_46 : decode cX8_gives 46 = .ok (.bipush 19, 2) := by decide +kernel
theorem dX8_gives_48 : decode cX8_gives 48 = .ok (.iload_n 2, 1) := by decide +kernel
theorem dX8_gives_49 : decode cX8_gives 49 = .ok (.iadd, 1) := by decide +kernel
theorem dX8_gives_50 : decode cX8_gives 50 = .ok (.iaload, 1) := by decide +kernel
theorem dX8_gives_51 : decode cX8_gives 51 = .ok (.ireturn, 1) := by decide +kernel
set_option maxRecDepth 20000 in
theorem ggX8_grips_X8_toys : GoodIn wsX8_grips wsX8_toys := goodIn_r _ [9, 3, 16, 17, 18, 19, 20, 21, 22, 23, 24, 25, 26, 27, 28, 29, 30, 31, 32, 33, 34, 35, 36, 37, 38, 39] (by decide +kernel) (by decide +kernel)
set_option maxRecDepth 20000 in
theorem gX8_grips_X8_toys : GoodIn wsX8_grips (wsV RX8 140 RX8 yX8_toys wsX8_toys) := goodIn_app (goodIn_of _ (by decide +kernel)) ggX8_grips_X8_toys
set_option maxRecDepth 20000 in
theorem ggX8_grips_X8_in : GoodIn wsX8_grips wsX8_in := goodIn_r _ [12] (by decide +kernel) (by decide +kernel)
set_option maxRecDepth 20000 in
theorem gX8_grips_X8_in : GoodIn wsX8_grips (va_wsS RX8 61 yX8_in wsX8_in) := goodIn_app (goodIn_of _ (by decide +kernel)) ggX8_grips_X8_in
set_option maxRecDepth 20000 in
theorem ggX8_grips_X8_gripOf : GoodIn wsX8_grips wsX8_gripOf := goodIn_r _ [15] (by decide +kernel) (by decide +kernel)
set_option maxRecDepth 20000 in
theorem gX8_grips_X8_gripOf : GoodIn wsX8_grips (va_wsS RX8 169 yX8_gripOf wsX8_gripOf) := goodIn_app (goodIn_of _ (by decide +kernel)) ggX8_grips_X8_gripOf
theorem dX8_grips_0 : decode cX8_grips 0 = .ok (.aload_n 0, 1) := by decide +kernel
theorem dX8_grips_1 : decode cX8_grips 1 = .ok (.invokevirtual 140, 3) := by decide +kernel
theorem dX8_grips_4 : decode cX8_grips 4 = .ok (.ifCond .ne 6, 3) := by decide +kernel
theorem dX8_grips_7 : decode cX8_grips 7 = .ok (.ldc 176, 2) := by decide +kernel
theorem dX8_grips_9 : decode cX8_grips 9 = .ok (.ireturn, 1) := by decide +kernel
theorem dX8_grips_10 : decode cX8_grips 10 = .ok (.iload_n 1, 1) := by decide +kernel
theorem dX8_grips_11 : decode cX8_grips 11 = .ok (.i2l, 1) := by decide +kernel
theorem dX8_grips_12 : decode cX8_grips 12 = .ok (.lconst 0, 1) := by decide +kernel
theorem dX8_grips_13 : decode cX8_grips 13 = .ok (.ldc2_w 200, 3) := by decide +kernel
theorem dX8_grips_16 : decode cX8_grips 16 = .ok (.invokestatic 61, 3) := by decide +kernel
theorem dX8_grips_19 : decode cX8_grips 19 = .ok (.ifCond .eq 24, 3) := by decide +kernel
theorem dX8_grips_22 : decode cX8_grips 22 = .ok (.aload_n 0, 1) := by decide +kernel
theorem dX8_grips_23 : decode cX8_grips 23 = .ok (.getfield 7, 3) := by decide +kernel
theorem dX8_grips_26 : decode cX8_grips 26 = .ok (.aload_n 0, 1) := by decide +kernel
theorem dX8_grips_27 : decode cX8_grips 27 = .ok (.getfield 7, 3) := by decide +kernel
theorem dX8_grips_30 : decode cX8_grips 30 = .ok (.bipush 15, 2) := by decide +kernel
theorem dX8_grips_32 : decode cX8_grips 32 = .ok (.iaload, 1) := by decide +kernel
theorem dX8_grips_33 : decode cX8_grips 33 = .ok (.iconst 1, 1) := by decide +kernel
theorem dX8_grips_34 : decode cX8_grips 34 = .ok (.iadd, 1) := by decide +kernel
theorem dX8_grips_35 : decode cX8_grips 35 = .ok (.iload_n 1, 1) := by decide +kernel
theorem dX8_grips_36 : decode cX8_grips 36 = .ok (.iadd, 1) := by decide +kernel
theorem dX8_grips_37 : decode cX8_grips 37 = .ok (.invokestatic 169, 3) := by decide +kernel
theorem dX8_grips_40 : decode cX8_grips 40 = .ok (.goto 5, 3) := by decide +kernel
theorem dX8_grips_43 : decode cX8_grips 43 = .ok (.ldc 71, 2) := by decide +kernel
theorem dX8_grips_45 : decode cX8_grips 45 = .ok (.ireturn, 1) := by decide +kernel
theorem dX8_power_0 : decode cX8_power 0 = .ok (.iconst 1, 1) := by decide +kernel
theorem dX8_power_1 : decode cX8_power 1 = .ok (.istore_n 1, 1) := by decide +kernel
theorem dX8_power_2 : decode cX8_power 2 = .ok (.iconst 0, 1) := by decide +kernel
theorem dX8_power_3 : decode cX8_power 3 = .ok (.istore_n 2, 1) := by decide +kernel
theorem dX8_power_4 : decode cX8_power 4 = .ok (.iload_n 2, 1) := by decide +kernel
theorem dX8_power_5 : decode cX8_power 5 = .ok (.iload_n 0, 1) := by decide +kernel
theorem dX8_power_6 : decode cX8_power 6 = .ok (.if_icmp .ge 13, 3) := by decide +kernel
theorem dX8_power_9 : decode cX8_power 9 = .ok (.iload_n 1, 1) := by decide +kernel
theorem dX8_power_10 : decode cX8_power 10 = .ok (.iconst 5, 1) := by decide +kernel
theorem dX8_power_11 : decode cX8_power 11 = .ok (.imul, 1) := by decide +kernel
theorem dX8_power_12 : decode cX8_power 12 = .ok (.istore_n 1, 1) := by decide +kernel
theorem dX8_power_13 : decode cX8_power 13 = .ok (.iinc 2 1, 3) := by decide +kernel
theorem dX8_power_16 : decode cX8_power 16 = .ok (.goto (-12), 3) := by decide +kernel
theorem dX8_power_19 : decode cX8_power 19 = .ok (.iload_n 1, 1) := by decide +kernel
theorem dX8_power_20 : decode cX8_power 20 = .ok (.ireturn, 1) := by decide +kernel
set_option maxRecDepth 20000 in
theorem ggX8_goBy_X8_power : GoodIn wsX8_goBy wsX8_power := goodIn_r _ [5] (by decide +kernel) (by decide +kernel)
set_option maxRecDepth 20000 in
theorem gX8_goBy_X8_power : GoodIn wsX8_goBy (va_wsS RX8 202 yX8_power wsX8_power) := goodIn_app (goodIn_of _ (by decide +kernel)) ggX8_goBy_X8_power
set_option maxRecDepth 20000 in
theorem ggX8_goBy_X8_layHand : GoodIn wsX8_goBy wsX8_layHand := goodIn_r _ [9, 1, 10, 41, 42, 43, 44, 45, 46, 47, 48, 49, 50, 51, 52, 53, 54, 55, 56, 57, 58, 59, 60, 61, 62, 63, 64] (by decide +kernel) (by decide +kernel)
set_option maxRecDepth 20000 in
theorem gX8_goBy_X8_layHand : GoodIn wsX8_goBy (wsV RX8 197 RX8 yX8_layHand wsX8_layHand) := goodIn_app (goodIn_of _ (by decide +kernel)) ggX8_goBy_X8_layHand
set_option maxRecDepth 20000 in
theorem ggX8_goBy_X8_goNext : GoodIn wsX8_goBy wsX8_goNext := goodIn_r _ [13, 14, 15, 4, 16, 17, 18, 19, 20, 21, 22, 23, 24, 25, 26, 27, 28, 29, 30, 31, 32, 33, 34, 35, 36, 37, 38, 39, 40] (by decide +kernel) (by decide +kernel)
set_option maxRecDepth 20000 in
theorem gX8_goBy_X8_goNext : GoodIn wsX8_goBy (va_wsS RX8 183 yX8_goNext wsX8_goNext) := goodIn_app (goodIn_of _ (by decide +kernel)) ggX8_goBy_X8_goNext
theorem dX8_goBy_0 : decode cX8_goBy 0 = .ok (.iload_n 1, 1) := by decide +kernel
theorem dX8_goBy_1 : decode cX8_goBy 1 = .ok (.invokestatic 202, 3) := by decide +kernel
theorem dX8_goBy_4 : decode cX8_goBy 4 = .ok (.istore_n 3, 1) := by decide +kernel
theorem dX8_goBy_5 : decode cX8_goBy 5 = .ok (.iload_n 2, 1) := by decide +kernel
theorem dX8_goBy_6 : decode cX8_goBy 6 = .ok (.istore 4, 2) := by decide +kernel
theorem dX8_goBy_8 : decode cX8_goBy 8 = .ok (.aload_n 0, 1) := by decide +kernel
theorem dX8_goBy_9 : decode cX8_goBy 9 = .ok (.invokevirtual 197, 3) := by decide +kernel
theorem dX8_goBy_12 : decode cX8_goBy 12 = .ok (.iconst 0, 1) := by decide +kernel
theorem dX8_goBy_13 : decode cX8_goBy 13 = .ok (.istore 5, 2) := by decide +kernel
theorem dX8_goBy_15 : decode cX8_goBy 15 = .ok (.iload 5, 2) := by decide +kernel
theorem dX8_goBy_17 : decode cX8_goBy 17 = .ok (.iload_n 1, 1) := by decide +kernel
theorem dX8_goBy_18 : decode cX8_goBy 18 = .ok (.if_icmp .ge 34, 3) := by decide +kernel
theorem dX8_goBy_21 : decode cX8_goBy 21 = .ok (.iload_n 3, 1) := by decide +kernel
theorem dX8_goBy_22 : decode cX8_goBy 22 = .ok (.iconst 5, 1) := by decide +kernel
theorem dX8_goBy_23 : decode cX8_goBy 23 = .ok (.idiv, 1) := by decide +kernel
theorem dX8_goBy_24 : decode cX8_goBy 24 = .ok (.istore_n 3, 1) := by decide +kernel
theorem dX8_goBy_25 : decode cX8_goBy 25 = .ok (.aload_n 0, 1) := by decide +kernel
theorem dX8_goBy_26 : decode cX8_goBy 26 = .ok (.getfield 44, 3) := by decide +kernel
theorem dX8_goBy_29 : decode cX8_goBy 29 = .ok (.iload 4, 2) := by decide +kernel
theorem dX8_goBy_31 : decode cX8_goBy 31 = .ok (.iload_n 3, 1) := by decide +kernel
theorem dX8_goBy_32 : decode cX8_goBy 32 = .ok (.idiv, 1) := by decide +kernel
theorem dX8_goBy_33 : decode cX8_goBy 33 = .ok (.iconst 1, 1) := by decide +kernel
theorem dX8_goBy_34 : decode cX8_goBy 34 = .ok (.iadd, 1) := by decide +kernel
theorem dX8_goBy_35 : decode cX8_goBy 35 = .ok (.invokestatic 183, 3) := by decide +kernel
theorem dX8_goBy_38 : decode cX8_goBy 38 = .ok (.istore 6, 2) := by decide +kernel
theorem dX8_goBy_40 : decode cX8_goBy 40 = .ok (.iload 4, 2) := by decide +kernel
theorem dX8_goBy_42 : decode cX8_goBy 42 = .ok (.iload_n 3, 1) := by decide +kernel
theorem dX8_goBy_43 : decode cX8_goBy 43 = .ok (.irem, 1) := by decide +kernel
theorem dX8_goBy_44 : decode cX8_goBy 44 = .ok (.istore 4, 2) := by decide +kernel
theorem dX8_goBy_46 : decode cX8_goBy 46 = .ok (.iinc 5 1, 3) := by decide +kernel
theorem dX8_goBy_49 : decode cX8_goBy 49 = .ok (.goto (-34), 3) := by decide +kernel
theorem dX8_goBy_52 : decode cX8_goBy 52 = .ok (.return_, 1) := by decide +kernel
set_option maxRecDepth 20000 in
theorem ggX8_columnBy_X8_power : GoodIn wsX8_columnBy wsX8_power := goodIn_r _ [4] (by decide +kernel) (by decide +kernel)
set_option maxRecDepth 20000 in
theorem gX8_columnBy_X8_power : GoodIn wsX8_columnBy (va_wsS RX8 202 yX8_power wsX8_power) := goodIn_app (goodIn_of _ (by decide +kernel)) ggX8_columnBy_X8_power
theorem dX8_columnBy_0 : decode cX8_columnBy 0 = .ok (.iload_n 1, 1) := by decide +kernel
theorem dX8_columnBy_1 : decode cX8_columnBy 1 = .ok (.iload_n 0, 1) := by decide +kernel
theorem dX8_columnBy_2 : decode cX8_columnBy 2 = .ok (.iconst 1, 1) := by decide +kernel
theorem dX8_columnBy_3 : decode cX8_columnBy 3 = .ok (.isub, 1) := by decide +kernel
theorem dX8_columnBy_4 : decode cX8_columnBy 4 = .ok (.iload_n 2, 1) := by decide +kernel
theorem dX8_columnBy_5 : decode cX8_columnBy 5 = .ok (.isub, 1) := by decide +kernel
theorem dX8_columnBy_6 : decode cX8_columnBy 6 = .ok (.invokestatic 202, 3) := by decide +kernel
theorem dX8_columnBy_9 : decode cX8_columnBy 9 = .ok (.idiv, 1) := by decide +kernel
theorem dX8_columnBy_10 : decode cX8_columnBy 10 = .ok (.iconst 5, 1) := by decide +kernel
theorem dX8_columnBy_11 : decode cX8_columnBy 11 = .ok (.irem, 1) := by decide +kernel
theorem dX8_columnBy_12 : decode cX8_columnBy 12 = .ok (.iconst 1, 1) := by decide +kernel
theorem dX8_columnBy_13 : decode cX8_columnBy 13 = .ok (.iadd, 1) := by decide +kernel
theorem dX8_columnBy_14 : decode cX8_columnBy 14 = .ok (.ireturn, 1) := by decide +kernel
set_option maxRecDepth 20000 in
theorem ggX8_win_X8_isToy : GoodIn wsX8_win wsX8_isToy := goodIn_r _ [8, 9, 10, 11, 7, 12, 13, 14, 15, 16, 61, 62, 63, 64, 65, 66, 67, 68, 69, 70, 71, 72, 73, 74, 75, 76, 77, 78, 79, 80, 81, 82, 83, 84] (by decide +kernel) (by decide +kernel)
set_option maxRecDepth 20000 in
theorem gX8_win_X8_isToy : GoodIn wsX8_win (wsV RX8 187 RX8 yX8_isToy wsX8_isToy) := goodIn_app (goodIn_of _ (by decide +kernel)) ggX8_win_X8_isToy
set_option maxRecDepth 20000 in
theorem ggX8_win_X8_power : GoodIn wsX8_win wsX8_power := goodIn_r _ [19] (by decide +kernel) (by decide +kernel)
set_option maxRecDepth 20000 in
theorem gX8_win_X8_power : GoodIn wsX8_win (va_wsS RX8 202 yX8_power wsX8_power) := goodIn_app (goodIn_of _ (by decide +kernel)) ggX8_win_X8_power
set_option maxRecDepth 20000 in
theorem ggX8_win_X8_goBy : GoodIn wsX8_win wsX8_goBy := goodIn_r _ [23, 2, 17, 18, 7, 19, 24, 25, 26, 27, 13, 28, 29, 30, 31, 32, 33, 34, 35, 36, 37, 38, 39, 40, 41, 42, 43, 44, 45, 46, 47, 48, 49, 50, 51, 52, 53, 54, 55, 56, 57, 61, 62, 63, 64, 65, 66, 67, 68, 69, 70, 71, 72, 73, 74, 75, 76, 77, 78, 79, 80, 81, 82, 83, 84] (by decide +kernel) (by decide +kernel)
set_option maxRecDepth 20000 in
theorem gX8_win_X8_goBy : GoodIn wsX8_win (wsV RX8 205 RX8 yX8_goBy wsX8_goBy) := goodIn_app (goodIn_of _ (by decide +kernel)) ggX8_win_X8_goBy
set_option maxRecDepth 20000 in
theorem ggX8_win_X8_columnBy : GoodIn wsX8_win wsX8_columnBy := goodIn_r _ [60, 17, 18, 7, 19] (by decide +kernel) (by decide +kernel)
set_option maxRecDepth 20000 in
theorem gX8_win_X8_columnBy : GoodIn wsX8_win (va_wsS RX8 209 yX8_columnBy wsX8_columnBy) := goodIn_app (goodIn_of _ (by decide +kernel)) ggX8_win_X8_columnBy
theorem dX8_win_0 : decode cX8_win 0 = .ok (.aload_n 0, 1) := by decide +kernel
theorem dX8_win_1 : decode cX8_win 1 = .ok (.iload_n 1, 1) := by decide +kernel
theorem dX8_win_2 : decode cX8_win 2 = .ok (.invokevirtual 187, 3) := by decide +kernel
theorem dX8_win_5 : decode cX8_win 5 = .ok (.ifCond .eq 8, 3) := by decide +kernel
theorem dX8_win_8 : decode cX8_win 8 = .ok (.iload_n 2, 1) := by decide +kernel
theorem dX8_win_9 : decode cX8_win 9 = .ok (.iconst (-1), 1) := by decide +kernel
theorem dX8_win_10 : decode cX8_win 10 = .ok (.if_icmp .ge 6, 3) := by decide +kernel
theorem dX8_win_13 : decode cX8_win 13 = .ok (.ldc 71, 2) := by decide +kernel
theorem dX8_win_15 : decode cX8_win 15 = .ok (.ireturn, 1) := by decide +kernel
theorem dX8_win_16 : decode cX8_win 16 = .ok (.iconst 0, 1) := by decide +kernel
theorem dX8_win_17 : decode cX8_win 17 = .ok (.istore_n 3, 1) := by decide +kernel
theorem dX8_win_18 : decode cX8_win 18 = .ok (.iload_n 3, 1) := by decide +kernel
theorem dX8_win_19 : decode cX8_win 19 = .ok (.iconst 5, 1) := by decide +kernel
theorem dX8_win_20 : decode cX8_win 20 = .ok (.if_icmp .ge 73, 3) := by decide +kernel
theorem dX8_win_23 : decode cX8_win 23 = .ok (.iconst 0, 1) := by decide +kernel
theorem dX8_win_24 : decode cX8_win 24 = .ok (.istore 4, 2) := by decide +kernel
theorem dX8_win_26 : decode cX8_win 26 = .ok (.iload 4, 2) := by decide +kernel
theorem dX8_win_28 : decode cX8_win 28 = .ok (.iload_n 3, 1) := by decide +kernel
theorem dX8_win_29 : decode cX8_win 29 = .ok (.invokestatic 202, 3) := by decide +kernel
theorem dX8_win_32 : decode cX8_win 32 = .ok (.if_icmp .ge 55, 3) := by decide +kernel
theorem dX8_win_35 : decode cX8_win 35 = .ok (.aload_n 0, 1) := by decide +kernel
theorem dX8_win_36 : decode cX8_win 36 = .ok (.iload_n 3, 1) := by decide +kernel
theorem dX8_win_37 : decode cX8_win 37 = .ok (.iload 4, 2) := by decide +kernel
theorem dX8_win_39 : decode cX8_win 39 = .ok (.invokevirtual 205, 3) := by decide +kernel
theorem dX8_win_42 : decode cX8_win 42 = .ok (.aload_n 0, 1) := by decide +kernel
theorem dX8_win_43 : decode cX8_win 43 = .ok (.getfield 44, 3) := by decide +kernel
theorem dX8_win_46 : decode cX8_win 46 = .ok (.bipush 19, 2) := by decide +kernel
theorem dX8_win_48 : decode cX8_win 48 = .ok (.iload_n 1, 1) := by decide +kernel
theorem dX8_win_49 : decode cX8_win 49 = .ok (.iadd, 1) := by decide +kernel
theorem dX8_win_50 : decode cX8_win 50 = .ok (.iaload, 1) := by decide +kernel
theorem dX8_win_51 : decode cX8_win 51 = .ok (.ifCond .ne 30, 3) := by decide +kernel
theorem dX8_win_54 : decode cX8_win 54 = .ok (.iload_n 2, 1) := by decide +kernel
theorem dX8_win_55 : decode cX8_win 55 = .ok (.iconst (-1), 1) := by decide +kernel
theorem dX8_win_56 : decode cX8_win 56 = .ok (.if_icmp .ne 7, 3) := by decide +kernel
theorem dX8_win_59 : decode cX8_win 59 = .ok (.iload_n 3, 1) := by decide +kernel
theorem dX8_win_60 : decode cX8_win 60 = .ok (.goto 20, 3) := by decide +kernel
theorem dX8_win_63 : decode cX8_win 63 = .ok (.iload_n 2, 1) := by decide +kernel
theorem dX8_win_64 : decode cX8_win 64 = .ok (.iload_n 3, 1) := by decide +kernel
theorem dX8_win_65 : decode cX8_win 65 = .ok (.if_icmp .lt 8, 3) := by decide +kernel
theorem dX8_win_68 : decode cX8_win 68 = .ok (.ldc 186, 2) := by decide +kernel
theorem dX8_win_70 : decode cX8_win 70 = .ok (.goto 10, 3) := by decide +kernel
theorem dX8_win_73 : decode cX8_win 73 = .ok (.iload_n 3, 1) := by decide +kernel
theorem dX8_win_74 : decode cX8_win 74 = .ok (.iload 4, 2) := by decide +kernel
theorem dX8_win_76 : decode cX8_win 76 = .ok (.iload_n 2, 1) := by decide +kernel
theorem dX8_win_77 : decode cX8_win 77 = .ok (.invokestatic 209, 3) := by decide +kernel
theorem dX8_win_80 : decode cX8_win 80 = .ok (.ireturn, 1) := by decide +kernel
theorem dX8_win_81 : decode cX8_win 81 = .ok (.iinc 4 1, 3) := by decide +kernel
theorem dX8_win_84 : decode cX8_win 84 = .ok (.goto (-58), 3) := by decide +kernel
theorem dX8_win_87 : decode cX8_win 87 = .ok (.iinc 3 1, 3) := by decide +kernel
theorem dX8_win_90 : decode cX8_win 90 = .ok (.goto (-72), 3) := by decide +kernel
theorem dX8_win_93 : decode cX8_win 93 = .ok (.ldc 186, 2) := by decide +kernel
theorem dX8_win_95 : decode cX8_win 95 = .ok (.ireturn, 1) := by decide +kernel
theorem dX8_wonWeight_0 : decode cX8_wonWeight 0 = .ok (.iconst 0, 1) := by decide +kernel
theorem dX8_wonWeight_1 : decode cX8_wonWeight 1 = .ok (.istore_n 3, 1) := by decide +kernel
theorem dX8_wonWeight_2 : decode cX8_wonWeight 2 = .ok (.iconst 0, 1) := by decide +kernel
theorem dX8_wonWeight_3 : decode cX8_wonWeight 3 = .ok (.istore 4, 2) := by decide +kernel
theorem dX8_wonWeight_5 : decode cX8_wonWeight 5 = .ok (.iload 4, 2) := by decide +kernel
theorem dX8_wonWeight_7 : decode cX8_wonWeight 7 = .ok (.aload_n 1, 1) := by decide +kernel
theorem dX8_wonWeight_8 : decode cX8_wonWeight 8 = .ok (.iconst 0, 1) := by decide +kernel
theorem dX8_wonWeight_9 : decode cX8_wonWeight 9 = .ok (.iaload, 1) := by decide +kernel
theorem dX8_wonWeight_10 : decode cX8_wonWeight 10 = .ok (.if_icmp .ge 41, 3) := by decide +kernel
theorem dX8_wonWeight_13 : decode cX8_wonWeight 13 = .ok (.iload_n 3, 1) := by decide +kernel
theorem dX8_wonWeight_14 : decode cX8_wonWeight 14 = .ok (.aload_n 1, 1) := by decide +kernel
theorem dX8_wonWeight_15 : decode cX8_wonWeight 15 = .ok (.bipush 19, 2) := by decide +kernel
theorem dX8_wonWeight_17 : decode cX8_wonWeight 17 = .ok (.iload 4, 2) := by decide +kernel
theorem dX8_wonWeight_19 : decode cX8_wonWeight 19 = .ok (.iadd, 1) := by decide +kernel
theorem dX8_wonWeight_20 : decode cX8_wonWeight 20 = .ok (.iaload, 1) := by decide +kernel
theorem dX8_wonWeight_21 : decode cX8_wonWeight 21 = .ok (.ifCond .eq 7, 3) := by decide +kernel
theorem dX8_wonWeight_24 : decode cX8_wonWeight 24 = .ok (.iconst 0, 1) := by decide +kernel
theorem dX8_wonWeight_25 : decode cX8_wonWeight 25 = .ok (.goto 18, 3) := by decide +kernel
theorem dX8_wonWeight_28 : decode cX8_wonWeight 28 = .ok (.iload_n 2, 1) := by decide +kernel
theorem dX8_wonWeight_29 : decode cX8_wonWeight 29 = .ok (.ifCond .eq 13, 3) := by decide +kernel
theorem dX8_wonWeight_32 : decode cX8_wonWeight 32 = .ok (.aload_n 1, 1) := by decide +kernel
theorem dX8_wonWeight_33 : decode cX8_wonWeight 33 = .ok (.bipush 8, 2) := by decide +kernel
theorem dX8_wonWeight_35 : decode cX8_wonWeight 35 = .ok (.iload 4, 2) := by decide +kernel
theorem dX8_wonWeight_37 : decode cX8_wonWeight 37 = .ok (.iadd, 1) := by decide +kernel
theorem dX8_wonWeight_38 : decode cX8_wonWeight 38 = .ok (.iaload, 1) := by decide +kernel
theorem dX8_wonWeight_39 : decode cX8_wonWeight 39 = .ok (.goto 4, 3) := by decide +kernel
theorem dX8_wonWeight_42 : decode cX8_wonWeight 42 = .ok (.iconst 1, 1) := by decide +kernel
theorem dX8_wonWeight_43 : decode cX8_wonWeight 43 = .ok (.iadd, 1) := by decide +kernel
theorem dX8_wonWeight_44 : decode cX8_wonWeight 44 = .ok (.istore_n 3, 1) := by decide +kernel
theorem dX8_wonWeight_45 : decode cX8_wonWeight 45 = .ok (.iinc 4 1, 3) := by decide +kernel
theorem dX8_wonWeight_48 : decode cX8_wonWeight 48 = .ok (.goto (-43), 3) := by decide +kernel
theorem dX8_wonWeight_51 : decode cX8_wonWeight 51 = .ok (.iload_n 3, 1) := by decide +kernel
theorem dX8_wonWeight_52 : decode cX8_wonWeight 52 = .ok (.ireturn, 1) := by decide +kernel
set_option maxRecDepth 20000 in
theorem ggX8_haul_X8_toys : GoodIn wsX8_haul wsX8_toys := goodIn_r _ [10, 11, 63, 64, 65, 66, 67, 68, 69, 70, 71, 72, 73, 74, 75, 76, 77, 78, 79, 80, 81, 82, 83, 84, 85, 86] (by decide +kernel) (by decide +kernel)
set_option maxRecDepth 20000 in
theorem gX8_haul_X8_toys : GoodIn wsX8_haul (wsV RX8 140 RX8 yX8_toys wsX8_toys) := goodIn_app (goodIn_of _ (by decide +kernel)) ggX8_haul_X8_toys
set_option maxRecDepth 20000 in
theorem ggX8_haul_X8_in : GoodIn wsX8_haul wsX8_in := goodIn_r _ [14] (by decide +kernel) (by decide +kernel)
set_option maxRecDepth 20000 in
theorem gX8_haul_X8_in : GoodIn wsX8_haul (va_wsS RX8 61 yX8_in wsX8_in) := goodIn_app (goodIn_of _ (by decide +kernel)) ggX8_haul_X8_in
set_option maxRecDepth 20000 in
theorem ggX8_haul_X8_power : GoodIn wsX8_haul wsX8_power := goodIn_r _ [17] (by decide +kernel) (by decide +kernel)
set_option maxRecDepth 20000 in
theorem gX8_haul_X8_power : GoodIn wsX8_haul (va_wsS RX8 202 yX8_power wsX8_power) := goodIn_app (goodIn_of _ (by decide +kernel)) ggX8_haul_X8_power
set_option maxRecDepth 20000 in
theorem ggX8_haul_X8_goBy : GoodIn wsX8_haul wsX8_goBy := goodIn_r _ [21, 4, 15, 16, 9, 17, 22, 23, 24, 25, 11, 26, 27, 28, 29, 30, 31, 32, 33, 34, 35, 36, 37, 38, 39, 40, 41, 42, 43, 44, 45, 46, 47, 48, 49, 50, 51, 52, 53, 54, 55, 63, 64, 65, 66, 67, 68, 69, 70, 71, 72, 73, 74, 75, 76, 77, 78, 79, 80, 81, 82, 83, 84, 85, 86] (by decide +kernel) (by decide +kernel)
set_option maxRecDepth 20000 in
theorem gX8_haul_X8_goBy : GoodIn wsX8_haul (wsV RX8 205 RX8 yX8_goBy wsX8_goBy) := goodIn_app (goodIn_of _ (by decide +kernel)) ggX8_haul_X8_goBy
set_option maxRecDepth 20000 in
theorem ggX8_haul_X8_wonWeight : GoodIn wsX8_haul wsX8_wonWeight := goodIn_r _ [59] (by decide +kernel) (by decide +kernel)
set_option maxRecDepth 20000 in
theorem gX8_haul_X8_wonWeight : GoodIn wsX8_haul (wsV RX8 213 RX8 yX8_wonWeight wsX8_wonWeight) := goodIn_app (goodIn_of _ (by decide +kernel)) ggX8_haul_X8_wonWeight
set_option maxRecDepth 20000 in
theorem ggX8_haul_X8_columnBy : GoodIn wsX8_haul wsX8_columnBy := goodIn_r _ [62, 15, 16, 9, 17] (by decide +kernel) (by decide +kernel)
set_option maxRecDepth 20000 in
theorem gX8_haul_X8_columnBy : GoodIn wsX8_haul (va_wsS RX8 209 yX8_columnBy wsX8_columnBy) := goodIn_app (goodIn_of _ (by decide +kernel)) ggX8_haul_X8_columnBy
theorem dX8_haul_0 : decode cX8_haul 0 = .ok (.aload_n 0, 1) := by decide +kernel
theorem dX8_haul_1 : decode cX8_haul 1 = .ok (.invokevirtual 140, 3) := by decide +kernel
theorem dX8_haul_4 : decode cX8_haul 4 = .ok (.ifCond .ne 6, 3) := by decide +kernel
theorem dX8_haul_7 : decode cX8_haul 7 = .ok (.ldc 176, 2) := by decide +kernel
theorem dX8_haul_9 : decode cX8_haul 9 = .ok (.ireturn, 1) := by decide +kernel
theorem dX8_haul_10 : decode cX8_haul 10 = .ok (.iload_n 1, 1) := by decide +kernel
theorem dX8_haul_11 : decode cX8_haul 11 = .ok (.i2l, 1) := by decide +kernel
theorem dX8_haul_12 : decode cX8_haul 12 = .ok (.lconst 1, 1) := by decide +kernel
theorem dX8_haul_13 : decode cX8_haul 13 = .ok (.ldc2_w 192, 3) := by decide +kernel
theorem dX8_haul_16 : decode cX8_haul 16 = .ok (.invokestatic 61, 3) := by decide +kernel
theorem dX8_haul_19 : decode cX8_haul 19 = .ok (.ifCond .eq 8, 3) := by decide +kernel
theorem dX8_haul_22 : decode cX8_haul 22 = .ok (.iload_n 2, 1) := by decide +kernel
theorem dX8_haul_23 : decode cX8_haul 23 = .ok (.iconst (-1), 1) := by decide +kernel
theorem dX8_haul_24 : decode cX8_haul 24 = .ok (.if_icmp .ge 6, 3) := by decide +kernel
theorem dX8_haul_27 : decode cX8_haul 27 = .ok (.ldc 71, 2) := by decide +kernel
theorem dX8_haul_29 : decode cX8_haul 29 = .ok (.ireturn, 1) := by decide +kernel
theorem dX8_haul_30 : decode cX8_haul 30 = .ok (.iconst 0, 1) := by decide +kernel
theorem dX8_haul_31 : decode cX8_haul 31 = .ok (.istore_n 3, 1) := by decide +kernel
theorem dX8_haul_32 : decode cX8_haul 32 = .ok (.iconst (-1), 1) := by decide +kernel
theorem dX8_haul_33 : decode cX8_haul 33 = .ok (.istore 4, 2) := by decide +kernel
theorem dX8_haul_35 : decode cX8_haul 35 = .ok (.iconst 0, 1) := by decide +kernel
theorem dX8_haul_36 : decode cX8_haul 36 = .ok (.istore 5, 2) := by decide +kernel
theorem dX8_haul_38 : decode cX8_haul 38 = .ok (.iload 5, 2) := by decide +kernel
theorem dX8_haul_40 : decode cX8_haul 40 = .ok (.iload_n 1, 1) := by decide +kernel
theorem dX8_haul_41 : decode cX8_haul 41 = .ok (.invokestatic 202, 3) := by decide +kernel
theorem dX8_haul_44 : decode cX8_haul 44 = .ok (.if_icmp .ge 71, 3) := by decide +kernel
theorem dX8_haul_47 : decode cX8_haul 47 = .ok (.aload_n 0, 1) := by decide +kernel
theorem dX8_haul_48 : decode cX8_haul 48 = .ok (.iload_n 1, 1) := by decide +kernel
theorem dX8_haul_49 : decode cX8_haul 49 = .ok (.iload 5, 2) := by decide +kernel
theorem dX8_haul_51 : decode cX8_haul 51 = .ok (.invokevirtual 205, 3) := by decide +kernel
theorem dX8_haul_54 : decode cX8_haul 54 = .ok (.sipush 1000, 3) := by decide +kernel
theorem dX8_haul_57 : decode cX8_haul 57 = .ok (.aload_n 0, 1) := by decide +kernel
theorem dX8_haul_58 : decode cX8_haul 58 = .ok (.aload_n 0, 1) := by decide +kernel
theorem dX8_haul_59 : decode cX8_haul 59 = .ok (.getfield 44, 3) := by decide +kernel
theorem dX8_haul_62 : decode cX8_haul 62 = .ok (.iconst 0, 1) := by decide +kernel
theorem dX8_haul_63 : decode cX8_haul 63 = .ok (.invokevirtual 213, 3) := by decide +kernel
theorem dX8_haul_66 : decode cX8_haul 66 = .ok (.imul, 1) := by decide +kernel
theorem dX8_haul_67 : decode cX8_haul 67 = .ok (.aload_n 0, 1) := by decide +kernel
theorem dX8_haul_68 : decode cX8_haul 68 = .ok (.aload_n 0, 1) := by decide +kernel
theorem dX8_haul_69 : decode cX8_haul 69 = .ok (.getfield 44, 3) := by decide +kernel
theorem dX8_haul_72 : decode cX8_haul 72 = .ok (.iconst 1, 1) := by decide +kernel
theorem dX8_haul_73 : decode cX8_haul 73 = .ok (.invokevirtual 213, 3) := by decide +kernel
theorem dX8_haul_76 : decode cX8_haul 76 = .ok (.iadd, 1) := by decide +kernel
theorem dX8_haul_77 : decode cX8_haul 77 = .ok (.istore 6, 2) := by decide +kernel
theorem dX8_haul_79 : decode cX8_haul 79 = .ok (.iload 6, 2) := by decide +kernel
theorem dX8_haul_81 : decode cX8_haul 81 = .ok (.iload 4, 2) := by decide +kernel
theorem dX8_haul_83 : decode cX8_haul 83 = .ok (.if_icmp .le 8, 3) := by decide +kernel
theorem dX8_haul_86 : decode cX8_haul 86 = .ok (.iload 5, 2) := by decide +kernel
theorem dX8_haul_88 : decode cX8_haul 88 = .ok (.goto 4, 3) := by decide +kernel
theorem dX8_haul_91 : decode cX8_haul 91 = .ok (.iload_n 3, 1) := by decide +kernel
theorem dX8_haul_92 : decode cX8_haul 92 = .ok (.istore_n 3, 1) := by decide +kernel
theorem dX8_haul_93 : decode cX8_haul 93 = .ok (.iload 6, 2) := by decide +kernel
theorem dX8_haul_95 : decode cX8_haul 95 = .ok (.iload 4, 2) := by decide +kernel
theorem dX8_haul_97 : decode cX8_haul 97 = .ok (.if_icmp .le 8, 3) := by decide +kernel
theorem dX8_haul_100 : decode cX8_haul 100 = .ok (.iload 6, 2) := by decide +kernel
theorem dX8_haul_102 : decode cX8_haul 102 = .ok (.goto 5, 3) := by decide +kernel
theorem dX8_haul_105 : decode cX8_haul 105 = .ok (.iload 4, 2) := by decide +kernel
theorem dX8_haul_107 : decode cX8_haul 107 = .ok (.istore 4, 2) := by decide +kernel
theorem dX8_haul_109 : decode cX8_haul 109 = .ok (.iinc 5 1, 3) := by decide +kernel
theorem dX8_haul_112 : decode cX8_haul 112 = .ok (.goto (-74), 3) := by decide +kernel
theorem dX8_haul_115 : decode cX8_haul 115 = .ok (.iload_n 2, 1) := by decide +kernel
theorem dX8_haul_116 : decode cX8_haul 116 = .ok (.iconst (-1), 1) := by decide +kernel
theorem dX8_haul_117 : decode cX8_haul 117 = .ok (.if_icmp .ne 12, 3) := by decide +kernel
theorem dX8_haul_120 : decode cX8_haul 120 = .ok (.iload 4, 2) := by decide +kernel
theorem dX8_haul_122 : decode cX8_haul 122 = .ok (.sipush 1000, 3) := by decide +kernel
theorem dX8_haul_125 : decode cX8_haul 125 = .ok (.idiv, 1) := by decide +kernel
theorem dX8_haul_126 : decode cX8_haul 126 = .ok (.goto 19, 3) := by decide +kernel
theorem dX8_haul_129 : decode cX8_haul 129 = .ok (.iload_n 2, 1) := by decide +kernel
theorem dX8_haul_130 : decode cX8_haul 130 = .ok (.iload_n 1, 1) := by decide +kernel
theorem dX8_haul_131 : decode cX8_haul 131 = .ok (.if_icmp .lt 8, 3) := by decide +kernel
theorem dX8_haul_134 : decode cX8_haul 134 = .ok (.ldc 186, 2) := by decide +kernel
theorem dX8_haul_136 : decode cX8_haul 136 = .ok (.goto 9, 3) := by decide +kernel
theorem dX8_haul_139 : decode cX8_haul 139 = .ok (.iload_n 1, 1) := by decide +kernel
theorem dX8_haul_140 : decode cX8_haul 140 = .ok (.iload_n 3, 1) := by decide +kernel
theorem dX8_haul_141 : decode cX8_haul 141 = .ok (.iload_n 2, 1) := by decide +kernel
theorem dX8_haul_142 : decode cX8_haul 142 = .ok (.invokestatic 209, 3) := by decide +kernel
theorem dX8_haul_145 : decode cX8_haul 145 = .ok (.ireturn, 1) := by decide +kernel
set_option maxRecDepth 20000 in
theorem ggX8_enough_X8_toys : GoodIn wsX8_enough wsX8_toys := goodIn_r _ [9, 10, 46, 47, 48, 49, 50, 51, 52, 53, 54, 55, 56, 57, 58, 59, 60, 61, 62, 63, 64, 65, 66, 67, 68, 69] (by decide +kernel) (by decide +kernel)
set_option maxRecDepth 20000 in
theorem gX8_enough_X8_toys : GoodIn wsX8_enough (wsV RX8 140 RX8 yX8_toys wsX8_toys) := goodIn_app (goodIn_of _ (by decide +kernel)) ggX8_enough_X8_toys
set_option maxRecDepth 20000 in
theorem ggX8_enough_X8_isColumn : GoodIn wsX8_enough wsX8_isColumn := goodIn_r _ [13, 14, 15, 16, 8, 17] (by decide +kernel) (by decide +kernel)
set_option maxRecDepth 20000 in
theorem gX8_enough_X8_isColumn : GoodIn wsX8_enough (va_wsS RX8 177 yX8_isColumn wsX8_isColumn) := goodIn_app (goodIn_of _ (by decide +kernel)) ggX8_enough_X8_isColumn
set_option maxRecDepth 20000 in
theorem ggX8_enough_X8_layHand : GoodIn wsX8_enough wsX8_layHand := goodIn_r _ [21, 3, 10, 46, 47, 48, 49, 50, 51, 52, 53, 54, 55, 56, 57, 58, 59, 60, 61, 62, 63, 64, 65, 66, 67, 68, 69] (by decide +kernel) (by decide +kernel)
set_option maxRecDepth 20000 in
theorem gX8_enough_X8_layHand : GoodIn wsX8_enough (wsV RX8 197 RX8 yX8_layHand wsX8_layHand) := goodIn_app (goodIn_of _ (by decide +kernel)) ggX8_enough_X8_layHand
set_option maxRecDepth 20000 in
theorem ggX8_enough_X8_goPlay : GoodIn wsX8_enough wsX8_goPlay := goodIn_r _ [24, 25, 26, 8, 27, 28, 29, 30, 31, 32, 33, 34, 35, 36, 37, 38, 39, 40, 41, 42, 43, 44, 45] (by decide +kernel) (by decide +kernel)
set_option maxRecDepth 20000 in
theorem gX8_enough_X8_goPlay : GoodIn wsX8_enough (va_wsS RX8 172 yX8_goPlay wsX8_goPlay) := goodIn_app (goodIn_of _ (by decide +kernel)) ggX8_enough_X8_goPlay
theorem dX8_enough_0 : decode cX8_enough 0 = .ok (.aload_n 0, 1) := by decide +kernel
theorem dX8_enough_1 : decode cX8_enough 1 = .ok (.invokevirtual 140, 3) := by decide +kernel
theorem dX8_enough_4 : decode cX8_enough 4 = .ok (.ifCond .ne 6, 3) := by decide +kernel
theorem dX8_enough_7 : decode cX8_enough 7 = .ok (.ldc 176, 2) := by decide +kernel
theorem dX8_enough_9 : decode cX8_enough 9 = .ok (.ireturn, 1) := by decide +kernel
theorem dX8_enough_10 : decode cX8_enough 10 = .ok (.iload_n 1, 1) := by decide +kernel
theorem dX8_enough_11 : decode cX8_enough 11 = .ok (.invokestatic 177, 3) := by decide +kernel
theorem dX8_enough_14 : decode cX8_enough 14 = .ok (.ifCond .ne 6, 3) := by decide +kernel
theorem dX8_enough_17 : decode cX8_enough 17 = .ok (.ldc 71, 2) := by decide +kernel
theorem dX8_enough_19 : decode cX8_enough 19 = .ok (.ireturn, 1) := by decide +kernel
theorem dX8_enough_20 : decode cX8_enough 20 = .ok (.iconst 0, 1) := by decide +kernel
theorem dX8_enough_21 : decode cX8_enough 21 = .ok (.istore_n 2, 1) := by decide +kernel
theorem dX8_enough_22 : decode cX8_enough 22 = .ok (.iload_n 2, 1) := by decide +kernel
theorem dX8_enough_23 : decode cX8_enough 23 = .ok (.bipush 20, 2) := by decide +kernel
theorem dX8_enough_25 : decode cX8_enough 25 = .ok (.if_icmp .gt 41, 3) := by decide +kernel
theorem dX8_enough_28 : decode cX8_enough 28 = .ok (.aload_n 0, 1) := by decide +kernel
theorem dX8_enough_29 : decode cX8_enough 29 = .ok (.invokevirtual 197, 3) := by decide +kernel
theorem dX8_enough_32 : decode cX8_enough 32 = .ok (.aload_n 0, 1) := by decide +kernel
theorem dX8_enough_33 : decode cX8_enough 33 = .ok (.getfield 44, 3) := by decide +kernel
theorem dX8_enough_36 : decode cX8_enough 36 = .ok (.iload_n 1, 1) := by decide +kernel
theorem dX8_enough_37 : decode cX8_enough 37 = .ok (.iload_n 2, 1) := by decide +kernel
theorem dX8_enough_38 : decode cX8_enough 38 = .ok (.invokestatic 172, 3) := by decide +kernel
theorem dX8_enough_41 : decode cX8_enough 41 = .ok (.istore_n 3, 1) := by decide +kernel
theorem dX8_enough_42 : decode cX8_enough 42 = .ok (.iload_n 3, 1) := by decide +kernel
theorem dX8_enough_43 : decode cX8_enough 43 = .ok (.ifCond .lt 17, 3) := by decide +kernel
theorem dX8_enough_46 : decode cX8_enough 46 = .ok (.aload_n 0, 1) := by decide +kernel
theorem dX8_enough_47 : decode cX8_enough 47 = .ok (.getfield 44, 3) := by decide +kernel
theorem dX8_enough_50 : decode cX8_enough 50 = .ok (.bipush 19, 2) := by decide +kernel
theorem dX8_enough_52 : decode cX8_enough 52 = .ok (.iload_n 3, 1) := by decide +kernel
theorem dX8_enough_53 : decode cX8_enough 53 = .ok (.iadd, 1) := by decide +kernel
theorem dX8_enough_54 : decode cX8_enough 54 = .ok (.iaload, 1) := by decide +kernel
theorem dX8_enough_55 : decode cX8_enough 55 = .ok (.ifCond .ne 5, 3) := by decide +kernel
theorem dX8_enough_58 : decode cX8_enough 58 = .ok (.iload_n 2, 1) := by decide +kernel
theorem dX8_enough_59 : decode cX8_enough 59 = .ok (.ireturn, 1) := by decide +kernel
theorem dX8_enough_60 : decode cX8_enough 60 = .ok (.iinc 2 1, 3) := by decide +kernel
theorem dX8_enough_63 : decode cX8_enough 63 = .ok (.goto (-41), 3) := by decide +kernel
theorem dX8_enough_66 : decode cX8_enough 66 = .ok (.ldc 186, 2) := by decide +kernel
theorem dX8_enough_68 : decode cX8_enough 68 = .ok (.ireturn, 1) := by decide +kernel
set_option maxRecDepth 20000 in
theorem ggX8_shareOf_X8_wonWeight : GoodIn wsX8_shareOf wsX8_wonWeight := goodIn_r _ [6] (by decide +kernel) (by decide +kernel)
set_option maxRecDepth 20000 in
theorem gX8_shareOf_X8_wonWeight : GoodIn wsX8_shareOf (wsV RX8 213 RX8 yX8_wonWeight wsX8_wonWeight) := goodIn_app (goodIn_of _ (by decide +kernel)) ggX8_shareOf_X8_wonWeight
set_option maxRecDepth 20000 in
theorem ggX8_shareOf_X8_toys : GoodIn wsX8_shareOf wsX8_toys := goodIn_r _ [10, 1, 11, 12, 13, 14, 15, 16, 17, 18, 19, 20, 21, 22, 23, 24, 25, 26, 27, 28, 29, 30, 31, 32, 33, 34] (by decide +kernel) (by decide +kernel)
set_option maxRecDepth 20000 in
theorem gX8_shareOf_X8_toys : GoodIn wsX8_shareOf (wsV RX8 140 RX8 yX8_toys wsX8_toys) := goodIn_app (goodIn_of _ (by decide +kernel)) ggX8_shareOf_X8_toys
theorem dX8_shareOf_0 : decode cX8_shareOf 0 = .ok (.aload_n 0, 1) := by decide +kernel
theorem dX8_shareOf_1 : decode cX8_shareOf 1 = .ok (.aload_n 0, 1) := by decide +kernel
theorem dX8_shareOf_2 : decode cX8_shareOf 2 = .ok (.getfield 7, 3) := by decide +kernel
theorem dX8_shareOf_5 : decode cX8_shareOf 5 = .ok (.iconst 1, 1) := by decide +kernel
theorem dX8_shareOf_6 : decode cX8_shareOf 6 = .ok (.invokevirtual 213, 3) := by decide +kernel
theorem dX8_shareOf_9 : decode cX8_shareOf 9 = .ok (.istore_n 3, 1) := by decide +kernel
theorem dX8_shareOf_10 : decode cX8_shareOf 10 = .ok (.iload_n 2, 1) := by decide +kernel
theorem dX8_shareOf_11 : decode cX8_shareOf 11 = .ok (.istore 4, 2) := by decide +kernel
theorem dX8_shareOf_13 : decode cX8_shareOf 13 = .ok (.iconst 0, 1) := by decide +kernel
theorem dX8_shareOf_14 : decode cX8_shareOf 14 = .ok (.istore 5, 2) := by decide +kernel
theorem dX8_shareOf_16 : decode cX8_shareOf 16 = .ok (.iconst 0, 1) := by decide +kernel
theorem dX8_shareOf_17 : decode cX8_shareOf 17 = .ok (.istore 6, 2) := by decide +kernel
theorem dX8_shareOf_19 : decode cX8_shareOf 19 = .ok (.iload 6, 2) := by decide +kernel
theorem dX8_shareOf_21 : decode cX8_shareOf 21 = .ok (.aload_n 0, 1) := by decide +kernel
theorem dX8_shareOf_22 : decode cX8_shareOf 22 = .ok (.invokevirtual 140, 3) := by decide +kernel
theorem dX8_shareOf_25 : decode cX8_shareOf 25 = .ok (.if_icmp .ge 78, 3) := by decide +kernel
theorem dX8_shareOf_28 : decode cX8_shareOf 28 = .ok (.aload_n 0, 1) := by decide +kernel
theorem dX8_shareOf_29 : decode cX8_shareOf 29 = .ok (.getfield 7, 3) := by decide +kernel
theorem dX8_shareOf_32 : decode cX8_shareOf 32 = .ok (.bipush 19, 2) := by decide +kernel
theorem dX8_shareOf_34 : decode cX8_shareOf 34 = .ok (.iload 6, 2) := by decide +kernel
theorem dX8_shareOf_36 : decode cX8_shareOf 36 = .ok (.iadd, 1) := by decide +kernel
theorem dX8_shareOf_37 : decode cX8_shareOf 37 = .ok (.iaload, 1) := by decide +kernel
theorem dX8_shareOf_38 : decode cX8_shareOf 38 = .ok (.ifCond .ne 7, 3) := by decide +kernel
theorem dX8_shareOf_41 : decode cX8_shareOf 41 = .ok (.iconst 1, 1) := by decide +kernel
theorem dX8_shareOf_42 : decode cX8_shareOf 42 = .ok (.goto 4, 3) := by decide +kernel
theorem dX8_shareOf_45 : decode cX8_shareOf 45 = .ok (.iconst 0, 1) := by decide +kernel
theorem dX8_shareOf_46 : decode cX8_shareOf 46 = .ok (.istore 7, 2) := by decide +kernel
theorem dX8_shareOf_48 : decode cX8_shareOf 48 = .ok (.iload 4, 2) := by decide +kernel
theorem dX8_shareOf_50 : decode cX8_shareOf 50 = .ok (.iload 7, 2) := by decide +kernel
theorem dX8_shareOf_52 : decode cX8_shareOf 52 = .ok (.ifCond .eq 20, 3) := by decide +kernel
theorem dX8_shareOf_55 : decode cX8_shareOf 55 = .ok (.iload_n 2, 1) := by decide +kernel
theorem dX8_shareOf_56 : decode cX8_shareOf 56 = .ok (.aload_n 0, 1) := by decide +kernel
theorem dX8_shareOf_57 : decode cX8_shareOf 57 = .ok (.getfield 7, 3) := by decide +kernel
theorem dX8_shareOf_60 : decode cX8_shareOf 60 = .ok (.bipush 8, 2) := by decide +kernel
theorem dX8_shareOf_62 : decode cX8_shareOf 62 = .ok (.iload 6, 2) := by decide +kernel
theorem dX8_shareOf_64 : decode cX8_shareOf 64 = .ok (.iadd, 1) := by decide +kernel
theorem dX8_shareOf_65 : decode cX8_shareOf 65 = .ok (.iaload, 1) := by decide +kernel
theorem dX8_shareOf_66 : decode cX8_shareOf 66 = .ok (.imul, 1) := by decide +kernel
theorem dX8_shareOf_67 : decode cX8_shareOf 67 = .ok (.iload_n 3, 1) := by decide +kernel
theorem dX8_shareOf_68 : decode cX8_shareOf 68 = .ok (.idiv, 1) := by decide +kernel
theorem dX8_shareOf_69 : decode cX8_shareOf 69 = .ok (.goto 4, 3) := by decide +kernel
theorem dX8_shareOf_72 : decode cX8_shareOf 72 = .ok (.iconst 0, 1) := by decide +kernel
theorem dX8_shareOf_73 : decode cX8_shareOf 73 = .ok (.isub, 1) := by decide +kernel
theorem dX8_shareOf_74 : decode cX8_shareOf 74 = .ok (.istore 4, 2) := by decide +kernel
theorem dX8_shareOf_76 : decode cX8_shareOf 76 = .ok (.iload 5, 2) := by decide +kernel
theorem dX8_shareOf_78 : decode cX8_shareOf 78 = .ok (.iload 7, 2) := by decide +kernel
theorem dX8_shareOf_80 : decode cX8_shareOf 80 = .ok (.ifCond .eq 13, 3) := by decide +kernel
theorem dX8_shareOf_83 : decode cX8_shareOf 83 = .ok (.iload 6, 2) := by decide +kernel
theorem dX8_shareOf_85 : decode cX8_shareOf 85 = .ok (.iload_n 1, 1) := by decide +kernel
theorem dX8_shareOf_86 : decode cX8_shareOf 86 = .ok (.if_icmp .ge 7, 3) := by decide +kernel
theorem dX8_shareOf_89 : decode cX8_shareOf 89 = .ok (.iconst 1, 1) := by decide +kernel
theorem dX8_shareOf_90 : decode cX8_shareOf 90 = .ok (.goto 4, 3) := by decide +kernel
theorem dX8_shareOf_93 : decode cX8_shareOf 93 = .ok (.iconst 0, 1) := by decide +kernel
theorem dX8_shareOf_94 : decode cX8_shareOf 94 = .ok (.iadd, 1) := by decide +kernel
theorem dX8_shareOf_95 : decode cX8_shareOf 95 = .ok (.istore 5, 2) := by decide +kernel
theorem dX8_shareOf_97 : decode cX8_shareOf 97 = .ok (.iinc 6 1, 3) := by decide +kernel
theorem dX8_shareOf_100 : decode cX8_shareOf 100 = .ok (.goto (-81), 3) := by decide +kernel
theorem dX8_shareOf_103 : decode cX8_shareOf 103 = .ok (.iload_n 2, 1) := by decide +kernel
theorem dX8_shareOf_104 : decode cX8_shareOf 104 = .ok (.aload_n 0, 1) := by decide +kernel
theorem dX8_shareOf_105 : decode cX8_shareOf 105 = .ok (.getfield 7, 3) := by decide +kernel
theorem dX8_shareOf_108 : decode cX8_shareOf 108 = .ok (.bipush 8, 2) := by decide +kernel
theorem dX8_shareOf_110 : decode cX8_shareOf 110 = .ok (.iload_n 1, 1) := by decide +kernel
theorem dX8_shareOf_111 : decode cX8_shareOf 111 = .ok (.iadd, 1) := by decide +kernel
theorem dX8_shareOf_112 : decode cX8_shareOf 112 = .ok (.iaload, 1) := by decide +kernel
theorem dX8_shareOf_113 : decode cX8_shareOf 113 = .ok (.imul, 1) := by decide +kernel
theorem dX8_shareOf_114 : decode cX8_shareOf 114 = .ok (.iload_n 3, 1) := by decide +kernel
theorem dX8_shareOf_115 : decode cX8_shareOf 115 = .ok (.idiv, 1) := by decide +kernel
theorem dX8_shareOf_116 : decode cX8_shareOf 116 = .ok (.iload 5, 2) := by decide +kernel
theorem dX8_shareOf_118 : decode cX8_shareOf 118 = .ok (.iload 4, 2) := by decide +kernel
theorem dX8_shareOf_120 : decode cX8_shareOf 120 = .ok (.if_icmp .ge 7, 3) := by decide +kernel
theorem dX8_shareOf_123 : decode cX8_shareOf 123 = .ok (.iconst 1, 1) := by decide +kernel
theorem dX8_shareOf_124 : decode cX8_shareOf 124 = .ok (.goto 4, 3) := by decide +kernel
theorem dX8_shareOf_127 : decode cX8_shareOf 127 = .ok (.iconst 0, 1) := by decide +kernel
theorem dX8_shareOf_128 : decode cX8_shareOf 128 = .ok (.iadd, 1) := by decide +kernel
theorem dX8_shareOf_129 : decode cX8_shareOf 129 = .ok (.ireturn, 1) := by decide +kernel
set_option maxRecDepth 20000 in
theorem ggX8_share_X8_isToy : GoodIn wsX8_share wsX8_isToy := goodIn_r _ [8, 9, 10, 11, 7, 12, 3, 13, 14, 15, 24, 25, 26, 27, 28, 29, 30, 31, 32, 33, 34, 35, 36, 37, 38, 39, 40, 41, 42, 43, 44, 45, 46, 47] (by decide +kernel) (by decide +kernel)
set_option maxRecDepth 20000 in
theorem gX8_share_X8_isToy : GoodIn wsX8_share (wsV RX8 187 RX8 yX8_isToy wsX8_isToy) := goodIn_app (goodIn_of _ (by decide +kernel)) ggX8_share_X8_isToy
set_option maxRecDepth 20000 in
theorem ggX8_share_X8_in : GoodIn wsX8_share wsX8_in := goodIn_r _ [15] (by decide +kernel) (by decide +kernel)
set_option maxRecDepth 20000 in
theorem gX8_share_X8_in : GoodIn wsX8_share (va_wsS RX8 61 yX8_in wsX8_in) := goodIn_app (goodIn_of _ (by decide +kernel)) ggX8_share_X8_in
set_option maxRecDepth 20000 in
theorem ggX8_share_X8_shareOf : GoodIn wsX8_share wsX8_shareOf := goodIn_r _ [19, 3, 20, 21, 22, 7, 23, 9, 10, 11, 12, 24, 25, 26, 27, 28, 29, 30, 31, 32, 33, 34, 35, 36, 37, 38, 39, 40, 41, 42, 43, 44, 45, 46, 47] (by decide +kernel) (by decide +kernel)
set_option maxRecDepth 20000 in
theorem gX8_share_X8_shareOf : GoodIn wsX8_share (wsV RX8 219 RX8 yX8_shareOf wsX8_shareOf) := goodIn_app (goodIn_of _ (by decide +kernel)) ggX8_share_X8_shareOf
theorem dX8_share_0 : decode cX8_share 0 = .ok (.aload_n 0, 1) := by decide +kernel
theorem dX8_share_1 : decode cX8_share 1 = .ok (.iload_n 1, 1) := by decide +kernel
theorem dX8_share_2 : decode cX8_share 2 = .ok (.invokevirtual 187, 3) := by decide +kernel
theorem dX8_share_5 : decode cX8_share 5 = .ok (.ifCond .eq 15, 3) := by decide +kernel
theorem dX8_share_8 : decode cX8_share 8 = .ok (.iload_n 2, 1) := by decide +kernel
theorem dX8_share_9 : decode cX8_share 9 = .ok (.i2l, 1) := by decide +kernel
theorem dX8_share_10 : decode cX8_share 10 = .ok (.lconst 0, 1) := by decide +kernel
theorem dX8_share_11 : decode cX8_share 11 = .ok (.ldc2_w 217, 3) := by decide +kernel
theorem dX8_share_14 : decode cX8_share 14 = .ok (.invokestatic 61, 3) := by decide +kernel
theorem dX8_share_17 : decode cX8_share 17 = .ok (.ifCond .ne 6, 3) := by decide +kernel
theorem dX8_share_20 : decode cX8_share 20 = .ok (.ldc 71, 2) := by decide +kernel
theorem dX8_share_22 : decode cX8_share 22 = .ok (.ireturn, 1) := by decide +kernel
theorem dX8_share_23 : decode cX8_share 23 = .ok (.aload_n 0, 1) := by decide +kernel
theorem dX8_share_24 : decode cX8_share 24 = .ok (.getfield 7, 3) := by decide +kernel
theorem dX8_share_27 : decode cX8_share 27 = .ok (.bipush 19, 2) := by decide +kernel
theorem dX8_share_29 : decode cX8_share 29 = .ok (.iload_n 1, 1) := by decide +kernel
theorem dX8_share_30 : decode cX8_share 30 = .ok (.iadd, 1) := by decide +kernel
theorem dX8_share_31 : decode cX8_share 31 = .ok (.iaload, 1) := by decide +kernel
theorem dX8_share_32 : decode cX8_share 32 = .ok (.ifCond .ne 12, 3) := by decide +kernel
theorem dX8_share_35 : decode cX8_share 35 = .ok (.aload_n 0, 1) := by decide +kernel
theorem dX8_share_36 : decode cX8_share 36 = .ok (.iload_n 1, 1) := by decide +kernel
theorem dX8_share_37 : decode cX8_share 37 = .ok (.iload_n 2, 1) := by decide +kernel
theorem dX8_share_38 : decode cX8_share 38 = .ok (.invokevirtual 219, 3) := by decide +kernel
theorem dX8_share_41 : decode cX8_share 41 = .ok (.goto 4, 3) := by decide +kernel
theorem dX8_share_44 : decode cX8_share 44 = .ok (.iconst 0, 1) := by decide +kernel
theorem dX8_share_45 : decode cX8_share 45 = .ok (.ireturn, 1) := by decide +kernel
set_option maxRecDepth 20000 in
theorem ggX8_isSo_X8_goNext : GoodIn wsX8_isSo wsX8_goNext := goodIn_r _ [6, 7, 8, 5, 9, 10, 11, 12, 13, 14, 15, 16, 17, 18, 19, 20, 21, 22, 23, 24, 25, 26, 27, 28, 29, 30, 31, 32, 33] (by decide +kernel) (by decide +kernel)
set_option maxRecDepth 20000 in
theorem gX8_isSo_X8_goNext : GoodIn wsX8_isSo (va_wsS RX8 183 yX8_goNext wsX8_goNext) := goodIn_app (goodIn_of _ (by decide +kernel)) ggX8_isSo_X8_goNext
theorem dX8_isSo_0 : decode cX8_isSo 0 = .ok (.iconst 1, 1) := by decide +kernel
theorem dX8_isSo_1 : decode cX8_isSo 1 = .ok (.istore 4, 2) := by decide +kernel
theorem dX8_isSo_3 : decode cX8_isSo 3 = .ok (.iconst 0, 1) := by decide +kernel
theorem dX8_isSo_4 : decode cX8_isSo 4 = .ok (.istore 5, 2) := by decide +kernel
theorem dX8_isSo_6 : decode cX8_isSo 6 = .ok (.iload 5, 2) := by decide +kernel
theorem dX8_isSo_8 : decode cX8_isSo 8 = .ok (.iload_n 3, 1) := by decide +kernel
theorem dX8_isSo_9 : decode cX8_isSo 9 = .ok (.if_icmp .ge 57, 3) := by decide +kernel
theorem dX8_isSo_12 : decode cX8_isSo 12 = .ok (.aload_n 0, 1) := by decide +kernel
theorem dX8_isSo_13 : decode cX8_isSo 13 = .ok (.getfield 44, 3) := by decide +kernel
theorem dX8_isSo_16 : decode cX8_isSo 16 = .ok (.iload 5, 2) := by decide +kernel
theorem dX8_isSo_18 : decode cX8_isSo 18 = .ok (.iconst 5, 1) := by decide +kernel
theorem dX8_isSo_19 : decode cX8_isSo 19 = .ok (.irem, 1) := by decide +kernel
theorem dX8_isSo_20 : decode cX8_isSo 20 = .ok (.iconst 1, 1) := by decide +kernel
theorem dX8_isSo_21 : decode cX8_isSo 21 = .ok (.iadd, 1) := by decide +kernel
theorem dX8_isSo_22 : decode cX8_isSo 22 = .ok (.invokestatic 183, 3) := by decide +kernel
theorem dX8_isSo_25 : decode cX8_isSo 25 = .ok (.istore 6, 2) := by decide +kernel
theorem dX8_isSo_27 : decode cX8_isSo 27 = .ok (.iload 4, 2) := by decide +kernel
theorem dX8_isSo_29 : decode cX8_isSo 29 = .ok (.ifCond .eq 28, 3) := by decide +kernel
theorem dX8_isSo_32 : decode cX8_isSo 32 = .ok (.aload_n 0, 1) := by decide +kernel
theorem dX8_isSo_33 : decode cX8_isSo 33 = .ok (.getfield 44, 3) := by decide +kernel
theorem dX8_isSo_36 : decode cX8_isSo 36 = .ok (.bipush 19, 2) := by decide +kernel
theorem dX8_isSo_38 : decode cX8_isSo 38 = .ok (.iload_n 1, 1) := by decide +kernel
theorem dX8_isSo_39 : decode cX8_isSo 39 = .ok (.iadd, 1) := by decide +kernel
theorem dX8_isSo_40 : decode cX8_isSo 40 = .ok (.iaload, 1) := by decide +kernel
theorem dX8_isSo_41 : decode cX8_isSo 41 = .ok (.aload_n 0, 1) := by decide +kernel
theorem dX8_isSo_42 : decode cX8_isSo 42 = .ok (.getfield 32, 3) := by decide +kernel
theorem dX8_isSo_45 : decode cX8_isSo 45 = .ok (.iload_n 2, 1) := by decide +kernel
theorem dX8_isSo_46 : decode cX8_isSo 46 = .ok (.iload 5, 2) := by decide +kernel
theorem dX8_isSo_48 : decode cX8_isSo 48 = .ok (.iadd, 1) := by decide +kernel
theorem dX8_isSo_49 : decode cX8_isSo 49 = .ok (.iaload, 1) := by decide +kernel
theorem dX8_isSo_50 : decode cX8_isSo 50 = .ok (.if_icmp .ne 7, 3) := by decide +kernel
theorem dX8_isSo_53 : decode cX8_isSo 53 = .ok (.iconst 1, 1) := by decide +kernel
theorem dX8_isSo_54 : decode cX8_isSo 54 = .ok (.goto 4, 3) := by decide +kernel
theorem dX8_isSo_57 : decode cX8_isSo 57 = .ok (.iconst 0, 1) := by decide +kernel
theorem dX8_isSo_58 : decode cX8_isSo 58 = .ok (.istore 4, 2) := by decide +kernel
theorem dX8_isSo_60 : decode cX8_isSo 60 = .ok (.iinc 5 1, 3) := by decide +kernel
theorem dX8_isSo_63 : decode cX8_isSo 63 = .ok (.goto (-57), 3) := by decide +kernel
theorem dX8_isSo_66 : decode cX8_isSo 66 = .ok (.iload 4, 2) := by decide +kernel
theorem dX8_isSo_68 : decode cX8_isSo 68 = .ok (.ireturn, 1) := by decide +kernel
set_option maxRecDepth 20000 in
theorem ggX8_fits_X8_isToy : GoodIn wsX8_fits wsX8_isToy := goodIn_r _ [12, 13, 14, 15, 11, 16, 17, 18, 19, 20, 74, 75, 76, 77, 78, 79, 80, 81, 82, 83, 84, 85, 86, 87, 88, 89, 90, 91, 92, 93, 94, 95, 96, 97] (by decide +kernel) (by decide +kernel)
set_option maxRecDepth 20000 in
theorem gX8_fits_X8_isToy : GoodIn wsX8_fits (wsV RX8 187 RX8 yX8_isToy wsX8_isToy) := goodIn_app (goodIn_of _ (by decide +kernel)) ggX8_fits_X8_isToy
set_option maxRecDepth 20000 in
theorem ggX8_fits_X8_isRow : GoodIn wsX8_fits wsX8_isRow := goodIn_r _ [23, 24, 18, 19, 11, 20] (by decide +kernel) (by decide +kernel)
set_option maxRecDepth 20000 in
theorem gX8_fits_X8_isRow : GoodIn wsX8_fits (va_wsS RX8 65 yX8_isRow wsX8_isRow) := goodIn_app (goodIn_of _ (by decide +kernel)) ggX8_fits_X8_isRow
set_option maxRecDepth 20000 in
theorem ggX8_fits_X8_in : GoodIn wsX8_fits wsX8_in := goodIn_r _ [20] (by decide +kernel) (by decide +kernel)
set_option maxRecDepth 20000 in
theorem gX8_fits_X8_in : GoodIn wsX8_fits (va_wsS RX8 61 yX8_in wsX8_in) := goodIn_app (goodIn_of _ (by decide +kernel)) ggX8_fits_X8_in
set_option maxRecDepth 20000 in
theorem ggX8_fits_X8_found : GoodIn wsX8_fits wsX8_found := goodIn_r _ [28, 29, 30, 74, 75, 76, 77, 78, 79, 80, 81, 82, 83, 84, 85, 86, 87, 88, 89, 90, 91, 92, 93, 94, 95, 96, 97] (by decide +kernel) (by decide +kernel)
set_option maxRecDepth 20000 in
theorem gX8_fits_X8_found : GoodIn wsX8_fits (wsV RX8 72 RX8 yX8_found wsX8_found) := goodIn_app (goodIn_of _ (by decide +kernel)) ggX8_fits_X8_found
set_option maxRecDepth 20000 in
theorem ggX8_fits_X8_layHand : GoodIn wsX8_fits wsX8_layHand := goodIn_r _ [34, 7, 17, 74, 75, 76, 77, 78, 79, 80, 81, 82, 83, 84, 85, 86, 87, 88, 89, 90, 91, 92, 93, 94, 95, 96, 97] (by decide +kernel) (by decide +kernel)
set_option maxRecDepth 20000 in
theorem gX8_fits_X8_layHand : GoodIn wsX8_fits (wsV RX8 197 RX8 yX8_layHand wsX8_layHand) := goodIn_app (goodIn_of _ (by decide +kernel)) ggX8_fits_X8_layHand
set_option maxRecDepth 20000 in
theorem ggX8_fits_X8_isSo : GoodIn wsX8_fits wsX8_isSo := goodIn_r _ [38, 7, 39, 40, 41, 11, 42, 43, 44, 45, 46, 47, 48, 49, 50, 51, 52, 53, 54, 55, 56, 57, 58, 59, 60, 61, 62, 63, 64, 65, 66, 67, 68, 69, 74, 75, 76, 77, 78, 79, 80, 81, 82, 83, 84, 85, 86, 87, 88, 89, 90, 91, 92, 93, 94, 95, 96, 97] (by decide +kernel) (by decide +kernel)
set_option maxRecDepth 20000 in
theorem gX8_fits_X8_isSo : GoodIn wsX8_fits (wsV RX8 226 RX8 yX8_isSo wsX8_isSo) := goodIn_app (goodIn_of _ (by decide +kernel)) ggX8_fits_X8_isSo
set_option maxRecDepth 20000 in
theorem ggX8_fits_X8_well : GoodIn wsX8_fits wsX8_well := goodIn_r _ [73, 29, 74, 75, 76, 77, 78, 79, 80, 81, 82, 83, 84, 85, 86, 87, 88, 89, 90, 91, 92, 93, 94, 95, 96, 97] (by decide +kernel) (by decide +kernel)
set_option maxRecDepth 20000 in
theorem gX8_fits_X8_well : GoodIn wsX8_fits (wsV RX8 76 RX8 yX8_well wsX8_well) := goodIn_app (goodIn_of _ (by decide +kernel)) ggX8_fits_X8_well
theorem dX8_fits_0 : decode cX8_fits 0 = .ok (.aload_n 0, 1) := by decide +kernel
theorem dX8_fits_1 : decode cX8_fits 1 = .ok (.iload_n 1, 1) := by decide +kernel
theorem dX8_fits_2 : decode cX8_fits 2 = .ok (.invokevirtual 187, 3) := by decide +kernel
theorem dX8_fits_5 : decode cX8_fits 5 = .ok (.ifCond .eq 36, 3) := by decide +kernel
theorem dX8_fits_8 : decode cX8_fits 8 = .ok (.iload_n 2, 1) := by decide +kernel
theorem dX8_fits_9 : decode cX8_fits 9 = .ok (.invokestatic 65, 3) := by decide +kernel
theorem dX8_fits_12 : decode cX8_fits 12 = .ok (.ifCond .eq 29, 3) := by decide +kernel
theorem dX8_fits_15 : decode cX8_fits 15 = .ok (.iload 4, 2) := by decide +kernel
theorem dX8_fits_17 : decode cX8_fits 17 = .ok (.i2l, 1) := by decide +kernel
theorem dX8_fits_18 : decode cX8_fits 18 = .ok (.lconst 1, 1) := by decide +kernel
theorem dX8_fits_19 : decode cX8_fits 19 = .ok (.ldc2_w 222, 3) := by decide +kernel
theorem dX8_fits_22 : decode cX8_fits 22 = .ok (.invokestatic 61, 3) := by decide +kernel
theorem dX8_fits_25 : decode cX8_fits 25 = .ok (.ifCond .eq 16, 3) := by decide +kernel
theorem dX8_fits_28 : decode cX8_fits 28 = .ok (.iload 5, 2) := by decide +kernel
theorem dX8_fits_30 : decode cX8_fits 30 = .ok (.i2l, 1) := by decide +kernel
theorem dX8_fits_31 : decode cX8_fits 31 = .ok (.lconst 0, 1) := by decide +kernel
theorem dX8_fits_32 : decode cX8_fits 32 = .ok (.ldc2_w 224, 3) := by decide +kernel
theorem dX8_fits_35 : decode cX8_fits 35 = .ok (.invokestatic 61, 3) := by decide +kernel
theorem dX8_fits_38 : decode cX8_fits 38 = .ok (.ifCond .ne 6, 3) := by decide +kernel
theorem dX8_fits_41 : decode cX8_fits 41 = .ok (.ldc 71, 2) := by decide +kernel
theorem dX8_fits_43 : decode cX8_fits 43 = .ok (.ireturn, 1) := by decide +kernel
theorem dX8_fits_44 : decode cX8_fits 44 = .ok (.aload_n 0, 1) := by decide +kernel
theorem dX8_fits_45 : decode cX8_fits 45 = .ok (.getfield 29, 3) := by decide +kernel
theorem dX8_fits_48 : decode cX8_fits 48 = .ok (.iload_n 2, 1) := by decide +kernel
theorem dX8_fits_49 : decode cX8_fits 49 = .ok (.baload, 1) := by decide +kernel
theorem dX8_fits_50 : decode cX8_fits 50 = .ok (.ifCond .ne 9, 3) := by decide +kernel
theorem dX8_fits_53 : decode cX8_fits 53 = .ok (.aload_n 0, 1) := by decide +kernel
theorem dX8_fits_54 : decode cX8_fits 54 = .ok (.iconst 1, 1) := by decide +kernel
theorem dX8_fits_55 : decode cX8_fits 55 = .ok (.invokevirtual 72, 3) := by decide +kernel
theorem dX8_fits_58 : decode cX8_fits 58 = .ok (.ireturn, 1) := by decide +kernel
theorem dX8_fits_59 : decode cX8_fits 59 = .ok (.iload_n 3, 1) := by decide +kernel
theorem dX8_fits_60 : decode cX8_fits 60 = .ok (.i2l, 1) := by decide +kernel
theorem dX8_fits_61 : decode cX8_fits 61 = .ok (.lconst 0, 1) := by decide +kernel
theorem dX8_fits_62 : decode cX8_fits 62 = .ok (.aload_n 0, 1) := by decide +kernel
theorem dX8_fits_63 : decode cX8_fits 63 = .ok (.getfield 26, 3) := by decide +kernel
theorem dX8_fits_66 : decode cX8_fits 66 = .ok (.iload_n 2, 1) := by decide +kernel
theorem dX8_fits_67 : decode cX8_fits 67 = .ok (.iaload, 1) := by decide +kernel
theorem dX8_fits_68 : decode cX8_fits 68 = .ok (.iload 4, 2) := by decide +kernel
theorem dX8_fits_70 : decode cX8_fits 70 = .ok (.isub, 1) := by decide +kernel
theorem dX8_fits_71 : decode cX8_fits 71 = .ok (.i2l, 1) := by decide +kernel
theorem dX8_fits_72 : decode cX8_fits 72 = .ok (.invokestatic 61, 3) := by decide +kernel
theorem dX8_fits_75 : decode cX8_fits 75 = .ok (.ifCond .ne 9, 3) := by decide +kernel
theorem dX8_fits_78 : decode cX8_fits 78 = .ok (.aload_n 0, 1) := by decide +kernel
theorem dX8_fits_79 : decode cX8_fits 79 = .ok (.iconst 2, 1) := by decide +kernel
theorem dX8_fits_80 : decode cX8_fits 80 = .ok (.invokevirtual 72, 3) := by decide +kernel
theorem dX8_fits_83 : decode cX8_fits 83 = .ok (.ireturn, 1) := by decide +kernel
theorem dX8_fits_84 : decode cX8_fits 84 = .ok (.iconst 0, 1) := by decide +kernel
theorem dX8_fits_85 : decode cX8_fits 85 = .ok (.istore 6, 2) := by decide +kernel
theorem dX8_fits_87 : decode cX8_fits 87 = .ok (.iconst 0, 1) := by decide +kernel
theorem dX8_fits_88 : decode cX8_fits 88 = .ok (.istore 7, 2) := by decide +kernel
theorem dX8_fits_90 : decode cX8_fits 90 = .ok (.iload 7, 2) := by decide +kernel
theorem dX8_fits_92 : decode cX8_fits 92 = .ok (.bipush 10, 2) := by decide +kernel
theorem dX8_fits_94 : decode cX8_fits 94 = .ok (.if_icmp .ge 121, 3) := by decide +kernel
theorem dX8_fits_97 : decode cX8_fits 97 = .ok (.iload 5, 2) := by decide +kernel
theorem dX8_fits_99 : decode cX8_fits 99 = .ok (.ifCond .ne 16, 3) := by decide +kernel
theorem dX8_fits_102 : decode cX8_fits 102 = .ok (.iload 7, 2) := by decide +kernel
theorem dX8_fits_104 : decode cX8_fits 104 = .ok (.i2l, 1) := by decide +kernel
theorem dX8_fits_105 : decode cX8_fits 105 = .ok (.lconst 1, 1) := by decide +kernel
theorem dX8_fits_106 : decode cX8_fits 106 = .ok (.ldc2_w 143, 3) := by decide +kernel
theorem dX8_fits_109 : decode cX8_fits 109 = .ok (.invokestatic 61, 3) := by decide +kernel
theorem dX8_fits_112 : decode cX8_fits 112 = .ok (.goto 19, 3) := by decide +kernel
theorem dX8_fits_115 : decode cX8_fits 115 = .ok (.iload 5, 2) := by decide +kernel
theorem dX8_fits_117 : decode cX8_fits 117 = .ok (.iconst 1, 1) := by decide +kernel
theorem dX8_fits_118 : decode cX8_fits 118 = .ok (.if_icmp .gt 8, 3) := by decide +kernel
theorem dX8_fits_121 : decode cX8_fits 121 = .ok (.iload 7, 2) := by decide +kernel
theorem dX8_fits_123 : decode cX8_fits 123 = .ok (.ifCond .le 7, 3) := by decide +kernel
theorem dX8_fits_126 : decode cX8_fits 126 = .ok (.iconst 1, 1) := by decide +kernel
theorem dX8_fits_127 : decode cX8_fits 127 = .ok (.goto 4, 3) := by decide +kernel
theorem dX8_fits_130 : decode cX8_fits 130 = .ok (.iconst 0, 1) := by decide +kernel
theorem dX8_fits_131 : decode cX8_fits 131 = .ok (.istore 8, 2) := by decide +kernel
theorem dX8_fits_133 : decode cX8_fits 133 = .ok (.aload_n 0, 1) := by decide +kernel
theorem dX8_fits_134 : decode cX8_fits 134 = .ok (.invokevirtual 197, 3) := by decide +kernel
theorem dX8_fits_137 : decode cX8_fits 137 = .ok (.iload 8, 2) := by decide +kernel
theorem dX8_fits_139 : decode cX8_fits 139 = .ok (.ifCond .eq 70, 3) := by decide +kernel
theorem dX8_fits_142 : decode cX8_fits 142 = .ok (.aload_n 0, 1) := by decide +kernel
theorem dX8_fits_143 : decode cX8_fits 143 = .ok (.getfield 44, 3) := by decide +kernel
theorem dX8_fits_146 : decode cX8_fits 146 = .ok (.iload 5, 2) := by decide +kernel
theorem dX8_fits_148 : decode cX8_fits 148 = .ok (.ifCond .ne 9, 3) := by decide +kernel
theorem dX8_fits_151 : decode cX8_fits 151 = .ok (.iconst 1, 1) := by decide +kernel
theorem dX8_fits_152 : decode cX8_fits 152 = .ok (.iload_n 1, 1) := by decide +kernel
theorem dX8_fits_153 : decode cX8_fits 153 = .ok (.iadd, 1) := by decide +kernel
theorem dX8_fits_154 : decode cX8_fits 154 = .ok (.goto 23, 3) := by decide +kernel
theorem dX8_fits_157 : decode cX8_fits 157 = .ok (.iload 5, 2) := by decide +kernel
theorem dX8_fits_159 : decode cX8_fits 159 = .ok (.iconst 1, 1) := by decide +kernel
theorem dX8_fits_160 : decode cX8_fits 160 = .ok (.if_icmp .ne 10, 3) := by decide +kernel
theorem dX8_fits_163 : decode cX8_fits 163 = .ok (.bipush 8, 2) := by decide +kernel
theorem dX8_fits_165 : decode cX8_fits 165 = .ok (.iload_n 1, 1) := by decide +kernel
theorem dX8_fits_166 : decode cX8_fits 166 = .ok (.iadd, 1) := by decide +kernel
theorem dX8_fits_167 : decode cX8_fits 167 = .ok (.goto 10, 3) := by decide +kernel
theorem dX8_fits_170 : decode cX8_fits 170 = .ok (.bipush 16, 2) := by decide +kernel
theorem dX8_fits_172 : decode cX8_fits 172 = .ok (.iload 5, 2) := by decide +kernel
theorem dX8_fits_174 : decode cX8_fits 174 = .ok (.iadd, 1) := by decide +kernel
theorem dX8_fits_175 : decode cX8_fits 175 = .ok (.iconst 2, 1) := by decide +kernel
theorem dX8_fits_176 : decode cX8_fits 176 = .ok (.isub, 1) := by decide +kernel
theorem dX8_fits_177 : decode cX8_fits 177 = .ok (.iload 7, 2) := by decide +kernel
theorem dX8_fits_179 : decode cX8_fits 179 = .ok (.iastore, 1) := by decide +kernel
theorem dX8_fits_180 : decode cX8_fits 180 = .ok (.iload 6, 2) := by decide +kernel
theorem dX8_fits_182 : decode cX8_fits 182 = .ok (.aload_n 0, 1) := by decide +kernel
theorem dX8_fits_183 : decode cX8_fits 183 = .ok (.iload_n 1, 1) := by decide +kernel
theorem dX8_fits_184 : decode cX8_fits 184 = .ok (.bipush 40, 2) := by decide +kernel
theorem dX8_fits_186 : decode cX8_fits 186 = .ok (.iload_n 2, 1) := by decide +kernel
theorem dX8_fits_187 : decode cX8_fits 187 = .ok (.imul, 1) := by decide +kernel
theorem dX8_fits_188 : decode cX8_fits 188 = .ok (.iload_n 3, 1) := by decide +kernel
theorem dX8_fits_189 : decode cX8_fits 189 = .ok (.iadd, 1) := by decide +kernel
theorem dX8_fits_190 : decode cX8_fits 190 = .ok (.iload 4, 2) := by decide +kernel
theorem dX8_fits_192 : decode cX8_fits 192 = .ok (.invokevirtual 226, 3) := by decide +kernel
theorem dX8_fits_195 : decode cX8_fits 195 = .ok (.ifCond .eq 10, 3) := by decide +kernel
theorem dX8_fits_198 : decode cX8_fits 198 = .ok (.iconst 1, 1) := by decide +kernel
theorem dX8_fits_199 : decode cX8_fits 199 = .ok (.iload 7, 2) := by decide +kernel
theorem dX8_fits_201 : decode cX8_fits 201 = .ok (.ishl, 1) := by decide +kernel
theorem dX8_fits_202 : decode cX8_fits 202 = .ok (.goto 4, 3) := by decide +kernel
theorem dX8_fits_205 : decode cX8_fits 205 = .ok (.iconst 0, 1) := by decide +kernel
theorem dX8_fits_206 : decode cX8_fits 206 = .ok (.ior, 1) := by decide +kernel
theorem dX8_fits_207 : decode cX8_fits 207 = .ok (.istore 6, 2) := by decide +kernel
theorem dX8_fits_209 : decode cX8_fits 209 = .ok (.iinc 7 1, 3) := by decide +kernel
theorem dX8_fits_212 : decode cX8_fits 212 = .ok (.goto (-122), 3) := by decide +kernel
theorem dX8_fits_215 : decode cX8_fits 215 = .ok (.aload_n 0, 1) := by decide +kernel
theorem dX8_fits_216 : decode cX8_fits 216 = .ok (.iload 6, 2) := by decide +kernel
theorem dX8_fits_218 : decode cX8_fits 218 = .ok (.invokevirtual 76, 3) := by decide +kernel
theorem dX8_fits_221 : decode cX8_fits 221 = .ok (.ireturn, 1) := by decide +kernel
theorem dX8_fraction_0 : decode cX8_fraction 0 = .ok (.lload_n 1, 1) := by decide +kernel
theorem dX8_fraction_1 : decode cX8_fraction 1 = .ok (.lstore 5, 2) := by decide +kernel
theorem dX8_fraction_3 : decode cX8_fraction 3 = .ok (.lload_n 3, 1) := by decide +kernel
theorem dX8_fraction_4 : decode cX8_fraction 4 = .ok (.lstore 7, 2) := by decide +kernel
theorem dX8_fraction_6 : decode cX8_fraction 6 = .ok (.lload 7, 2) := by decide +kernel
theorem dX8_fraction_8 : decode cX8_fraction 8 = .ok (.lconst 0, 1) := by decide +kernel
theorem dX8_fraction_9 : decode cX8_fraction 9 = .ok (.lcmp, 1) := by decide +kernel
theorem dX8_fraction_10 : decode cX8_fraction 10 = .ok (.ifCond .eq 21, 3) := by decide +kernel
theorem dX8_fraction_13 : decode cX8_fraction 13 = .ok (.lload 5, 2) := by decide +kernel
theorem dX8_fraction_15 : decode cX8_fraction 15 = .ok (.lload 7, 2) := by decide +kernel
theorem dX8_fraction_17 : decode cX8_fraction 17 = .ok (.lrem, 1) := by decide +kernel
theorem dX8_fraction_18 : decode cX8_fraction 18 = .ok (.lstore 9, 2) := by decide +kernel
theorem dX8_fraction_20 : decode cX8_fraction 20 = .ok (.lload 7, 2) := by decide +kernel
theorem dX8_fraction_22 : decode cX8_fraction 22 = .ok (.lstore 5, 2) := by decide +kernel
theorem dX8_fraction_24 : decode cX8_fraction 24 = .ok (.lload 9, 2) := by decide +kernel
theorem dX8_fraction_26 : decode cX8_fraction 26 = .ok (.lstore 7, 2) := by decide +kernel
theorem dX8_fraction_28 : decode cX8_fraction 28 = .ok (.goto (-22), 3) := by decide +kernel
theorem dX8_fraction_31 : decode cX8_fraction 31 = .ok (.aload_n 0, 1) := by decide +kernel
theorem dX8_fraction_32 : decode cX8_fraction 32 = .ok (.lload_n 1, 1) := by decide +kernel
theorem dX8_fraction_33 : decode cX8_fraction 33 = .ok (.lload 5, 2) := by decide +kernel
theorem dX8_fraction_35 : decode cX8_fraction 35 = .ok (.ldiv, 1) := by decide +kernel
theorem dX8_fraction_36 : decode cX8_fraction 36 = .ok (.putfield 230, 3) := by decide +kernel
theorem dX8_fraction_39 : decode cX8_fraction 39 = .ok (.aload_n 0, 1) := by decide +kernel
theorem dX8_fraction_40 : decode cX8_fraction 40 = .ok (.lload_n 3, 1) := by decide +kernel
theorem dX8_fraction_41 : decode cX8_fraction 41 = .ok (.lload 5, 2) := by decide +kernel
theorem dX8_fraction_43 : decode cX8_fraction 43 = .ok (.ldiv, 1) := by decide +kernel
theorem dX8_fraction_44 : decode cX8_fraction 44 = .ok (.putfield 47, 3) := by decide +kernel
theorem dX8_fraction_47 : decode cX8_fraction 47 = .ok (.return_, 1) := by decide +kernel
set_option maxRecDepth 20000 in
theorem ggX8_chance_X8_isToy : GoodIn wsX8_chance wsX8_isToy := goodIn_r _ [12, 13, 14, 15, 11, 16, 5, 17, 18, 19, 59, 60, 61, 62, 63, 64, 65, 66, 67, 68, 69, 70, 71, 72, 73, 74, 75, 76, 77, 78, 79, 80, 81, 82] (by decide +kernel) (by decide +kernel)
set_option maxRecDepth 20000 in
theorem gX8_chance_X8_isToy : GoodIn wsX8_chance (wsV RX8 187 RX8 yX8_isToy wsX8_isToy) := goodIn_app (goodIn_of _ (by decide +kernel)) ggX8_chance_X8_isToy
set_option maxRecDepth 20000 in
theorem ggX8_chance_X8_isColumn : GoodIn wsX8_chance wsX8_isColumn := goodIn_r _ [22, 23, 17, 18, 11, 19] (by decide +kernel) (by decide +kernel)
set_option maxRecDepth 20000 in
theorem gX8_chance_X8_isColumn : GoodIn wsX8_chance (va_wsS RX8 177 yX8_isColumn wsX8_isColumn) := goodIn_app (goodIn_of _ (by decide +kernel)) ggX8_chance_X8_isColumn
set_option maxRecDepth 20000 in
theorem ggX8_chance_X8_in : GoodIn wsX8_chance wsX8_in := goodIn_r _ [19] (by decide +kernel) (by decide +kernel)
set_option maxRecDepth 20000 in
theorem gX8_chance_X8_in : GoodIn wsX8_chance (va_wsS RX8 61 yX8_in wsX8_in) := goodIn_app (goodIn_of _ (by decide +kernel)) ggX8_chance_X8_in
set_option maxRecDepth 20000 in
theorem ggX8_chance_X8_layHand : GoodIn wsX8_chance wsX8_layHand := goodIn_r _ [27, 4, 5, 59, 60, 61, 62, 63, 64, 65, 66, 67, 68, 69, 70, 71, 72, 73, 74, 75, 76, 77, 78, 79, 80, 81, 82] (by decide +kernel) (by decide +kernel)
set_option maxRecDepth 20000 in
theorem gX8_chance_X8_layHand : GoodIn wsX8_chance (wsV RX8 197 RX8 yX8_layHand wsX8_layHand) := goodIn_app (goodIn_of _ (by decide +kernel)) ggX8_chance_X8_layHand
set_option maxRecDepth 20000 in
theorem ggX8_chance_X8_has : GoodIn wsX8_chance wsX8_has := goodIn_r _ [30] (by decide +kernel) (by decide +kernel)
set_option maxRecDepth 20000 in
theorem gX8_chance_X8_has : GoodIn wsX8_chance (va_wsS RX8 237 yX8_has wsX8_has) := goodIn_app (goodIn_of _ (by decide +kernel)) ggX8_chance_X8_has
set_option maxRecDepth 20000 in
theorem ggX8_chance_X8_goPlay : GoodIn wsX8_chance wsX8_goPlay := goodIn_r _ [33, 34, 35, 11, 36, 37, 38, 39, 40, 41, 42, 43, 44, 45, 46, 47, 48, 49, 50, 51, 52, 53, 54] (by decide +kernel) (by decide +kernel)
set_option maxRecDepth 20000 in
theorem gX8_chance_X8_goPlay : GoodIn wsX8_chance (va_wsS RX8 172 yX8_goPlay wsX8_goPlay) := goodIn_app (goodIn_of _ (by decide +kernel)) ggX8_chance_X8_goPlay
set_option maxRecDepth 20000 in
theorem ggX8_chance_X8_fraction : GoodIn wsX8_chance wsX8_fraction := goodIn_r _ [58, 6, 7, 59, 60, 61, 62, 63, 64, 65, 66, 67, 68, 69, 70, 71, 72, 73, 74, 75, 76, 77, 78, 79, 80, 81, 82] (by decide +kernel) (by decide +kernel)
set_option maxRecDepth 20000 in
theorem gX8_chance_X8_fraction : GoodIn wsX8_chance (wsV RX8 240 RX8 yX8_fraction wsX8_fraction) := goodIn_app (goodIn_of _ (by decide +kernel)) ggX8_chance_X8_fraction
theorem dX8_chance_0 : decode cX8_chance 0 = .ok (.aload_n 0, 1) := by decide +kernel
theorem dX8_chance_1 : decode cX8_chance 1 = .ok (.iload_n 1, 1) := by decide +kernel
theorem dX8_chance_2 : decode cX8_chance 2 = .ok (.invokevirtual 187, 3) := by decide +kernel
theorem dX8_chance_5 : decode cX8_chance 5 = .ok (.ifCond .eq 46, 3) := by decide +kernel
theorem dX8_chance_8 : decode cX8_chance 8 = .ok (.iload_n 2, 1) := by decide +kernel
theorem dX8_chance_9 : decode cX8_chance 9 = .ok (.invokestatic 177, 3) := by decide +kernel
theorem dX8_chance_12 : decode cX8_chance 12 = .ok (.ifCond .eq 39, 3) := by decide +kernel
theorem dX8_chance_15 : decode cX8_chance 15 = .ok (.iload_n 3, 1) := by decide +kernel
theorem dX8_chance_16 : decode cX8_chance 16 = .ok (.i2l, 1) := by decide +kernel
theorem dX8_chance_17 : decode cX8_chance 17 = .ok (.lconst 0, 1) := by decide +kernel
theorem dX8_chance_18 : decode cX8_chance 18 = .ok (.ldc2_w 233, 3) := by decide +kernel
theorem dX8_chance_21 : decode cX8_chance 21 = .ok (.invokestatic 61, 3) := by decide +kernel
theorem dX8_chance_24 : decode cX8_chance 24 = .ok (.ifCond .eq 27, 3) := by decide +kernel
theorem dX8_chance_27 : decode cX8_chance 27 = .ok (.iload 4, 2) := by decide +kernel
theorem dX8_chance_29 : decode cX8_chance 29 = .ok (.i2l, 1) := by decide +kernel
theorem dX8_chance_30 : decode cX8_chance 30 = .ok (.lconst 0, 1) := by decide +kernel
theorem dX8_chance_31 : decode cX8_chance 31 = .ok (.ldc2_w 235, 3) := by decide +kernel
theorem dX8_chance_34 : decode cX8_chance 34 = .ok (.invokestatic 61, 3) := by decide +kernel
theorem dX8_chance_37 : decode cX8_chance 37 = .ok (.ifCond .eq 14, 3) := by decide +kernel
theorem dX8_chance_40 : decode cX8_chance 40 = .ok (.iload 5, 2) := by decide +kernel
theorem dX8_chance_42 : decode cX8_chance 42 = .ok (.i2l, 1) := by decide +kernel
theorem dX8_chance_43 : decode cX8_chance 43 = .ok (.lconst 0, 1) := by decide +kernel
theorem dX8_chance_44 : decode cX8_chance 44 = .ok (.lconst 1, 1) := by decide +kernel
theorem dX8_chance_45 : decode cX8_chance 45 = .ok (.invokestatic 61, 3) := by decide +kernel
theorem dX8_chance_48 : decode cX8_chance 48 = .ok (.ifCond .ne 6, 3) := by decide +kernel
theorem dX8_chance_51 : decode cX8_chance 51 = .ok (.ldc 71, 2) := by decide +kernel
theorem dX8_chance_53 : decode cX8_chance 53 = .ok (.ireturn, 1) := by decide +kernel
theorem dX8_chance_54 : decode cX8_chance 54 = .ok (.lconst 0, 1) := by decide +kernel
theorem dX8_chance_55 : decode cX8_chance 55 = .ok (.lstore 6, 2) := by decide +kernel
theorem dX8_chance_57 : decode cX8_chance 57 = .ok (.lconst 1, 1) := by decide +kernel
theorem dX8_chance_58 : decode cX8_chance 58 = .ok (.lstore 8, 2) := by decide +kernel
theorem dX8_chance_60 : decode cX8_chance 60 = .ok (.iconst 0, 1) := by decide +kernel
theorem dX8_chance_61 : decode cX8_chance 61 = .ok (.istore 10, 2) := by decide +kernel
theorem dX8_chance_63 : decode cX8_chance 63 = .ok (.iload 10, 2) := by decide +kernel
theorem dX8_chance_65 : decode cX8_chance 65 = .ok (.iload_n 3, 1) := by decide +kernel
theorem dX8_chance_66 : decode cX8_chance 66 = .ok (.if_icmp .ge 17, 3) := by decide +kernel
theorem dX8_chance_69 : decode cX8_chance 69 = .ok (.lload 8, 2) := by decide +kernel
theorem dX8_chance_71 : decode cX8_chance 71 = .ok (.ldc2_w 235, 3) := by decide +kernel
theorem dX8_chance_74 : decode cX8_chance 74 = .ok (.lmul, 1) := by decide +kernel
theorem dX8_chance_75 : decode cX8_chance 75 = .ok (.lstore 8, 2) := by decide +kernel
theorem dX8_chance_77 : decode cX8_chance 77 = .ok (.iinc 10 1, 3) := by decide +kernel
theorem dX8_chance_80 : decode cX8_chance 80 = .ok (.goto (-17), 3) := by decide +kernel
theorem dX8_chance_83 : decode cX8_chance 83 = .ok (.iconst 0, 1) := by decide +kernel
theorem dX8_chance_84 : decode cX8_chance 84 = .ok (.istore 10, 2) := by decide +kernel
theorem dX8_chance_86 : decode cX8_chance 86 = .ok (.iload 10, 2) := by decide +kernel
theorem dX8_chance_88 : decode cX8_chance 88 = .ok (.iconst 1, 1) := by decide +kernel
theorem dX8_chance_89 : decode cX8_chance 89 = .ok (.iload_n 3, 1) := by decide +kernel
theorem dX8_chance_90 : decode cX8_chance 90 = .ok (.ishl, 1) := by decide +kernel
theorem dX8_chance_91 : decode cX8_chance 91 = .ok (.if_icmp .ge 118, 3) := by decide +kernel
theorem dX8_chance_94 : decode cX8_chance 94 = .ok (.lconst 1, 1) := by decide +kernel
theorem dX8_chance_95 : decode cX8_chance 95 = .ok (.lstore 11, 2) := by decide +kernel
theorem dX8_chance_97 : decode cX8_chance 97 = .ok (.aload_n 0, 1) := by decide +kernel
theorem dX8_chance_98 : decode cX8_chance 98 = .ok (.invokevirtual 197, 3) := by decide +kernel
theorem dX8_chance_101 : decode cX8_chance 101 = .ok (.iconst 0, 1) := by decide +kernel
theorem dX8_chance_102 : decode cX8_chance 102 = .ok (.istore 13, 2) := by decide +kernel
theorem dX8_chance_104 : decode cX8_chance 104 = .ok (.iload 13, 2) := by decide +kernel
theorem dX8_chance_106 : decode cX8_chance 106 = .ok (.iload_n 3, 1) := by decide +kernel
theorem dX8_chance_107 : decode cX8_chance 107 = .ok (.if_icmp .ge 73, 3) := by decide +kernel
theorem dX8_chance_110 : decode cX8_chance 110 = .ok (.lload 11, 2) := by decide +kernel
theorem dX8_chance_112 : decode cX8_chance 112 = .ok (.iload 10, 2) := by decide +kernel
theorem dX8_chance_114 : decode cX8_chance 114 = .ok (.iload 13, 2) := by decide +kernel
theorem dX8_chance_116 : decode cX8_chance 116 = .ok (.invokestatic 237, 3) := by decide +kernel
theorem dX8_chance_119 : decode cX8_chance 119 = .ok (.ifCond .eq 9, 3) := by decide +kernel
theorem dX8_chance_122 : decode cX8_chance 122 = .ok (.iload 4, 2) := by decide +kernel
theorem dX8_chance_124 : decode cX8_chance 124 = .ok (.i2l, 1) := by decide +kernel
theorem dX8_chance_125 : decode cX8_chance 125 = .ok (.goto 9, 3) := by decide +kernel
theorem dX8_chance_128 : decode cX8_chance 128 = .ok (.bipush 10, 2) := by decide +kernel
theorem dX8_chance_130 : decode cX8_chance 130 = .ok (.iload 4, 2) := by decide +kernel
theorem dX8_chance_132 : decode cX8_chance 132 = .ok (.isub, 1) := by decide +kernel
theorem dX8_chance_133 : decode cX8_chance 133 = .ok (.i2l, 1) := by decide +kernel
theorem dX8_chance_134 : decode cX8_chance 134 = .ok (.lmul, 1) := by decide +kernel
theorem dX8_chance_135 : decode cX8_chance 135 = .ok (.lstore 11, 2) := by decide +kernel
theorem dX8_chance_137 : decode cX8_chance 137 = .ok (.aload_n 0, 1) := by decide +kernel
theorem dX8_chance_138 : decode cX8_chance 138 = .ok (.getfield 44, 3) := by decide +kernel
theorem dX8_chance_141 : decode cX8_chance 141 = .ok (.iload_n 2, 1) := by decide +kernel
theorem dX8_chance_142 : decode cX8_chance 142 = .ok (.iload 10, 2) := by decide +kernel
theorem dX8_chance_144 : decode cX8_chance 144 = .ok (.iload 13, 2) := by decide +kernel
theorem dX8_chance_146 : decode cX8_chance 146 = .ok (.invokestatic 237, 3) := by decide +kernel
theorem dX8_chance_149 : decode cX8_chance 149 = .ok (.ifCond .eq 13, 3) := by decide +kernel
theorem dX8_chance_152 : decode cX8_chance 152 = .ok (.aload_n 0, 1) := by decide +kernel
theorem dX8_chance_153 : decode cX8_chance 153 = .ok (.getfield 7, 3) := by decide +kernel
theorem dX8_chance_156 : decode cX8_chance 156 = .ok (.bipush 17, 2) := by decide +kernel
theorem dX8_chance_158 : decode cX8_chance 158 = .ok (.iaload, 1) := by decide +kernel
theorem dX8_chance_159 : decode cX8_chance 159 = .ok (.goto 10, 3) := by decide +kernel
theorem dX8_chance_162 : decode cX8_chance 162 = .ok (.aload_n 0, 1) := by decide +kernel
theorem dX8_chance_163 : decode cX8_chance 163 = .ok (.getfield 7, 3) := by decide +kernel
theorem dX8_chance_166 : decode cX8_chance 166 = .ok (.bipush 16, 2) := by decide +kernel
theorem dX8_chance_168 : decode cX8_chance 168 = .ok (.iaload, 1) := by decide +kernel
theorem dX8_chance_169 : decode cX8_chance 169 = .ok (.invokestatic 172, 3) := by decide +kernel
theorem dX8_chance_172 : decode cX8_chance 172 = .ok (.istore 14, 2) := by decide +kernel
theorem dX8_chance_174 : decode cX8_chance 174 = .ok (.iinc 13 1, 3) := by decide +kernel
theorem dX8_chance_177 : decode cX8_chance 177 = .ok (.goto (-73), 3) := by decide +kernel
theorem dX8_chance_180 : decode cX8_chance 180 = .ok (.lload 6, 2) := by decide +kernel
theorem dX8_chance_182 : decode cX8_chance 182 = .ok (.aload_n 0, 1) := by decide +kernel
theorem dX8_chance_183 : decode cX8_chance 183 = .ok (.getfield 44, 3) := by decide +kernel
theorem dX8_chance_186 : decode cX8_chance 186 = .ok (.bipush 19, 2) := by decide +kernel
theorem dX8_chance_188 : decode cX8_chance 188 = .ok (.iload_n 1, 1) := by decide +kernel
theorem dX8_chance_189 : decode cX8_chance 189 = .ok (.iadd, 1) := by decide +kernel
theorem dX8_chance_190 : decode cX8_chance 190 = .ok (.iaload, 1) := by decide +kernel
theorem dX8_chance_191 : decode cX8_chance 191 = .ok (.ifCond .ne 8, 3) := by decide +kernel
theorem dX8_chance_194 : decode cX8_chance 194 = .ok (.lload 11, 2) := by decide +kernel
theorem dX8_chance_196 : decode cX8_chance 196 = .ok (.goto 4, 3) := by decide +kernel
theorem dX8_chance_199 : decode cX8_chance 199 = .ok (.lconst 0, 1) := by decide +kernel
theorem dX8_chance_200 : decode cX8_chance 200 = .ok (.ladd, 1) := by decide +kernel
theorem dX8_chance_201 : decode cX8_chance 201 = .ok (.lstore 6, 2) := by decide +kernel
theorem dX8_chance_203 : decode cX8_chance 203 = .ok (.iinc 10 1, 3) := by decide +kernel
theorem dX8_chance_206 : decode cX8_chance 206 = .ok (.goto (-120), 3) := by decide +kernel
theorem dX8_chance_209 : decode cX8_chance 209 = .ok (.aload_n 0, 1) := by decide +kernel
theorem dX8_chance_210 : decode cX8_chance 210 = .ok (.lload 6, 2) := by decide +kernel
theorem dX8_chance_212 : decode cX8_chance 212 = .ok (.lload 8, 2) := by decide +kernel
theorem dX8_chance_214 : decode cX8_chance 214 = .ok (.invokevirtual 240, 3) := by decide +kernel
theorem dX8_chance_217 : decode cX8_chance 217 = .ok (.iload 5, 2) := by decide +kernel
theorem dX8_chance_219 : decode cX8_chance 219 = .ok (.ifCond .ne 10, 3) := by decide +kernel
theorem dX8_chance_222 : decode cX8_chance 222 = .ok (.aload_n 0, 1) := by decide +kernel
theorem dX8_chance_223 : decode cX8_chance 223 = .ok (.getfield 230, 3) := by decide +kernel
theorem dX8_chance_226 : decode cX8_chance 226 = .ok (.goto 7, 3) := by decide +kernel
theorem dX8_chance_229 : decode cX8_chance 229 = .ok (.aload_n 0, 1) := by decide +kernel
theorem dX8_chance_230 : decode cX8_chance 230 = .ok (.getfield 47, 3) := by decide +kernel
theorem dX8_chance_233 : decode cX8_chance 233 = .ok (.l2i, 1) := by decide +kernel
theorem dX8_chance_234 : decode cX8_chance 234 = .ok (.ireturn, 1) := by decide +kernel
set_option maxRecDepth 20000 in
theorem ggX8_drawn_X8_toys : GoodIn wsX8_drawn wsX8_toys := goodIn_r _ [14, 15, 56, 57, 58, 59, 60, 61, 62, 63, 64, 65, 66, 67, 68, 69, 70, 71, 72, 73, 74, 75, 76, 77, 78, 79] (by decide +kernel) (by decide +kernel)
set_option maxRecDepth 20000 in
theorem gX8_drawn_X8_toys : GoodIn wsX8_drawn (wsV RX8 140 RX8 yX8_toys wsX8_toys) := goodIn_app (goodIn_of _ (by decide +kernel)) ggX8_drawn_X8_toys
set_option maxRecDepth 20000 in
theorem ggX8_drawn_X8_in : GoodIn wsX8_drawn wsX8_in := goodIn_r _ [18] (by decide +kernel) (by decide +kernel)
set_option maxRecDepth 20000 in
theorem gX8_drawn_X8_in : GoodIn wsX8_drawn (va_wsS RX8 61 yX8_in wsX8_in) := goodIn_app (goodIn_of _ (by decide +kernel)) ggX8_drawn_X8_in
set_option maxRecDepth 20000 in
theorem ggX8_drawn_X8_layHand : GoodIn wsX8_drawn wsX8_layHand := goodIn_r _ [22, 7, 15, 56, 57, 58, 59, 60, 61, 62, 63, 64, 65, 66, 67, 68, 69, 70, 71, 72, 73, 74, 75, 76, 77, 78, 79] (by decide +kernel) (by decide +kernel)
set_option maxRecDepth 20000 in
theorem gX8_drawn_X8_layHand : GoodIn wsX8_drawn (wsV RX8 197 RX8 yX8_layHand wsX8_layHand) := goodIn_app (goodIn_of _ (by decide +kernel)) ggX8_drawn_X8_layHand
set_option maxRecDepth 20000 in
theorem ggX8_drawn_X8_isColumn : GoodIn wsX8_drawn wsX8_isColumn := goodIn_r _ [25, 8, 16, 17, 13, 18] (by decide +kernel) (by decide +kernel)
set_option maxRecDepth 20000 in
theorem gX8_drawn_X8_isColumn : GoodIn wsX8_drawn (va_wsS RX8 177 yX8_isColumn wsX8_isColumn) := goodIn_app (goodIn_of _ (by decide +kernel)) ggX8_drawn_X8_isColumn
set_option maxRecDepth 20000 in
theorem ggX8_drawn_X8_lay : GoodIn wsX8_drawn wsX8_lay := goodIn_r _ [28, 29, 30, 13, 31] (by decide +kernel) (by decide +kernel)
set_option maxRecDepth 20000 in
theorem gX8_drawn_X8_lay : GoodIn wsX8_drawn (va_wsS RX8 162 yX8_lay wsX8_lay) := goodIn_app (goodIn_of _ (by decide +kernel)) ggX8_drawn_X8_lay
set_option maxRecDepth 20000 in
theorem ggX8_drawn_X8_goNext : GoodIn wsX8_drawn wsX8_goNext := goodIn_r _ [34, 35, 36, 13, 37, 38, 39, 40, 41, 42, 43, 44, 45, 46, 47, 48, 49, 50, 51, 52, 29, 30, 31, 26, 27, 28, 53, 54, 55] (by decide +kernel) (by decide +kernel)
set_option maxRecDepth 20000 in
theorem gX8_drawn_X8_goNext : GoodIn wsX8_drawn (va_wsS RX8 183 yX8_goNext wsX8_goNext) := goodIn_app (goodIn_of _ (by decide +kernel)) ggX8_drawn_X8_goNext
theorem dX8_drawn_0 : decode cX8_drawn 0 = .ok (.aload_n 0, 1) := by decide +kernel
theorem dX8_drawn_1 : decode cX8_drawn 1 = .ok (.invokevirtual 140, 3) := by decide +kernel
theorem dX8_drawn_4 : decode cX8_drawn 4 = .ok (.ifCond .ne 6, 3) := by decide +kernel
theorem dX8_drawn_7 : decode cX8_drawn 7 = .ok (.ldc 176, 2) := by decide +kernel
theorem dX8_drawn_9 : decode cX8_drawn 9 = .ok (.ireturn, 1) := by decide +kernel
theorem dX8_drawn_10 : decode cX8_drawn 10 = .ok (.iload_n 1, 1) := by decide +kernel
theorem dX8_drawn_11 : decode cX8_drawn 11 = .ok (.i2l, 1) := by decide +kernel
theorem dX8_drawn_12 : decode cX8_drawn 12 = .ok (.lconst 0, 1) := by decide +kernel
theorem dX8_drawn_13 : decode cX8_drawn 13 = .ok (.ldc2_w 200, 3) := by decide +kernel
theorem dX8_drawn_16 : decode cX8_drawn 16 = .ok (.invokestatic 61, 3) := by decide +kernel
theorem dX8_drawn_19 : decode cX8_drawn 19 = .ok (.ifCond .eq 25, 3) := by decide +kernel
theorem dX8_drawn_22 : decode cX8_drawn 22 = .ok (.iload_n 2, 1) := by decide +kernel
theorem dX8_drawn_23 : decode cX8_drawn 23 = .ok (.i2l, 1) := by decide +kernel
theorem dX8_drawn_24 : decode cX8_drawn 24 = .ok (.lconst 1, 1) := by decide +kernel
theorem dX8_drawn_25 : decode cX8_drawn 25 = .ok (.ldc2_w 244, 3) := by decide +kernel
theorem dX8_drawn_28 : decode cX8_drawn 28 = .ok (.invokestatic 61, 3) := by decide +kernel
theorem dX8_drawn_31 : decode cX8_drawn 31 = .ok (.ifCond .eq 13, 3) := by decide +kernel
theorem dX8_drawn_34 : decode cX8_drawn 34 = .ok (.iload_n 3, 1) := by decide +kernel
theorem dX8_drawn_35 : decode cX8_drawn 35 = .ok (.i2l, 1) := by decide +kernel
theorem dX8_drawn_36 : decode cX8_drawn 36 = .ok (.lconst 0, 1) := by decide +kernel
theorem dX8_drawn_37 : decode cX8_drawn 37 = .ok (.lconst 1, 1) := by decide +kernel
theorem dX8_drawn_38 : decode cX8_drawn 38 = .ok (.invokestatic 61, 3) := by decide +kernel
theorem dX8_drawn_41 : decode cX8_drawn 41 = .ok (.ifCond .ne 6, 3) := by decide +kernel
theorem dX8_drawn_44 : decode cX8_drawn 44 = .ok (.ldc 71, 2) := by decide +kernel
theorem dX8_drawn_46 : decode cX8_drawn 46 = .ok (.ireturn, 1) := by decide +kernel
theorem dX8_drawn_47 : decode cX8_drawn 47 = .ok (.iload_n 2, 1) := by decide +kernel
theorem dX8_drawn_48 : decode cX8_drawn 48 = .ok (.i2l, 1) := by decide +kernel
theorem dX8_drawn_49 : decode cX8_drawn 49 = .ok (.lstore 4, 2) := by decide +kernel
theorem dX8_drawn_51 : decode cX8_drawn 51 = .ok (.iconst 0, 1) := by decide +kernel
theorem dX8_drawn_52 : decode cX8_drawn 52 = .ok (.istore 6, 2) := by decide +kernel
theorem dX8_drawn_54 : decode cX8_drawn 54 = .ok (.aload_n 0, 1) := by decide +kernel
theorem dX8_drawn_55 : decode cX8_drawn 55 = .ok (.invokevirtual 197, 3) := by decide +kernel
theorem dX8_drawn_58 : decode cX8_drawn 58 = .ok (.iconst 0, 1) := by decide +kernel
theorem dX8_drawn_59 : decode cX8_drawn 59 = .ok (.istore 7, 2) := by decide +kernel
theorem dX8_drawn_61 : decode cX8_drawn 61 = .ok (.iload 7, 2) := by decide +kernel
theorem dX8_drawn_63 : decode cX8_drawn 63 = .ok (.iload_n 1, 1) := by decide +kernel
theorem dX8_drawn_64 : decode cX8_drawn 64 = .ok (.if_icmp .ge 116, 3) := by decide +kernel
theorem dX8_drawn_67 : decode cX8_drawn 67 = .ok (.lload 4, 2) := by decide +kernel
theorem dX8_drawn_69 : decode cX8_drawn 69 = .ok (.ldc2_w 246, 3) := by decide +kernel
theorem dX8_drawn_72 : decode cX8_drawn 72 = .ok (.lmul, 1) := by decide +kernel
theorem dX8_drawn_73 : decode cX8_drawn 73 = .ok (.ldc2_w 248, 3) := by decide +kernel
theorem dX8_drawn_76 : decode cX8_drawn 76 = .ok (.lrem, 1) := by decide +kernel
theorem dX8_drawn_77 : decode cX8_drawn 77 = .ok (.lstore 4, 2) := by decide +kernel
theorem dX8_drawn_79 : decode cX8_drawn 79 = .ok (.lload 4, 2) := by decide +kernel
theorem dX8_drawn_81 : decode cX8_drawn 81 = .ok (.aload_n 0, 1) := by decide +kernel
theorem dX8_drawn_82 : decode cX8_drawn 82 = .ok (.invokevirtual 140, 3) := by decide +kernel
theorem dX8_drawn_85 : decode cX8_drawn 85 = .ok (.i2l, 1) := by decide +kernel
theorem dX8_drawn_86 : decode cX8_drawn 86 = .ok (.lrem, 1) := by decide +kernel
theorem dX8_drawn_87 : decode cX8_drawn 87 = .ok (.l2i, 1) := by decide +kernel
theorem dX8_drawn_88 : decode cX8_drawn 88 = .ok (.istore 8, 2) := by decide +kernel
theorem dX8_drawn_90 : decode cX8_drawn 90 = .ok (.aload_n 0, 1) := by decide +kernel
theorem dX8_drawn_91 : decode cX8_drawn 91 = .ok (.getfield 44, 3) := by decide +kernel
theorem dX8_drawn_94 : decode cX8_drawn 94 = .ok (.bipush 19, 2) := by decide +kernel
theorem dX8_drawn_96 : decode cX8_drawn 96 = .ok (.iload 8, 2) := by decide +kernel
theorem dX8_drawn_98 : decode cX8_drawn 98 = .ok (.iadd, 1) := by decide +kernel
theorem dX8_drawn_99 : decode cX8_drawn 99 = .ok (.iaload, 1) := by decide +kernel
theorem dX8_drawn_100 : decode cX8_drawn 100 = .ok (.invokestatic 177, 3) := by decide +kernel
theorem dX8_drawn_103 : decode cX8_drawn 103 = .ok (.ifCond .ne 21, 3) := by decide +kernel
theorem dX8_drawn_106 : decode cX8_drawn 106 = .ok (.aload_n 0, 1) := by decide +kernel
theorem dX8_drawn_107 : decode cX8_drawn 107 = .ok (.getfield 44, 3) := by decide +kernel
theorem dX8_drawn_110 : decode cX8_drawn 110 = .ok (.iload 8, 2) := by decide +kernel
theorem dX8_drawn_112 : decode cX8_drawn 112 = .ok (.lload 4, 2) := by decide +kernel
theorem dX8_drawn_114 : decode cX8_drawn 114 = .ok (.ldc2_w 143, 3) := by decide +kernel
theorem dX8_drawn_117 : decode cX8_drawn 117 = .ok (.lrem, 1) := by decide +kernel
theorem dX8_drawn_118 : decode cX8_drawn 118 = .ok (.l2i, 1) := by decide +kernel
theorem dX8_drawn_119 : decode cX8_drawn 119 = .ok (.iconst 1, 1) := by decide +kernel
theorem dX8_drawn_120 : decode cX8_drawn 120 = .ok (.iadd, 1) := by decide +kernel
theorem dX8_drawn_121 : decode cX8_drawn 121 = .ok (.invokestatic 162, 3) := by decide +kernel
theorem dX8_drawn_124 : decode cX8_drawn 124 = .ok (.aload_n 0, 1) := by decide +kernel
theorem dX8_drawn_125 : decode cX8_drawn 125 = .ok (.getfield 44, 3) := by decide +kernel
theorem dX8_drawn_128 : decode cX8_drawn 128 = .ok (.lload 4, 2) := by decide +kernel
theorem dX8_drawn_130 : decode cX8_drawn 130 = .ok (.ldc2_w 69, 3) := by decide +kernel
theorem dX8_drawn_133 : decode cX8_drawn 133 = .ok (.ldiv, 1) := by decide +kernel
theorem dX8_drawn_134 : decode cX8_drawn 134 = .ok (.ldc2_w 143, 3) := by decide +kernel
theorem dX8_drawn_137 : decode cX8_drawn 137 = .ok (.lrem, 1) := by decide +kernel
theorem dX8_drawn_138 : decode cX8_drawn 138 = .ok (.l2i, 1) := by decide +kernel
theorem dX8_drawn_139 : decode cX8_drawn 139 = .ok (.iconst 1, 1) := by decide +kernel
theorem dX8_drawn_140 : decode cX8_drawn 140 = .ok (.iadd, 1) := by decide +kernel
theorem dX8_drawn_141 : decode cX8_drawn 141 = .ok (.invokestatic 183, 3) := by decide +kernel
theorem dX8_drawn_144 : decode cX8_drawn 144 = .ok (.istore 9, 2) := by decide +kernel
theorem dX8_drawn_146 : decode cX8_drawn 146 = .ok (.iload 6, 2) := by decide +kernel
theorem dX8_drawn_148 : decode cX8_drawn 148 = .ok (.iload 9, 2) := by decide +kernel
theorem dX8_drawn_150 : decode cX8_drawn 150 = .ok (.ifCond .lt 20, 3) := by decide +kernel
theorem dX8_drawn_153 : decode cX8_drawn 153 = .ok (.aload_n 0, 1) := by decide +kernel
theorem dX8_drawn_154 : decode cX8_drawn 154 = .ok (.getfield 44, 3) := by decide +kernel
theorem dX8_drawn_157 : decode cX8_drawn 157 = .ok (.bipush 19, 2) := by decide +kernel
theorem dX8_drawn_159 : decode cX8_drawn 159 = .ok (.iload 9, 2) := by decide +kernel
theorem dX8_drawn_161 : decode cX8_drawn 161 = .ok (.iadd, 1) := by decide +kernel
theorem dX8_drawn_162 : decode cX8_drawn 162 = .ok (.iaload, 1) := by decide +kernel
theorem dX8_drawn_163 : decode cX8_drawn 163 = .ok (.ifCond .ne 7, 3) := by decide +kernel
theorem dX8_drawn_166 : decode cX8_drawn 166 = .ok (.iconst 1, 1) := by decide +kernel
theorem dX8_drawn_167 : decode cX8_drawn 167 = .ok (.goto 4, 3) := by decide +kernel
theorem dX8_drawn_170 : decode cX8_drawn 170 = .ok (.iconst 0, 1) := by decide +kernel
theorem dX8_drawn_171 : decode cX8_drawn 171 = .ok (.iadd, 1) := by decide +kernel
theorem dX8_drawn_172 : decode cX8_drawn 172 = .ok (.istore 6, 2) := by decide +kernel
theorem dX8_drawn_174 : decode cX8_drawn 174 = .ok (.iinc 7 1, 3) := by decide +kernel
theorem dX8_drawn_177 : decode cX8_drawn 177 = .ok (.goto (-116), 3) := by decide +kernel
theorem dX8_drawn_180 : decode cX8_drawn 180 = .ok (.iconst 0, 1) := by decide +kernel
theorem dX8_drawn_181 : decode cX8_drawn 181 = .ok (.istore 7, 2) := by decide +kernel
theorem dX8_drawn_183 : decode cX8_drawn 183 = .ok (.iconst 0, 1) := by decide +kernel
theorem dX8_drawn_184 : decode cX8_drawn 184 = .ok (.istore 8, 2) := by decide +kernel
theorem dX8_drawn_186 : decode cX8_drawn 186 = .ok (.iload 8, 2) := by decide +kernel
theorem dX8_drawn_188 : decode cX8_drawn 188 = .ok (.aload_n 0, 1) := by decide +kernel
theorem dX8_drawn_189 : decode cX8_drawn 189 = .ok (.invokevirtual 140, 3) := by decide +kernel
theorem dX8_drawn_192 : decode cX8_drawn 192 = .ok (.if_icmp .ge 34, 3) := by decide +kernel
theorem dX8_drawn_195 : decode cX8_drawn 195 = .ok (.iload 7, 2) := by decide +kernel
theorem dX8_drawn_197 : decode cX8_drawn 197 = .ok (.aload_n 0, 1) := by decide +kernel
theorem dX8_drawn_198 : decode cX8_drawn 198 = .ok (.getfield 44, 3) := by decide +kernel
theorem dX8_drawn_201 : decode cX8_drawn 201 = .ok (.bipush 19, 2) := by decide +kernel
theorem dX8_drawn_203 : decode cX8_drawn 203 = .ok (.iload 8, 2) := by decide +kernel
theorem dX8_drawn_205 : decode cX8_drawn 205 = .ok (.iadd, 1) := by decide +kernel
theorem dX8_drawn_206 : decode cX8_drawn 206 = .ok (.iaload, 1) := by decide +kernel
theorem dX8_drawn_207 : decode cX8_drawn 207 = .ok (.bipush 9, 2) := by decide +kernel
theorem dX8_drawn_209 : decode cX8_drawn 209 = .ok (.if_icmp .ne 7, 3) := by decide +kernel
theorem dX8_drawn_212 : decode cX8_drawn 212 = .ok (.iconst 1, 1) := by decide +kernel
theorem dX8_drawn_213 : decode cX8_drawn 213 = .ok (.goto 4, 3) := by decide +kernel
theorem dX8_drawn_216 : decode cX8_drawn 216 = .ok (.iconst 0, 1) := by decide +kernel
theorem dX8_drawn_217 : decode cX8_drawn 217 = .ok (.iadd, 1) := by decide +kernel
theorem dX8_drawn_218 : decode cX8_drawn 218 = .ok (.istore 7, 2) := by decide +kernel
theorem dX8_drawn_220 : decode cX8_drawn 220 = .ok (.iinc 8 1, 3) := by decide +kernel
theorem dX8_drawn_223 : decode cX8_drawn 223 = .ok (.goto (-37), 3) := by decide +kernel
theorem dX8_drawn_226 : decode cX8_drawn 226 = .ok (.iload_n 3, 1) := by decide +kernel
theorem dX8_drawn_227 : decode cX8_drawn 227 = .ok (.ifCond .ne 8, 3) := by decide +kernel
theorem dX8_drawn_230 : decode cX8_drawn 230 = .ok (.iload 6, 2) := by decide +kernel
theorem dX8_drawn_232 : decode cX8_drawn 232 = .ok (.goto 5, 3) := by decide +kernel
theorem dX8_drawn_235 : decode cX8_drawn 235 = .ok (.iload 7, 2) := by decide +kernel
theorem dX8_drawn_237 : decode cX8_drawn 237 = .ok (.ireturn, 1) := by decide +kernel
set_option maxRecDepth 20000 in
theorem ggX8_image_X8_in : GoodIn wsX8_image wsX8_in := goodIn_r _ [9] (by decide +kernel) (by decide +kernel)
set_option maxRecDepth 20000 in
theorem gX8_image_X8_in : GoodIn wsX8_image (va_wsS RX8 61 yX8_in wsX8_in) := goodIn_app (goodIn_of _ (by decide +kernel)) ggX8_image_X8_in
set_option maxRecDepth 20000 in
theorem ggX8_image_X8_toys : GoodIn wsX8_image wsX8_toys := goodIn_r _ [13, 4, 14, 15, 16, 17, 18, 19, 20, 21, 22, 23, 24, 25, 26, 27, 28, 29, 30, 31, 32, 33, 34, 35, 36, 37] (by decide +kernel) (by decide +kernel)
set_option maxRecDepth 20000 in
theorem gX8_image_X8_toys : GoodIn wsX8_image (wsV RX8 140 RX8 yX8_toys wsX8_toys) := goodIn_app (goodIn_of _ (by decide +kernel)) ggX8_image_X8_toys
theorem dX8_image_0 : decode cX8_image 0 = .ok (.iload_n 1, 1) := by decide +kernel
theorem dX8_image_1 : decode cX8_image 1 = .ok (.i2l, 1) := by decide +kernel
theorem dX8_image_2 : decode cX8_image 2 = .ok (.lconst 0, 1) := by decide +kernel
theorem dX8_image_3 : decode cX8_image 3 = .ok (.lconst 1, 1) := by decide +kernel
theorem dX8_image_4 : decode cX8_image 4 = .ok (.invokestatic 61, 3) := by decide +kernel
theorem dX8_image_7 : decode cX8_image 7 = .ok (.ifCond .ne 6, 3) := by decide +kernel
theorem dX8_image_10 : decode cX8_image 10 = .ok (.ldc 71, 2) := by decide +kernel
theorem dX8_image_12 : decode cX8_image 12 = .ok (.ireturn, 1) := by decide +kernel
theorem dX8_image_13 : decode cX8_image 13 = .ok (.aload_n 0, 1) := by decide +kernel
theorem dX8_image_14 : decode cX8_image 14 = .ok (.invokevirtual 140, 3) := by decide +kernel
theorem dX8_image_17 : decode cX8_image 17 = .ok (.ifCond .ne 6, 3) := by decide +kernel
theorem dX8_image_20 : decode cX8_image 20 = .ok (.ldc 176, 2) := by decide +kernel
theorem dX8_image_22 : decode cX8_image 22 = .ok (.ireturn, 1) := by decide +kernel
theorem dX8_image_23 : decode cX8_image 23 = .ok (.iconst 0, 1) := by decide +kernel
theorem dX8_image_24 : decode cX8_image 24 = .ok (.istore_n 2, 1) := by decide +kernel
theorem dX8_image_25 : decode cX8_image 25 = .ok (.iload_n 2, 1) := by decide +kernel
theorem dX8_image_26 : decode cX8_image 26 = .ok (.bipush 33, 2) := by decide +kernel
theorem dX8_image_28 : decode cX8_image 28 = .ok (.if_icmp .ge 26, 3) := by decide +kernel
theorem dX8_image_31 : decode cX8_image 31 = .ok (.aload_n 0, 1) := by decide +kernel
theorem dX8_image_32 : decode cX8_image 32 = .ok (.getfield 13, 3) := by decide +kernel
theorem dX8_image_35 : decode cX8_image 35 = .ok (.bipush 33, 2) := by decide +kernel
theorem dX8_image_37 : decode cX8_image 37 = .ok (.iload_n 1, 1) := by decide +kernel
theorem dX8_image_38 : decode cX8_image 38 = .ok (.imul, 1) := by decide +kernel
theorem dX8_image_39 : decode cX8_image 39 = .ok (.iload_n 2, 1) := by decide +kernel
theorem dX8_image_40 : decode cX8_image 40 = .ok (.iadd, 1) := by decide +kernel
theorem dX8_image_41 : decode cX8_image 41 = .ok (.aload_n 0, 1) := by decide +kernel
theorem dX8_image_42 : decode cX8_image 42 = .ok (.getfield 7, 3) := by decide +kernel
theorem dX8_image_45 : decode cX8_image 45 = .ok (.iload_n 2, 1) := by decide +kernel
theorem dX8_image_46 : decode cX8_image 46 = .ok (.iaload, 1) := by decide +kernel
theorem dX8_image_47 : decode cX8_image 47 = .ok (.iastore, 1) := by decide +kernel
theorem dX8_image_48 : decode cX8_image 48 = .ok (.iinc 2 1, 3) := by decide +kernel
theorem dX8_image_51 : decode cX8_image 51 = .ok (.goto (-26), 3) := by decide +kernel
theorem dX8_image_54 : decode cX8_image 54 = .ok (.aload_n 0, 1) := by decide +kernel
theorem dX8_image_55 : decode cX8_image 55 = .ok (.getfield 16, 3) := by decide +kernel
theorem dX8_image_58 : decode cX8_image 58 = .ok (.iload_n 1, 1) := by decide +kernel
theorem dX8_image_59 : decode cX8_image 59 = .ok (.iconst 1, 1) := by decide +kernel
theorem dX8_image_60 : decode cX8_image 60 = .ok (.bastore, 1) := by decide +kernel
theorem dX8_image_61 : decode cX8_image 61 = .ok (.iconst 1, 1) := by decide +kernel
theorem dX8_image_62 : decode cX8_image 62 = .ok (.ireturn, 1) := by decide +kernel
set_option maxRecDepth 20000 in
theorem ggX8_restore_X8_in : GoodIn wsX8_restore wsX8_in := goodIn_r _ [10] (by decide +kernel) (by decide +kernel)
set_option maxRecDepth 20000 in
theorem gX8_restore_X8_in : GoodIn wsX8_restore (va_wsS RX8 61 yX8_in wsX8_in) := goodIn_app (goodIn_of _ (by decide +kernel)) ggX8_restore_X8_in
theorem dX8_restore_0 : decode cX8_restore 0 = .ok (.iload_n 1, 1) := by decide +kernel
theorem dX8_restore_1 : decode cX8_restore 1 = .ok (.i2l, 1) := by decide +kernel
theorem dX8_restore_2 : decode cX8_restore 2 = .ok (.lconst 0, 1) := by decide +kernel
theorem dX8_restore_3 : decode cX8_restore 3 = .ok (.lconst 1, 1) := by decide +kernel
theorem dX8_restore_4 : decode cX8_restore 4 = .ok (.invokestatic 61, 3) := by decide +kernel
theorem dX8_restore_7 : decode cX8_restore 7 = .ok (.ifCond .ne 6, 3) := by decide +kernel
theorem dX8_restore_10 : decode cX8_restore 10 = .ok (.ldc 71, 2) := by decide +kernel
theorem dX8_restore_12 : decode cX8_restore 12 = .ok (.ireturn, 1) := by decide +kernel
theorem dX8_restore_13 : decode cX8_restore 13 = .ok (.aload_n 0, 1) := by decide +kernel
theorem dX8_restore_14 : decode cX8_restore 14 = .ok (.getfield 16, 3) := by decide +kernel
theorem dX8_restore_17 : decode cX8_restore 17 = .ok (.iload_n 1, 1) := by decide +kernel
theorem dX8_restore_18 : decode cX8_restore 18 = .ok (.baload, 1) := by decide +kernel
theorem dX8_restore_19 : decode cX8_restore 19 = .ok (.ifCond .ne 6, 3) := by decide +kernel
theorem dX8_restore_22 : decode cX8_restore 22 = .ok (.ldc 176, 2) := by decide +kernel
theorem dX8_restore_24 : decode cX8_restore 24 = .ok (.ireturn, 1) := by decide +kernel
theorem dX8_restore_25 : decode cX8_restore 25 = .ok (.iconst 0, 1) := by decide +kernel
theorem dX8_restore_26 : decode cX8_restore 26 = .ok (.istore_n 2, 1) := by decide +kernel
theorem dX8_restore_27 : decode cX8_restore 27 = .ok (.iload_n 2, 1) := by decide +kernel
theorem dX8_restore_28 : decode cX8_restore 28 = .ok (.bipush 33, 2) := by decide +kernel
theorem dX8_restore_30 : decode cX8_restore 30 = .ok (.if_icmp .ge 26, 3) := by decide +kernel
theorem dX8_restore_33 : decode cX8_restore 33 = .ok (.aload_n 0, 1) := by decide +kernel
theorem dX8_restore_34 : decode cX8_restore 34 = .ok (.getfield 7, 3) := by decide +kernel
theorem dX8_restore_37 : decode cX8_restore 37 = .ok (.iload_n 2, 1) := by decide +kernel
theorem dX8_restore_38 : decode cX8_restore 38 = .ok (.aload_n 0, 1) := by decide +kernel
theorem dX8_restore_39 : decode cX8_restore 39 = .ok (.getfield 13, 3) := by decide +kernel
theorem dX8_restore_42 : decode cX8_restore 42 = .ok (.bipush 33, 2) := by decide +kernel
theorem dX8_restore_44 : decode cX8_restore 44 = .ok (.iload_n 1, 1) := by decide +kernel
theorem dX8_restore_45 : decode cX8_restore 45 = .ok (.imul, 1) := by decide +kernel
theorem dX8_restore_46 : decode cX8_restore 46 = .ok (.iload_n 2, 1) := by decide +kernel
theorem dX8_restore_47 : decode cX8_restore 47 = .ok (.iadd, 1) := by decide +kernel
theorem dX8_restore_48 : decode cX8_restore 48 = .ok (.iaload, 1) := by decide +kernel
theorem dX8_restore_49 : decode cX8_restore 49 = .ok (.iastore, 1) := by decide +kernel
theorem dX8_restore_50 : decode cX8_restore 50 = .ok (.iinc 2 1, 3) := by decide +kernel
theorem dX8_restore_53 : decode cX8_restore 53 = .ok (.goto (-26), 3) := by decide +kernel
theorem dX8_restore_56 : decode cX8_restore 56 = .ok (.aload_n 0, 1) := by decide +kernel
theorem dX8_restore_57 : decode cX8_restore 57 = .ok (.iconst 0, 1) := by decide +kernel
theorem dX8_restore_58 : decode cX8_restore 58 = .ok (.putfield 137, 3) := by decide +kernel
theorem dX8_restore_61 : decode cX8_restore 61 = .ok (.iconst 1, 1) := by decide +kernel
theorem dX8_restore_62 : decode cX8_restore 62 = .ok (.ireturn, 1) := by decide +kernel
set_option maxRecDepth 20000 in
theorem ggX8_kind_X8_isToy : GoodIn wsX8_kind wsX8_isToy := goodIn_r _ [7, 8, 9, 10, 6, 11, 1, 12, 13, 14, 15, 16, 17, 18, 19, 20, 21, 22, 23, 24, 25, 26, 27, 28, 29, 30, 31, 32, 33, 34, 35, 36, 37, 38] (by decide +kernel) (by decide +kernel)
set_option maxRecDepth 20000 in
theorem gX8_kind_X8_isToy : GoodIn wsX8_kind (wsV RX8 187 RX8 yX8_isToy wsX8_isToy) := goodIn_app (goodIn_of _ (by decide +kernel)) ggX8_kind_X8_isToy
theorem dX8_kind_0 : decode cX8_kind 0 = .ok (.aload_n 0, 1) := by decide +kernel
theorem dX8_kind_1 : decode cX8_kind 1 = .ok (.iload_n 1, 1) := by decide +kernel
theorem dX8_kind_2 : decode cX8_kind 2 = .ok (.invokevirtual 187, 3) := by decide +kernel
theorem dX8_kind_5 : decode cX8_kind 5 = .ok (.ifCond .eq 14, 3) := by decide +kernel
theorem dX8_kind_8 : decode cX8_kind 8 = .ok (.aload_n 0, 1) := by decide +kernel
theorem dX8_kind_9 : decode cX8_kind 9 = .ok (.getfield 7, 3) := by decide +kernel
theorem dX8_kind_12 : decode cX8_kind 12 = .ok (.iconst 1, 1) := by decide +kernel
theorem dX8_kind_13 : decode cX8_kind 13 = .ok (.iload_n 1, 1) := by decide +kernel
theorem dX8_kind_14 : decode cX8_kind 14 = .ok (.iadd, 1) := by decide +kernel
theorem dX8_kind_15 : decode cX8_kind 15 = .ok (.iaload, 1) := by decide +kernel
theorem dX8_kind_16 : decode cX8_kind 16 = .ok (.goto 5, 3) := by decide +kernel
theorem dX8_kind_19 : decode cX8_kind 19 = .ok (.ldc 71, 2) := by decide +kernel
theorem dX8_kind_21 : decode cX8_kind 21 = .ok (.ireturn, 1) := by decide +kernel
theorem dX8_isOf_0 : decode cX8_isOf 0 = .ok (.iload_n 1, 1) := by decide +kernel
theorem dX8_isOf_1 : decode cX8_isOf 1 = .ok (.ifCond .eq 28, 3) := by decide +kernel
theorem dX8_isOf_4 : decode cX8_isOf 4 = .ok (.iload_n 0, 1) := by decide +kernel
theorem dX8_isOf_5 : decode cX8_isOf 5 = .ok (.iload_n 1, 1) := by decide +kernel
theorem dX8_isOf_6 : decode cX8_isOf 6 = .ok (.if_icmp .eq 23, 3) := by decide +kernel
theorem dX8_isOf_9 : decode cX8_isOf 9 = .ok (.iload_n 1, 1) := by decide +kernel
theorem dX8_isOf_10 : decode cX8_isOf 10 = .ok (.iconst 1, 1) := by decide +kernel
theorem dX8_isOf_11 : decode cX8_isOf 11 = .ok (.if_icmp .ne 8, 3) := by decide +kernel
theorem dX8_isOf_14 : decode cX8_isOf 14 = .ok (.iload_n 0, 1) := by decide +kernel
theorem dX8_isOf_15 : decode cX8_isOf 15 = .ok (.iconst 4, 1) := by decide +kernel
theorem dX8_isOf_16 : decode cX8_isOf 16 = .ok (.if_icmp .lt 13, 3) := by decide +kernel
theorem dX8_isOf_19 : decode cX8_isOf 19 = .ok (.iload_n 1, 1) := by decide +kernel
theorem dX8_isOf_20 : decode cX8_isOf 20 = .ok (.iconst 4, 1) := by decide +kernel
theorem dX8_isOf_21 : decode cX8_isOf 21 = .ok (.if_icmp .ne 12, 3) := by decide +kernel
theorem dX8_isOf_24 : decode cX8_isOf 24 = .ok (.iload_n 0, 1) := by decide +kernel
theorem dX8_isOf_25 : decode cX8_isOf 25 = .ok (.iconst 5, 1) := by decide +kernel
theorem dX8_isOf_26 : decode cX8_isOf 26 = .ok (.if_icmp .ne 7, 3) := by decide +kernel
theorem dX8_isOf_29 : decode cX8_isOf 29 = .ok (.iconst 1, 1) := by decide +kernel
theorem dX8_isOf_30 : decode cX8_isOf 30 = .ok (.goto 4, 3) := by decide +kernel
theorem dX8_isOf_33 : decode cX8_isOf 33 = .ok (.iconst 0, 1) := by decide +kernel
theorem dX8_isOf_34 : decode cX8_isOf 34 = .ok (.ireturn, 1) := by decide +kernel
set_option maxRecDepth 20000 in
theorem ggX8_as_X8_isToy : GoodIn wsX8_as wsX8_isToy := goodIn_r _ [8, 9, 10, 11, 7, 12, 3, 13, 14, 15, 29, 30, 31, 32, 33, 34, 35, 36, 37, 38, 39, 40, 41, 42, 43, 44, 45, 46, 47, 48, 49, 50, 51, 52] (by decide +kernel) (by decide +kernel)
set_option maxRecDepth 20000 in
theorem gX8_as_X8_isToy : GoodIn wsX8_as (wsV RX8 187 RX8 yX8_isToy wsX8_isToy) := goodIn_app (goodIn_of _ (by decide +kernel)) ggX8_as_X8_isToy
set_option maxRecDepth 20000 in
theorem ggX8_as_X8_in : GoodIn wsX8_as wsX8_in := goodIn_r _ [15] (by decide +kernel) (by decide +kernel)
set_option maxRecDepth 20000 in
theorem gX8_as_X8_in : GoodIn wsX8_as (va_wsS RX8 61 yX8_in wsX8_in) := goodIn_app (goodIn_of _ (by decide +kernel)) ggX8_as_X8_in
set_option maxRecDepth 20000 in
theorem ggX8_as_X8_isOf : GoodIn wsX8_as wsX8_isOf := goodIn_r _ [18] (by decide +kernel) (by decide +kernel)
set_option maxRecDepth 20000 in
theorem gX8_as_X8_isOf : GoodIn wsX8_as (va_wsS RX8 250 yX8_isOf wsX8_isOf) := goodIn_app (goodIn_of _ (by decide +kernel)) ggX8_as_X8_isOf
set_option maxRecDepth 20000 in
theorem ggX8_as_X8_well : GoodIn wsX8_as wsX8_well := goodIn_r _ [22, 23, 29, 30, 31, 32, 33, 34, 35, 36, 37, 38, 39, 40, 41, 42, 43, 44, 45, 46, 47, 48, 49, 50, 51, 52] (by decide +kernel) (by decide +kernel)
set_option maxRecDepth 20000 in
theorem gX8_as_X8_well : GoodIn wsX8_as (wsV RX8 76 RX8 yX8_well wsX8_well) := goodIn_app (goodIn_of _ (by decide +kernel)) ggX8_as_X8_well
set_option maxRecDepth 20000 in
theorem ggX8_as_X8_found : GoodIn wsX8_as wsX8_found := goodIn_r _ [27, 23, 28, 29, 30, 31, 32, 33, 34, 35, 36, 37, 38, 39, 40, 41, 42, 43, 44, 45, 46, 47, 48, 49, 50, 51, 52] (by decide +kernel) (by decide +kernel)
set_option maxRecDepth 20000 in
theorem gX8_as_X8_found : GoodIn wsX8_as (wsV RX8 72 RX8 yX8_found wsX8_found) := goodIn_app (goodIn_of _ (by decide +kernel)) ggX8_as_X8_found
theorem dX8_as_0 : decode cX8_as 0 = .ok (.aload_n 0, 1) := by decide +kernel
theorem dX8_as_1 : decode cX8_as 1 = .ok (.iload_n 1, 1) := by decide +kernel
theorem dX8_as_2 : decode cX8_as 2 = .ok (.invokevirtual 187, 3) := by decide +kernel
theorem dX8_as_5 : decode cX8_as 5 = .ok (.ifCond .eq 15, 3) := by decide +kernel
theorem dX8_as_8 : decode cX8_as 8 = .ok (.iload_n 2, 1) := by decide +kernel
theorem dX8_as_9 : decode cX8_as 9 = .ok (.i2l, 1) := by decide +kernel
theorem dX8_as_10 : decode cX8_as 10 = .ok (.lconst 0, 1) := by decide +kernel
theorem dX8_as_11 : decode cX8_as 11 = .ok (.ldc2_w 143, 3) := by decide +kernel
theorem dX8_as_14 : decode cX8_as 14 = .ok (.invokestatic 61, 3) := by decide +kernel
theorem dX8_as_17 : decode cX8_as 17 = .ok (.ifCond .ne 6, 3) := by decide +kernel
theorem dX8_as_20 : decode cX8_as 20 = .ok (.ldc 71, 2) := by decide +kernel
theorem dX8_as_22 : decode cX8_as 22 = .ok (.ireturn, 1) := by decide +kernel
theorem dX8_as_23 : decode cX8_as 23 = .ok (.aload_n 0, 1) := by decide +kernel
theorem dX8_as_24 : decode cX8_as 24 = .ok (.getfield 7, 3) := by decide +kernel
theorem dX8_as_27 : decode cX8_as 27 = .ok (.iconst 1, 1) := by decide +kernel
theorem dX8_as_28 : decode cX8_as 28 = .ok (.iload_n 1, 1) := by decide +kernel
theorem dX8_as_29 : decode cX8_as 29 = .ok (.iadd, 1) := by decide +kernel
theorem dX8_as_30 : decode cX8_as 30 = .ok (.iaload, 1) := by decide +kernel
theorem dX8_as_31 : decode cX8_as 31 = .ok (.iload_n 2, 1) := by decide +kernel
theorem dX8_as_32 : decode cX8_as 32 = .ok (.invokestatic 250, 3) := by decide +kernel
theorem dX8_as_35 : decode cX8_as 35 = .ok (.ifCond .eq 11, 3) := by decide +kernel
theorem dX8_as_38 : decode cX8_as 38 = .ok (.aload_n 0, 1) := by decide +kernel
theorem dX8_as_39 : decode cX8_as 39 = .ok (.iload_n 1, 1) := by decide +kernel
theorem dX8_as_40 : decode cX8_as 40 = .ok (.invokevirtual 76, 3) := by decide +kernel
theorem dX8_as_43 : decode cX8_as 43 = .ok (.goto 8, 3) := by decide +kernel
theorem dX8_as_46 : decode cX8_as 46 = .ok (.aload_n 0, 1) := by decide +kernel
theorem dX8_as_47 : decode cX8_as 47 = .ok (.iconst 3, 1) := by decide +kernel
theorem dX8_as_48 : decode cX8_as 48 = .ok (.invokevirtual 72, 3) := by decide +kernel
theorem dX8_as_51 : decode cX8_as 51 = .ok (.ireturn, 1) := by decide +kernel
theorem dX8_leave_0 : decode cX8_leave 0 = .ok (.aload_n 0, 1) := by decide +kernel
theorem dX8_leave_1 : decode cX8_leave 1 = .ok (.getfield 253, 3) := by decide +kernel
theorem dX8_leave_4 : decode cX8_leave 4 = .ok (.bipush 16, 2) := by decide +kernel
theorem dX8_leave_6 : decode cX8_leave 6 = .ok (.if_icmp .ge 23, 3) := by decide +kernel
theorem dX8_leave_9 : decode cX8_leave 9 = .ok (.aload_n 0, 1) := by decide +kernel
theorem dX8_leave_10 : decode cX8_leave 10 = .ok (.getfield 51, 3) := by decide +kernel
theorem dX8_leave_13 : decode cX8_leave 13 = .ok (.aload_n 0, 1) := by decide +kernel
theorem dX8_leave_14 : decode cX8_leave 14 = .ok (.getfield 253, 3) := by decide +kernel
theorem dX8_leave_17 : decode cX8_leave 17 = .ok (.iload_n 1, 1) := by decide +kernel
theorem dX8_leave_18 : decode cX8_leave 18 = .ok (.iastore, 1) := by decide +kernel
theorem dX8_leave_19 : decode cX8_leave 19 = .ok (.aload_n 0, 1) := by decide +kernel
theorem dX8_leave_20 : decode cX8_leave 20 = .ok (.dup, 1) := by decide +kernel
theorem dX8_leave_21 : decode cX8_leave 21 = .ok (.getfield 253, 3) := by decide +kernel
theorem dX8_leave_24 : decode cX8_leave 24 = .ok (.iconst 1, 1) := by decide +kernel
theorem dX8_leave_25 : decode cX8_leave 25 = .ok (.iadd, 1) := by decide +kernel
theorem dX8_leave_26 : decode cX8_leave 26 = .ok (.putfield 253, 3) := by decide +kernel
theorem dX8_leave_29 : decode cX8_leave 29 = .ok (.return_, 1) := by decide +kernel
set_option maxRecDepth 20000 in
theorem ggX8_size10_X8_leave : GoodIn wsX8_size10 wsX8_leave := goodIn_r _ [6, 7, 8, 9, 10, 11, 12, 13, 14, 15, 16, 17, 18, 19, 20, 21, 22, 23, 24, 25, 26, 27, 28, 29, 30, 31, 32] (by decide +kernel) (by decide +kernel)
set_option maxRecDepth 20000 in
theorem gX8_size10_X8_leave : GoodIn wsX8_size10 (wsV RX8 256 RX8 yX8_leave wsX8_leave) := goodIn_app (goodIn_of _ (by decide +kernel)) ggX8_size10_X8_leave
theorem dX8_size10_0 : decode cX8_size10 0 = .ok (.aload_n 0, 1) := by decide +kernel
theorem dX8_size10_1 : decode cX8_size10 1 = .ok (.bipush 10, 2) := by decide +kernel
theorem dX8_size10_3 : decode cX8_size10 3 = .ok (.invokevirtual 256, 3) := by decide +kernel
theorem dX8_size10_6 : decode cX8_size10 6 = .ok (.aload_n 0, 1) := by decide +kernel
theorem dX8_size10_7 : decode cX8_size10 7 = .ok (.getfield 7, 3) := by decide +kernel
theorem dX8_size10_10 : decode cX8_size10 10 = .ok (.bipush 8, 2) := by decide +kernel
theorem dX8_size10_12 : decode cX8_size10 12 = .ok (.iload_n 1, 1) := by decide +kernel
theorem dX8_size10_13 : decode cX8_size10 13 = .ok (.iadd, 1) := by decide +kernel
theorem dX8_size10_14 : decode cX8_size10 14 = .ok (.iaload, 1) := by decide +kernel
theorem dX8_size10_15 : decode cX8_size10 15 = .ok (.ireturn, 1) := by decide +kernel
set_option maxRecDepth 20000 in
theorem ggX8_mark20_X8_leave : GoodIn wsX8_mark20 wsX8_leave := goodIn_r _ [5, 6, 7, 8, 9, 10, 11, 12, 13, 14, 15, 16, 17, 18, 19, 20, 21, 22, 23, 24, 25, 26, 27, 28, 29, 30, 31] (by decide +kernel) (by decide +kernel)
set_option maxRecDepth 20000 in
theorem gX8_mark20_X8_leave : GoodIn wsX8_mark20 (wsV RX8 256 RX8 yX8_leave wsX8_leave) := goodIn_app (goodIn_of _ (by decide +kernel)) ggX8_mark20_X8_leave
theorem dX8_mark20_0 : decode cX8_mark20 0 = .ok (.aload_n 0, 1) := by decide +kernel
theorem dX8_mark20_1 : decode cX8_mark20 1 = .ok (.bipush 20, 2) := by decide +kernel
theorem dX8_mark20_3 : decode cX8_mark20 3 = .ok (.invokevirtual 256, 3) := by decide +kernel
theorem dX8_mark20_6 : decode cX8_mark20 6 = .ok (.iload_n 1, 1) := by decide +kernel
theorem dX8_mark20_7 : decode cX8_mark20 7 = .ok (.ireturn, 1) := by decide +kernel
set_option maxRecDepth 20000 in
theorem ggX8_mark21_X8_leave : GoodIn wsX8_mark21 wsX8_leave := goodIn_r _ [6, 7, 8, 13, 14, 15, 16, 17, 18, 19, 20, 21, 22, 23, 24, 25, 26, 27, 28, 29, 30, 31, 32, 33, 34, 35, 36] (by decide +kernel) (by decide +kernel)
set_option maxRecDepth 20000 in
theorem gX8_mark21_X8_leave : GoodIn wsX8_mark21 (wsV RX8 256 RX8 yX8_leave wsX8_leave) := goodIn_app (goodIn_of _ (by decide +kernel)) ggX8_mark21_X8_leave
set_option maxRecDepth 20000 in
theorem ggX8_mark21_X8_mark20 : GoodIn wsX8_mark21 wsX8_mark20 := goodIn_r _ [12, 2, 3, 4, 5, 6, 7, 8, 13, 14, 15, 16, 17, 18, 19, 20, 21, 22, 23, 24, 25, 26, 27, 28, 29, 30, 31, 32, 33, 34, 35, 36] (by decide +kernel) (by decide +kernel)
set_option maxRecDepth 20000 in
theorem gX8_mark21_X8_mark20 : GoodIn wsX8_mark21 (wsV RX8 259 RX8 yX8_mark20 wsX8_mark20) := goodIn_app (goodIn_of _ (by decide +kernel)) ggX8_mark21_X8_mark20
theorem dX8_mark21_0 : decode cX8_mark21 0 = .ok (.aload_n 0, 1) := by decide +kernel
theorem dX8_mark21_1 : decode cX8_mark21 1 = .ok (.bipush 21, 2) := by decide +kernel
theorem dX8_mark21_3 : decode cX8_mark21 3 = .ok (.invokevirtual 256, 3) := by decide +kernel
theorem dX8_mark21_6 : decode cX8_mark21 6 = .ok (.aload_n 0, 1) := by decide +kernel
theorem dX8_mark21_7 : decode cX8_mark21 7 = .ok (.iload_n 1, 1) := by decide +kernel
theorem dX8_mark21_8 : decode cX8_mark21 8 = .ok (.invokevirtual 259, 3) := by decide +kernel
theorem dX8_mark21_11 : decode cX8_mark21 11 = .ok (.aload_n 0, 1) := by decide +kernel
theorem dX8_mark21_12 : decode cX8_mark21 12 = .ok (.getfield 7, 3) := by decide +kernel
theorem dX8_mark21_15 : decode cX8_mark21 15 = .ok (.bipush 19, 2) := by decide +kernel
theorem dX8_mark21_17 : decode cX8_mark21 17 = .ok (.iload_n 1, 1) := by decide +kernel
theorem dX8_mark21_18 : decode cX8_mark21 18 = .ok (.iadd, 1) := by decide +kernel
theorem dX8_mark21_19 : decode cX8_mark21 19 = .ok (.iaload, 1) := by decide +kernel
theorem dX8_mark21_20 : decode cX8_mark21 20 = .ok (.iadd, 1) := by decide +kernel
theorem dX8_mark21_21 : decode cX8_mark21 21 = .ok (.ireturn, 1) := by decide +kernel
set_option maxRecDepth 20000 in
theorem ggX8_size13_X8_leave : GoodIn wsX8_size13 wsX8_leave := goodIn_r _ [5, 6, 7, 13, 14, 15, 16, 17, 18, 19, 20, 21, 22, 23, 24, 25, 26, 27, 28, 29, 30, 31, 32, 33, 34, 35, 36] (by decide +kernel) (by decide +kernel)
set_option maxRecDepth 20000 in
theorem gX8_size13_X8_leave : GoodIn wsX8_size13 (wsV RX8 256 RX8 yX8_leave wsX8_leave) := goodIn_app (goodIn_of _ (by decide +kernel)) ggX8_size13_X8_leave
set_option maxRecDepth 20000 in
theorem ggX8_size13_X8_size10 : GoodIn wsX8_size13 wsX8_size10 := goodIn_r _ [11, 12, 1, 2, 3, 4, 5, 6, 7, 13, 14, 15, 16, 17, 18, 19, 20, 21, 22, 23, 24, 25, 26, 27, 28, 29, 30, 31, 32, 33, 34, 35, 36] (by decide +kernel) (by decide +kernel)
set_option maxRecDepth 20000 in
theorem gX8_size13_X8_size10 : GoodIn wsX8_size13 (wsV RX8 262 RX8 yX8_size10 wsX8_size10) := goodIn_app (goodIn_of _ (by decide +kernel)) ggX8_size13_X8_size10
theorem dX8_size13_0 : decode cX8_size13 0 = .ok (.aload_n 0, 1) := by decide +kernel
theorem dX8_size13_1 : decode cX8_size13 1 = .ok (.bipush 13, 2) := by decide +kernel
theorem dX8_size13_3 : decode cX8_size13 3 = .ok (.invokevirtual 256, 3) := by decide +kernel
theorem dX8_size13_6 : decode cX8_size13 6 = .ok (.aload_n 0, 1) := by decide +kernel
theorem dX8_size13_7 : decode cX8_size13 7 = .ok (.iload_n 1, 1) := by decide +kernel
theorem dX8_size13_8 : decode cX8_size13 8 = .ok (.invokevirtual 262, 3) := by decide +kernel
theorem dX8_size13_11 : decode cX8_size13 11 = .ok (.bipush 100, 2) := by decide +kernel
theorem dX8_size13_13 : decode cX8_size13 13 = .ok (.isub, 1) := by decide +kernel
theorem dX8_size13_14 : decode cX8_size13 14 = .ok (.ireturn, 1) := by decide +kernel
set_option maxRecDepth 20000 in
theorem ggX8_sizeOfRound_X8_size13 : GoodIn wsX8_sizeOfRound wsX8_size13 := goodIn_r _ [6, 7, 8, 9, 5, 10, 11, 12, 13, 14, 15, 16, 1, 17, 18, 19, 20, 21, 22, 23, 24, 25, 26, 27, 28, 29, 30, 31, 32, 33, 34, 35, 36, 37, 38, 39, 40] (by decide +kernel) (by decide +kernel)
set_option maxRecDepth 20000 in
theorem gX8_sizeOfRound_X8_size13 : GoodIn wsX8_sizeOfRound (wsV RX8 265 RX8 yX8_size13 wsX8_size13) := goodIn_app (goodIn_of _ (by decide +kernel)) ggX8_sizeOfRound_X8_size13
set_option maxRecDepth 20000 in
theorem ggX8_sizeOfRound_X8_leave : GoodIn wsX8_sizeOfRound wsX8_leave := goodIn_r _ [10, 11, 12, 17, 18, 19, 20, 21, 22, 23, 24, 25, 26, 27, 28, 29, 30, 31, 32, 33, 34, 35, 36, 37, 38, 39, 40] (by decide +kernel) (by decide +kernel)
set_option maxRecDepth 20000 in
theorem gX8_sizeOfRound_X8_leave : GoodIn wsX8_sizeOfRound (wsV RX8 256 RX8 yX8_leave wsX8_leave) := goodIn_app (goodIn_of _ (by decide +kernel)) ggX8_sizeOfRound_X8_leave
theorem dX8_sizeOfRound_0 : decode cX8_sizeOfRound 0 = .ok (.aload_n 0, 1) := by decide +kernel
theorem dX8_sizeOfRound_1 : decode cX8_sizeOfRound 1 = .ok (.getfield 7, 3) := by decide +kernel
theorem dX8_sizeOfRound_4 : decode cX8_sizeOfRound 4 = .ok (.iconst 1, 1) := by decide +kernel
theorem dX8_sizeOfRound_5 : decode cX8_sizeOfRound 5 = .ok (.iload_n 1, 1) := by decide +kernel
theorem dX8_sizeOfRound_6 : decode cX8_sizeOfRound 6 = .ok (.iadd, 1) := by decide +kernel
theorem dX8_sizeOfRound_7 : decode cX8_sizeOfRound 7 = .ok (.iaload, 1) := by decide +kernel
theorem dX8_sizeOfRound_8 : decode cX8_sizeOfRound 8 = .ok (.iconst 4, 1) := by decide +kernel
theorem dX8_sizeOfRound_9 : decode cX8_sizeOfRound 9 = .ok (.if_icmp .ne 9, 3) := by decide +kernel
theorem dX8_sizeOfRound_12 : decode cX8_sizeOfRound 12 = .ok (.aload_n 0, 1) := by decide +kernel
theorem dX8_sizeOfRound_13 : decode cX8_sizeOfRound 13 = .ok (.iload_n 1, 1) := by decide +kernel
theorem dX8_sizeOfRound_14 : decode cX8_sizeOfRound 14 = .ok (.invokevirtual 265, 3) := by decide +kernel
theorem dX8_sizeOfRound_17 : decode cX8_sizeOfRound 17 = .ok (.ireturn, 1) := by decide +kernel
theorem dX8_sizeOfRound_18 : decode cX8_sizeOfRound 18 = .ok (.aload_n 0, 1) := by decide +kernel
theorem dX8_sizeOfRound_19 : decode cX8_sizeOfRound 19 = .ok (.bipush 14, 2) := by decide +kernel
theorem dX8_sizeOfRound_21 : decode cX8_sizeOfRound 21 = .ok (.invokevirtual 256, 3) := by decide +kernel
theorem dX8_sizeOfRound_24 : decode cX8_sizeOfRound 24 = .ok (.iconst 2, 1) := by decide +kernel
theorem dX8_sizeOfRound_25 : decode cX8_sizeOfRound 25 = .ok (.aload_n 0, 1) := by decide +kernel
theorem dX8_sizeOfRound_26 : decode cX8_sizeOfRound 26 = .ok (.iload_n 1, 1) := by decide +kernel
theorem dX8_sizeOfRound_27 : decode cX8_sizeOfRound 27 = .ok (.invokevirtual 265, 3) := by decide +kernel
theorem dX8_sizeOfRound_30 : decode cX8_sizeOfRound 30 = .ok (.imul, 1) := by decide +kernel
theorem dX8_sizeOfRound_31 : decode cX8_sizeOfRound 31 = .ok (.ireturn, 1) := by decide +kernel
set_option maxRecDepth 20000 in
theorem ggX8_markOf_X8_leave : GoodIn wsX8_markOf wsX8_leave := goodIn_r _ [6, 7, 8, 29, 30, 31, 32, 33, 34, 35, 36, 37, 38, 39, 40, 41, 42, 43, 44, 45, 46, 47, 48, 49, 50, 51, 52] (by decide +kernel) (by decide +kernel)
set_option maxRecDepth 20000 in
theorem gX8_markOf_X8_leave : GoodIn wsX8_markOf (wsV RX8 256 RX8 yX8_leave wsX8_leave) := goodIn_app (goodIn_of _ (by decide +kernel)) ggX8_markOf_X8_leave
set_option maxRecDepth 20000 in
theorem ggX8_markOf_X8_mark21 : GoodIn wsX8_markOf wsX8_mark21 := goodIn_r _ [12, 1, 2, 3, 4, 5, 6, 7, 8, 13, 14, 15, 16, 29, 30, 31, 32, 33, 34, 35, 36, 37, 38, 39, 40, 41, 42, 43, 44, 45, 46, 47, 48, 49, 50, 51, 52] (by decide +kernel) (by decide +kernel)
set_option maxRecDepth 20000 in
theorem gX8_markOf_X8_mark21 : GoodIn wsX8_markOf (wsV RX8 268 RX8 yX8_mark21 wsX8_mark21) := goodIn_app (goodIn_of _ (by decide +kernel)) ggX8_markOf_X8_mark21
set_option maxRecDepth 20000 in
theorem ggX8_markOf_X8_mark20 : GoodIn wsX8_markOf wsX8_mark20 := goodIn_r _ [16, 2, 3, 4, 5, 6, 7, 8, 29, 30, 31, 32, 33, 34, 35, 36, 37, 38, 39, 40, 41, 42, 43, 44, 45, 46, 47, 48, 49, 50, 51, 52] (by decide +kernel) (by decide +kernel)
set_option maxRecDepth 20000 in
theorem gX8_markOf_X8_mark20 : GoodIn wsX8_markOf (wsV RX8 259 RX8 yX8_mark20 wsX8_mark20) := goodIn_app (goodIn_of _ (by decide +kernel)) ggX8_markOf_X8_mark20
set_option maxRecDepth 20000 in
theorem ggX8_markOf_X8_sizeOfRound : GoodIn wsX8_markOf wsX8_sizeOfRound := goodIn_r _ [20, 1, 21, 22, 23, 5, 24, 2, 3, 4, 6, 7, 8, 25, 26, 27, 28, 29, 30, 31, 32, 33, 34, 35, 36, 37, 38, 39, 40, 41, 42, 43, 44, 45, 46, 47, 48, 49, 50, 51, 52] (by decide +kernel) (by decide +kernel)
set_option maxRecDepth 20000 in
theorem gX8_markOf_X8_sizeOfRound : GoodIn wsX8_markOf (wsV RX8 271 RX8 yX8_sizeOfRound wsX8_sizeOfRound) := goodIn_app (goodIn_of _ (by decide +kernel)) ggX8_markOf_X8_sizeOfRound
theorem dX8_markOf_0 : decode cX8_markOf 0 = .ok (.aload_n 0, 1) := by decide +kernel
theorem dX8_markOf_1 : decode cX8_markOf 1 = .ok (.getfield 7, 3) := by decide +kernel
theorem dX8_markOf_4 : decode cX8_markOf 4 = .ok (.iconst 1, 1) := by decide +kernel
theorem dX8_markOf_5 : decode cX8_markOf 5 = .ok (.iload_n 1, 1) := by decide +kernel
theorem dX8_markOf_6 : decode cX8_markOf 6 = .ok (.iadd, 1) := by decide +kernel
theorem dX8_markOf_7 : decode cX8_markOf 7 = .ok (.iaload, 1) := by decide +kernel
theorem dX8_markOf_8 : decode cX8_markOf 8 = .ok (.tableswitch 64 1 3 #[58, 28, 42], 28) := by decide +kernel
theorem dX8_markOf_36 : decode cX8_markOf 36 = .ok (.aload_n 0, 1) := by decide +kernel
theorem dX8_markOf_37 : decode cX8_markOf 37 = .ok (.bipush 24, 2) := by decide +kernel
theorem dX8_markOf_39 : decode cX8_markOf 39 = .ok (.invokevirtual 256, 3) := by decide +kernel
theorem dX8_markOf_42 : decode cX8_markOf 42 = .ok (.iconst 2, 1) := by decide +kernel
theorem dX8_markOf_43 : decode cX8_markOf 43 = .ok (.aload_n 0, 1) := by decide +kernel
theorem dX8_markOf_44 : decode cX8_markOf 44 = .ok (.iload_n 1, 1) := by decide +kernel
theorem dX8_markOf_45 : decode cX8_markOf 45 = .ok (.invokevirtual 268, 3) := by decide +kernel
theorem dX8_markOf_48 : decode cX8_markOf 48 = .ok (.imul, 1) := by decide +kernel
theorem dX8_markOf_49 : decode cX8_markOf 49 = .ok (.ireturn, 1) := by decide +kernel
theorem dX8_markOf_50 : decode cX8_markOf 50 = .ok (.aload_n 0, 1) := by decide +kernel
theorem dX8_markOf_51 : decode cX8_markOf 51 = .ok (.bipush 22, 2) := by decide +kernel
theorem dX8_markOf_53 : decode cX8_markOf 53 = .ok (.invokevirtual 256, 3) := by decide +kernel
theorem dX8_markOf_56 : decode cX8_markOf 56 = .ok (.aload_n 0, 1) := by decide +kernel
theorem dX8_markOf_57 : decode cX8_markOf 57 = .ok (.iload_n 1, 1) := by decide +kernel
theorem dX8_markOf_58 : decode cX8_markOf 58 = .ok (.invokevirtual 268, 3) := by decide +kernel
theorem dX8_markOf_61 : decode cX8_markOf 61 = .ok (.sipush 1000, 3) := by decide +kernel
theorem dX8_markOf_64 : decode cX8_markOf 64 = .ok (.isub, 1) := by decide +kernel
theorem dX8_markOf_65 : decode cX8_markOf 65 = .ok (.ireturn, 1) := by decide +kernel
theorem dX8_markOf_66 : decode cX8_markOf 66 = .ok (.aload_n 0, 1) := by decide +kernel
theorem dX8_markOf_67 : decode cX8_markOf 67 = .ok (.iload_n 1, 1) := by decide +kernel
theorem dX8_markOf_68 : decode cX8_markOf 68 = .ok (.invokevirtual 268, 3) := by decide +kernel
theorem dX8_markOf_71 : decode cX8_markOf 71 = .ok (.ireturn, 1) := by decide +kernel
theorem dX8_markOf_72 : decode cX8_markOf 72 = .ok (.aload_n 0, 1) := by decide +kernel
theorem dX8_markOf_73 : decode cX8_markOf 73 = .ok (.bipush 23, 2) := by decide +kernel
theorem dX8_markOf_75 : decode cX8_markOf 75 = .ok (.invokevirtual 256, 3) := by decide +kernel
theorem dX8_markOf_78 : decode cX8_markOf 78 = .ok (.aload_n 0, 1) := by decide +kernel
theorem dX8_markOf_79 : decode cX8_markOf 79 = .ok (.iload_n 1, 1) := by decide +kernel
theorem dX8_markOf_80 : decode cX8_markOf 80 = .ok (.invokevirtual 259, 3) := by decide +kernel
theorem dX8_markOf_83 : decode cX8_markOf 83 = .ok (.aload_n 0, 1) := by decide +kernel
theorem dX8_markOf_84 : decode cX8_markOf 84 = .ok (.iload_n 1, 1) := by decide +kernel
theorem dX8_markOf_85 : decode cX8_markOf 85 = .ok (.invokevirtual 271, 3) := by decide +kernel
theorem dX8_markOf_88 : decode cX8_markOf 88 = .ok (.isub, 1) := by decide +kernel
theorem dX8_markOf_89 : decode cX8_markOf 89 = .ok (.ireturn, 1) := by decide +kernel
set_option maxRecDepth 20000 in
theorem ggX8_size11_X8_leave : GoodIn wsX8_size11 wsX8_leave := goodIn_r _ [5, 6, 7, 33, 34, 35, 36, 37, 38, 39, 40, 41, 42, 43, 44, 45, 46, 47, 48, 49, 50, 51, 52, 53, 54, 55, 56] (by decide +kernel) (by decide +kernel)
set_option maxRecDepth 20000 in
theorem gX8_size11_X8_leave : GoodIn wsX8_size11 (wsV RX8 256 RX8 yX8_leave wsX8_leave) := goodIn_app (goodIn_of _ (by decide +kernel)) ggX8_size11_X8_leave
set_option maxRecDepth 20000 in
theorem ggX8_size11_X8_size10 : GoodIn wsX8_size11 wsX8_size10 := goodIn_r _ [11, 12, 1, 2, 3, 4, 5, 6, 7, 33, 34, 35, 36, 37, 38, 39, 40, 41, 42, 43, 44, 45, 46, 47, 48, 49, 50, 51, 52, 53, 54, 55, 56] (by decide +kernel) (by decide +kernel)
set_option maxRecDepth 20000 in
theorem gX8_size11_X8_size10 : GoodIn wsX8_size11 (wsV RX8 262 RX8 yX8_size10 wsX8_size10) := goodIn_app (goodIn_of _ (by decide +kernel)) ggX8_size11_X8_size10
set_option maxRecDepth 20000 in
theorem ggX8_size11_X8_markOf : GoodIn wsX8_size11 wsX8_markOf := goodIn_r _ [16, 12, 1, 2, 3, 4, 5, 6, 7, 17, 18, 19, 20, 21, 22, 23, 24, 25, 26, 27, 28, 29, 30, 31, 32, 8, 9, 10, 11, 33, 34, 35, 36, 37, 38, 39, 40, 41, 42, 43, 44, 45, 46, 47, 48, 49, 50, 51, 52, 53, 54, 55, 56] (by decide +kernel) (by decide +kernel)
set_option maxRecDepth 20000 in
theorem gX8_size11_X8_markOf : GoodIn wsX8_size11 (wsV RX8 274 RX8 yX8_markOf wsX8_markOf) := goodIn_app (goodIn_of _ (by decide +kernel)) ggX8_size11_X8_markOf
theorem dX8_size11_0 : decode cX8_size11 0 = .ok (.aload_n 0, 1) := by decide +kernel
theorem dX8_size11_1 : decode cX8_size11 1 = .ok (.bipush 11, 2) := by decide +kernel
theorem dX8_size11_3 : decode cX8_size11 3 = .ok (.invokevirtual 256, 3) := by decide +kernel
theorem dX8_size11_6 : decode cX8_size11 6 = .ok (.aload_n 0, 1) := by decide +kernel
theorem dX8_size11_7 : decode cX8_size11 7 = .ok (.iload_n 1, 1) := by decide +kernel
theorem dX8_size11_8 : decode cX8_size11 8 = .ok (.invokevirtual 262, 3) := by decide +kernel
theorem dX8_size11_11 : decode cX8_size11 11 = .ok (.istore_n 2, 1) := by decide +kernel
theorem dX8_size11_12 : decode cX8_size11 12 = .ok (.iload_n 2, 1) := by decide +kernel
theorem dX8_size11_13 : decode cX8_size11 13 = .ok (.aload_n 0, 1) := by decide +kernel
theorem dX8_size11_14 : decode cX8_size11 14 = .ok (.iload_n 1, 1) := by decide +kernel
theorem dX8_size11_15 : decode cX8_size11 15 = .ok (.invokevirtual 274, 3) := by decide +kernel
theorem dX8_size11_18 : decode cX8_size11 18 = .ok (.iadd, 1) := by decide +kernel
theorem dX8_size11_19 : decode cX8_size11 19 = .ok (.ireturn, 1) := by decide +kernel
set_option maxRecDepth 20000 in
theorem ggX8_sizeOf_X8_sizeOfRound : GoodIn wsX8_sizeOf wsX8_sizeOfRound := goodIn_r _ [6, 1, 7, 8, 9, 5, 10, 11, 12, 13, 14, 15, 16, 17, 18, 19, 20, 37, 38, 39, 40, 41, 42, 43, 44, 45, 46, 47, 48, 49, 50, 51, 52, 53, 54, 55, 56, 57, 58, 59, 60] (by decide +kernel) (by decide +kernel)
set_option maxRecDepth 20000 in
theorem gX8_sizeOf_X8_sizeOfRound : GoodIn wsX8_sizeOf (wsV RX8 271 RX8 yX8_sizeOfRound wsX8_sizeOfRound) := goodIn_app (goodIn_of _ (by decide +kernel)) ggX8_sizeOf_X8_sizeOfRound
set_option maxRecDepth 20000 in
theorem ggX8_sizeOf_X8_size11 : GoodIn wsX8_sizeOf wsX8_size11 := goodIn_r _ [24, 11, 12, 13, 5, 14, 15, 16, 17, 18, 19, 20, 1, 25, 26, 27, 28, 29, 30, 31, 32, 33, 34, 35, 36, 2, 3, 4, 6, 7, 8, 9, 10, 37, 38, 39, 40, 41, 42, 43, 44, 45, 46, 47, 48, 49, 50, 51, 52, 53, 54, 55, 56, 57, 58, 59, 60] (by decide +kernel) (by decide +kernel)
set_option maxRecDepth 20000 in
theorem gX8_sizeOf_X8_size11 : GoodIn wsX8_sizeOf (wsV RX8 277 RX8 yX8_size11 wsX8_size11) := goodIn_app (goodIn_of _ (by decide +kernel)) ggX8_sizeOf_X8_size11
set_option maxRecDepth 20000 in
theorem ggX8_sizeOf_X8_leave : GoodIn wsX8_sizeOf wsX8_leave := goodIn_r _ [14, 15, 16, 37, 38, 39, 40, 41, 42, 43, 44, 45, 46, 47, 48, 49, 50, 51, 52, 53, 54, 55, 56, 57, 58, 59, 60] (by decide +kernel) (by decide +kernel)
set_option maxRecDepth 20000 in
theorem gX8_sizeOf_X8_leave : GoodIn wsX8_sizeOf (wsV RX8 256 RX8 yX8_leave wsX8_leave) := goodIn_app (goodIn_of _ (by decide +kernel)) ggX8_sizeOf_X8_leave
theorem dX8_sizeOf_0 : decode cX8_sizeOf 0 = .ok (.aload_n 0, 1) := by decide +kernel
theorem dX8_sizeOf_1 : decode cX8_sizeOf 1 = .ok (.getfield 7, 3) := by decide +kernel
theorem dX8_sizeOf_4 : decode cX8_sizeOf 4 = .ok (.iconst 1, 1) := by decide +kernel
theorem dX8_sizeOf_5 : decode cX8_sizeOf 5 = .ok (.iload_n 1, 1) := by decide +kernel
theorem dX8_sizeOf_6 : decode cX8_sizeOf 6 = .ok (.iadd, 1) := by decide +kernel
theorem dX8_sizeOf_7 : decode cX8_sizeOf 7 = .ok (.iaload, 1) := by decide +kernel
theorem dX8_sizeOf_8 : decode cX8_sizeOf 8 = .ok (.iconst 4, 1) := by decide +kernel
theorem dX8_sizeOf_9 : decode cX8_sizeOf 9 = .ok (.if_icmp .lt 9, 3) := by decide +kernel
theorem dX8_sizeOf_12 : decode cX8_sizeOf 12 = .ok (.aload_n 0, 1) := by decide +kernel
theorem dX8_sizeOf_13 : decode cX8_sizeOf 13 = .ok (.iload_n 1, 1) := by decide +kernel
theorem dX8_sizeOf_14 : decode cX8_sizeOf 14 = .ok (.invokevirtual 271, 3) := by decide +kernel
theorem dX8_sizeOf_17 : decode cX8_sizeOf 17 = .ok (.ireturn, 1) := by decide +kernel
theorem dX8_sizeOf_18 : decode cX8_sizeOf 18 = .ok (.aload_n 0, 1) := by decide +kernel
theorem dX8_sizeOf_19 : decode cX8_sizeOf 19 = .ok (.getfield 7, 3) := by decide +kernel
theorem dX8_sizeOf_22 : decode cX8_sizeOf 22 = .ok (.iconst 1, 1) := by decide +kernel
theorem dX8_sizeOf_23 : decode cX8_sizeOf 23 = .ok (.iload_n 1, 1) := by decide +kernel
theorem dX8_sizeOf_24 : decode cX8_sizeOf 24 = .ok (.iadd, 1) := by decide +kernel
theorem dX8_sizeOf_25 : decode cX8_sizeOf 25 = .ok (.iaload, 1) := by decide +kernel
theorem dX8_sizeOf_26 : decode cX8_sizeOf 26 = .ok (.iconst 2, 1) := by decide +kernel
theorem dX8_sizeOf_27 : decode cX8_sizeOf 27 = .ok (.if_icmp .eq 9, 3) := by decide +kernel
theorem dX8_sizeOf_30 : decode cX8_sizeOf 30 = .ok (.aload_n 0, 1) := by decide +kernel
theorem dX8_sizeOf_31 : decode cX8_sizeOf 31 = .ok (.iload_n 1, 1) := by decide +kernel
theorem dX8_sizeOf_32 : decode cX8_sizeOf 32 = .ok (.invokevirtual 277, 3) := by decide +kernel
theorem dX8_sizeOf_35 : decode cX8_sizeOf 35 = .ok (.ireturn, 1) := by decide +kernel
theorem dX8_sizeOf_36 : decode cX8_sizeOf 36 = .ok (.aload_n 0, 1) := by decide +kernel
theorem dX8_sizeOf_37 : decode cX8_sizeOf 37 = .ok (.bipush 12, 2) := by decide +kernel
theorem dX8_sizeOf_39 : decode cX8_sizeOf 39 = .ok (.invokevirtual 256, 3) := by decide +kernel
theorem dX8_sizeOf_42 : decode cX8_sizeOf 42 = .ok (.aload_n 0, 1) := by decide +kernel
theorem dX8_sizeOf_43 : decode cX8_sizeOf 43 = .ok (.iload_n 1, 1) := by decide +kernel
theorem dX8_sizeOf_44 : decode cX8_sizeOf 44 = .ok (.invokevirtual 277, 3) := by decide +kernel
theorem dX8_sizeOf_47 : decode cX8_sizeOf 47 = .ok (.ineg, 1) := by decide +kernel
theorem dX8_sizeOf_48 : decode cX8_sizeOf 48 = .ok (.ireturn, 1) := by decide +kernel
set_option maxRecDepth 20000 in
theorem ggX8_ask_X8_isToy : GoodIn wsX8_ask wsX8_isToy := goodIn_r _ [7, 8, 9, 10, 6, 11, 12, 13, 14, 15, 53, 54, 55, 56, 57, 58, 59, 60, 61, 62, 63, 64, 65, 66, 67, 68, 69, 70, 71, 72, 73, 74, 75, 76] (by decide +kernel) (by decide +kernel)
set_option maxRecDepth 20000 in
theorem gX8_ask_X8_isToy : GoodIn wsX8_ask (wsV RX8 187 RX8 yX8_isToy wsX8_isToy) := goodIn_app (goodIn_of _ (by decide +kernel)) ggX8_ask_X8_isToy
set_option maxRecDepth 20000 in
theorem ggX8_ask_X8_in : GoodIn wsX8_ask wsX8_in := goodIn_r _ [15] (by decide +kernel) (by decide +kernel)
set_option maxRecDepth 20000 in
theorem gX8_ask_X8_in : GoodIn wsX8_ask (va_wsS RX8 61 yX8_in wsX8_in) := goodIn_app (goodIn_of _ (by decide +kernel)) ggX8_ask_X8_in
set_option maxRecDepth 20000 in
theorem ggX8_ask_X8_sizeOf : GoodIn wsX8_ask wsX8_sizeOf := goodIn_r _ [19, 12, 20, 21, 22, 6, 23, 24, 25, 26, 27, 28, 29, 30, 31, 2, 32, 33, 34, 35, 36, 37, 38, 39, 40, 41, 42, 43, 44, 45, 46, 47, 48, 49, 50, 51, 52, 53, 54, 55, 56, 57, 58, 59, 60, 61, 62, 63, 64, 65, 66, 67, 68, 69, 70, 71, 72, 73, 74, 75, 76] (by decide +kernel) (by decide +kernel)
set_option maxRecDepth 20000 in
theorem gX8_ask_X8_sizeOf : GoodIn wsX8_ask (wsV RX8 280 RX8 yX8_sizeOf wsX8_sizeOf) := goodIn_app (goodIn_of _ (by decide +kernel)) ggX8_ask_X8_sizeOf
set_option maxRecDepth 20000 in
theorem ggX8_ask_X8_markOf : GoodIn wsX8_ask wsX8_markOf := goodIn_r _ [44, 12, 28, 29, 30, 6, 31, 2, 32, 45, 46, 47, 48, 49, 50, 51, 52, 20, 21, 22, 23, 24, 25, 26, 27, 33, 34, 35, 36, 53, 54, 55, 56, 57, 58, 59, 60, 61, 62, 63, 64, 65, 66, 67, 68, 69, 70, 71, 72, 73, 74, 75, 76] (by decide +kernel) (by decide +kernel)
set_option maxRecDepth 20000 in
theorem gX8_ask_X8_markOf : GoodIn wsX8_ask (wsV RX8 274 RX8 yX8_markOf wsX8_markOf) := goodIn_app (goodIn_of _ (by decide +kernel)) ggX8_ask_X8_markOf
theorem dX8_ask_0 : decode cX8_ask 0 = .ok (.aload_n 0, 1) := by decide +kernel
theorem dX8_ask_1 : decode cX8_ask 1 = .ok (.iload_n 1, 1) := by decide +kernel
theorem dX8_ask_2 : decode cX8_ask 2 = .ok (.invokevirtual 187, 3) := by decide +kernel
theorem dX8_ask_5 : decode cX8_ask 5 = .ok (.ifCond .eq 13, 3) := by decide +kernel
theorem dX8_ask_8 : decode cX8_ask 8 = .ok (.iload_n 2, 1) := by decide +kernel
theorem dX8_ask_9 : decode cX8_ask 9 = .ok (.i2l, 1) := by decide +kernel
theorem dX8_ask_10 : decode cX8_ask 10 = .ok (.lconst 0, 1) := by decide +kernel
theorem dX8_ask_11 : decode cX8_ask 11 = .ok (.lconst 1, 1) := by decide +kernel
theorem dX8_ask_12 : decode cX8_ask 12 = .ok (.invokestatic 61, 3) := by decide +kernel
theorem dX8_ask_15 : decode cX8_ask 15 = .ok (.ifCond .ne 6, 3) := by decide +kernel
theorem dX8_ask_18 : decode cX8_ask 18 = .ok (.ldc 71, 2) := by decide +kernel
theorem dX8_ask_20 : decode cX8_ask 20 = .ok (.ireturn, 1) := by decide +kernel
theorem dX8_ask_21 : decode cX8_ask 21 = .ok (.aload_n 0, 1) := by decide +kernel
theorem dX8_ask_22 : decode cX8_ask 22 = .ok (.iconst 0, 1) := by decide +kernel
theorem dX8_ask_23 : decode cX8_ask 23 = .ok (.putfield 253, 3) := by decide +kernel
theorem dX8_ask_26 : decode cX8_ask 26 = .ok (.iload_n 2, 1) := by decide +kernel
theorem dX8_ask_27 : decode cX8_ask 27 = .ok (.ifCond .ne 11, 3) := by decide +kernel
theorem dX8_ask_30 : decode cX8_ask 30 = .ok (.aload_n 0, 1) := by decide +kernel
theorem dX8_ask_31 : decode cX8_ask 31 = .ok (.iload_n 1, 1) := by decide +kernel
theorem dX8_ask_32 : decode cX8_ask 32 = .ok (.invokevirtual 280, 3) := by decide +kernel
theorem dX8_ask_35 : decode cX8_ask 35 = .ok (.goto 8, 3) := by decide +kernel
theorem dX8_ask_38 : decode cX8_ask 38 = .ok (.aload_n 0, 1) := by decide +kernel
theorem dX8_ask_39 : decode cX8_ask 39 = .ok (.iload_n 1, 1) := by decide +kernel
theorem dX8_ask_40 : decode cX8_ask 40 = .ok (.invokevirtual 274, 3) := by decide +kernel
theorem dX8_ask_43 : decode cX8_ask 43 = .ok (.ireturn, 1) := by decide +kernel
set_option maxRecDepth 20000 in
theorem ggX8_trace_X8_in : GoodIn wsX8_trace wsX8_in := goodIn_r _ [7] (by decide +kernel) (by decide +kernel)
set_option maxRecDepth 20000 in
theorem gX8_trace_X8_in : GoodIn wsX8_trace (va_wsS RX8 61 yX8_in wsX8_in) := goodIn_app (goodIn_of _ (by decide +kernel)) ggX8_trace_X8_in
theorem dX8_trace_0 : decode cX8_trace 0 = .ok (.iload_n 1, 1) := by decide +kernel
theorem dX8_trace_1 : decode cX8_trace 1 = .ok (.i2l, 1) := by decide +kernel
theorem dX8_trace_2 : decode cX8_trace 2 = .ok (.lconst 0, 1) := by decide +kernel
theorem dX8_trace_3 : decode cX8_trace 3 = .ok (.aload_n 0, 1) := by decide +kernel
theorem dX8_trace_4 : decode cX8_trace 4 = .ok (.getfield 253, 3) := by decide +kernel
theorem dX8_trace_7 : decode cX8_trace 7 = .ok (.iconst 1, 1) := by decide +kernel
theorem dX8_trace_8 : decode cX8_trace 8 = .ok (.isub, 1) := by decide +kernel
theorem dX8_trace_9 : decode cX8_trace 9 = .ok (.i2l, 1) := by decide +kernel
theorem dX8_trace_10 : decode cX8_trace 10 = .ok (.invokestatic 61, 3) := by decide +kernel
theorem dX8_trace_13 : decode cX8_trace 13 = .ok (.ifCond .eq 12, 3) := by decide +kernel
theorem dX8_trace_16 : decode cX8_trace 16 = .ok (.aload_n 0, 1) := by decide +kernel
theorem dX8_trace_17 : decode cX8_trace 17 = .ok (.getfield 51, 3) := by decide +kernel
theorem dX8_trace_20 : decode cX8_trace 20 = .ok (.iload_n 1, 1) := by decide +kernel
theorem dX8_trace_21 : decode cX8_trace 21 = .ok (.iaload, 1) := by decide +kernel
theorem dX8_trace_22 : decode cX8_trace 22 = .ok (.goto 5, 3) := by decide +kernel
theorem dX8_trace_25 : decode cX8_trace 25 = .ok (.ldc 186, 2) := by decide +kernel
theorem dX8_trace_27 : decode cX8_trace 27 = .ok (.ireturn, 1) := by decide +kernel
theorem dX8_manyRows_0 : decode cX8_manyRows 0 = .ok (.iconst 0, 1) := by decide +kernel
theorem dX8_manyRows_1 : decode cX8_manyRows 1 = .ok (.istore_n 1, 1) := by decide +kernel
theorem dX8_manyRows_2 : decode cX8_manyRows 2 = .ok (.iconst 0, 1) := by decide +kernel
theorem dX8_manyRows_3 : decode cX8_manyRows 3 = .ok (.istore_n 2, 1) := by decide +kernel
theorem dX8_manyRows_4 : decode cX8_manyRows 4 = .ok (.iload_n 2, 1) := by decide +kernel
theorem dX8_manyRows_5 : decode cX8_manyRows 5 = .ok (.bipush 8, 2) := by decide +kernel
theorem dX8_manyRows_7 : decode cX8_manyRows 7 = .ok (.if_icmp .ge 26, 3) := by decide +kernel
theorem dX8_manyRows_10 : decode cX8_manyRows 10 = .ok (.iload_n 1, 1) := by decide +kernel
theorem dX8_manyRows_11 : decode cX8_manyRows 11 = .ok (.aload_n 0, 1) := by decide +kernel
theorem dX8_manyRows_12 : decode cX8_manyRows 12 = .ok (.getfield 29, 3) := by decide +kernel
theorem dX8_manyRows_15 : decode cX8_manyRows 15 = .ok (.iload_n 2, 1) := by decide +kernel
theorem dX8_manyRows_16 : decode cX8_manyRows 16 = .ok (.baload, 1) := by decide +kernel
theorem dX8_manyRows_17 : decode cX8_manyRows 17 = .ok (.ifCond .eq 7, 3) := by decide +kernel
theorem dX8_manyRows_20 : decode cX8_manyRows 20 = .ok (.iconst 1, 1) := by decide +kernel
theorem dX8_manyRows_21 : decode cX8_manyRows 21 = .ok (.goto 4, 3) := by decide +kernel
theorem dX8_manyRows_24 : decode cX8_manyRows 24 = .ok (.iconst 0, 1) := by decide +kernel
theorem dX8_manyRows_25 : decode cX8_manyRows 25 = .ok (.iadd, 1) := by decide +kernel
theorem dX8_manyRows_26 : decode cX8_manyRows 26 = .ok (.istore_n 1, 1) := by decide +kernel
theorem dX8_manyRows_27 : decode cX8_manyRows 27 = .ok (.iinc 2 1, 3) := by decide +kernel
theorem dX8_manyRows_30 : decode cX8_manyRows 30 = .ok (.goto (-26), 3) := by decide +kernel
theorem dX8_manyRows_33 : decode cX8_manyRows 33 = .ok (.iload_n 1, 1) := by decide +kernel
theorem dX8_manyRows_34 : decode cX8_manyRows 34 = .ok (.ireturn, 1) := by decide +kernel
set_option maxRecDepth 20000 in
theorem ggX8_count_X8_manyRows : GoodIn wsX8_count wsX8_manyRows := goodIn_r _ [9, 10, 19, 20, 21, 22, 23, 24, 25, 26, 27, 28, 29, 30, 31, 32, 33, 34, 35, 36, 37, 38, 39, 40, 41, 42] (by decide +kernel) (by decide +kernel)
set_option maxRecDepth 20000 in
theorem gX8_count_X8_manyRows : GoodIn wsX8_count (wsV RX8 283 RX8 yX8_manyRows wsX8_manyRows) := goodIn_app (goodIn_of _ (by decide +kernel)) ggX8_count_X8_manyRows
set_option maxRecDepth 20000 in
theorem ggX8_count_X8_toys : GoodIn wsX8_count wsX8_toys := goodIn_r _ [14, 1, 19, 20, 21, 22, 23, 24, 25, 26, 27, 28, 29, 30, 31, 32, 33, 34, 35, 36, 37, 38, 39, 40, 41, 42] (by decide +kernel) (by decide +kernel)
set_option maxRecDepth 20000 in
theorem gX8_count_X8_toys : GoodIn wsX8_count (wsV RX8 140 RX8 yX8_toys wsX8_toys) := goodIn_app (goodIn_of _ (by decide +kernel)) ggX8_count_X8_toys
set_option maxRecDepth 20000 in
theorem ggX8_count_X8_setIn : GoodIn wsX8_count wsX8_setIn := goodIn_r _ [18, 1, 11, 12, 13, 8, 14, 19, 20, 21, 22, 23, 24, 25, 26, 27, 28, 29, 30, 31, 32, 33, 34, 35, 36, 37, 38, 39, 40, 41, 42] (by decide +kernel) (by decide +kernel)
set_option maxRecDepth 20000 in
theorem gX8_count_X8_setIn : GoodIn wsX8_count (wsV RX8 194 RX8 yX8_setIn wsX8_setIn) := goodIn_app (goodIn_of _ (by decide +kernel)) ggX8_count_X8_setIn
theorem dX8_count_0 : decode cX8_count 0 = .ok (.iload_n 1, 1) := by decide +kernel
theorem dX8_count_1 : decode cX8_count 1 = .ok (.tableswitch 120 0 9 #[55, 60, 65, 73, 81, 89, 97, 103, 110, 115], 55) := by decide +kernel
theorem dX8_count_56 : decode cX8_count 56 = .ok (.aload_n 0, 1) := by decide +kernel
theorem dX8_count_57 : decode cX8_count 57 = .ok (.invokevirtual 283, 3) := by decide +kernel
theorem dX8_count_60 : decode cX8_count 60 = .ok (.ireturn, 1) := by decide +kernel
theorem dX8_count_61 : decode cX8_count 61 = .ok (.aload_n 0, 1) := by decide +kernel
theorem dX8_count_62 : decode cX8_count 62 = .ok (.invokevirtual 140, 3) := by decide +kernel
theorem dX8_count_65 : decode cX8_count 65 = .ok (.ireturn, 1) := by decide +kernel
theorem dX8_count_66 : decode cX8_count 66 = .ok (.aload_n 0, 1) := by decide +kernel
theorem dX8_count_67 : decode cX8_count 67 = .ok (.getfield 7, 3) := by decide +kernel
theorem dX8_count_70 : decode cX8_count 70 = .ok (.bipush 15, 2) := by decide +kernel
theorem dX8_count_72 : decode cX8_count 72 = .ok (.iaload, 1) := by decide +kernel
theorem dX8_count_73 : decode cX8_count 73 = .ok (.ireturn, 1) := by decide +kernel
theorem dX8_count_74 : decode cX8_count 74 = .ok (.aload_n 0, 1) := by decide +kernel
theorem dX8_count_75 : decode cX8_count 75 = .ok (.getfield 7, 3) := by decide +kernel
theorem dX8_count_78 : decode cX8_count 78 = .ok (.bipush 16, 2) := by decide +kernel
theorem dX8_count_80 : decode cX8_count 80 = .ok (.iaload, 1) := by decide +kernel
theorem dX8_count_81 : decode cX8_count 81 = .ok (.ireturn, 1) := by decide +kernel
theorem dX8_count_82 : decode cX8_count 82 = .ok (.aload_n 0, 1) := by decide +kernel
theorem dX8_count_83 : decode cX8_count 83 = .ok (.getfield 7, 3) := by decide +kernel
theorem dX8_count_86 : decode cX8_count 86 = .ok (.bipush 17, 2) := by decide +kernel
theorem dX8_count_88 : decode cX8_count 88 = .ok (.iaload, 1) := by decide +kernel
theorem dX8_count_89 : decode cX8_count 89 = .ok (.ireturn, 1) := by decide +kernel
theorem dX8_count_90 : decode cX8_count 90 = .ok (.aload_n 0, 1) := by decide +kernel
theorem dX8_count_91 : decode cX8_count 91 = .ok (.getfield 7, 3) := by decide +kernel
theorem dX8_count_94 : decode cX8_count 94 = .ok (.bipush 18, 2) := by decide +kernel
theorem dX8_count_96 : decode cX8_count 96 = .ok (.iaload, 1) := by decide +kernel
theorem dX8_count_97 : decode cX8_count 97 = .ok (.ireturn, 1) := by decide +kernel
theorem dX8_count_98 : decode cX8_count 98 = .ok (.aload_n 0, 1) := by decide +kernel
theorem dX8_count_99 : decode cX8_count 99 = .ok (.iconst 0, 1) := by decide +kernel
theorem dX8_count_100 : decode cX8_count 100 = .ok (.invokevirtual 194, 3) := by decide +kernel
theorem dX8_count_103 : decode cX8_count 103 = .ok (.ireturn, 1) := by decide +kernel
theorem dX8_count_104 : decode cX8_count 104 = .ok (.aload_n 0, 1) := by decide +kernel
theorem dX8_count_105 : decode cX8_count 105 = .ok (.bipush 9, 2) := by decide +kernel
theorem dX8_count_107 : decode cX8_count 107 = .ok (.invokevirtual 194, 3) := by decide +kernel
theorem dX8_count_110 : decode cX8_count 110 = .ok (.ireturn, 1) := by decide +kernel
theorem dX8_count_111 : decode cX8_count 111 = .ok (.aload_n 0, 1) := by decide +kernel
theorem dX8_count_112 : decode cX8_count 112 = .ok (.getfield 137, 3) := by decide +kernel
theorem dX8_count_115 : decode cX8_count 115 = .ok (.ireturn, 1) := by decide +kernel
theorem dX8_count_116 : decode cX8_count 116 = .ok (.aload_n 0, 1) := by decide +kernel
theorem dX8_count_117 : decode cX8_count 117 = .ok (.getfield 81, 3) := by decide +kernel
theorem dX8_count_120 : decode cX8_count 120 = .ok (.ireturn, 1) := by decide +kernel
theorem dX8_count_121 : decode cX8_count 121 = .ok (.ldc 71, 2) := by decide +kernel
theorem dX8_count_123 : decode cX8_count 123 = .ok (.ireturn, 1) := by decide +kernel
theorem dX8_status_0 : decode cX8_status 0 = .ok (.aload_n 0, 1) := by decide +kernel
theorem dX8_status_1 : decode cX8_status 1 = .ok (.getfield 54, 3) := by decide +kernel
theorem dX8_status_4 : decode cX8_status 4 = .ok (.ireturn, 1) := by decide +kernel
theorem dJ9_max_7cf53_0 : decode cJ9_max_7cf53 0 = .ok (.iload_n 0, 1) := by decide +kernel
theorem dJ9_max_7cf53_1 : decode cJ9_max_7cf53 1 = .ok (.iload_n 1, 1) := by decide +kernel
theorem dJ9_max_7cf53_2 : decode cJ9_max_7cf53 2 = .ok (.if_icmp .lt 7, 3) := by decide +kernel
theorem dJ9_max_7cf53_5 : decode cJ9_max_7cf53 5 = .ok (.iload_n 0, 1) := by decide +kernel
theorem dJ9_max_7cf53_6 : decode cJ9_max_7cf53 6 = .ok (.goto 4, 3) := by decide +kernel
theorem dJ9_max_7cf53_9 : decode cJ9_max_7cf53 9 = .ok (.iload_n 1, 1) := by decide +kernel
theorem dJ9_max_7cf53_10 : decode cJ9_max_7cf53 10 = .ok (.ireturn, 1) := by decide +kernel
theorem dJ9_min_7cf53_0 : decode cJ9_min_7cf53 0 = .ok (.iload_n 0, 1) := by decide +kernel
theorem dJ9_min_7cf53_1 : decode cJ9_min_7cf53 1 = .ok (.iload_n 1, 1) := by decide +kernel
theorem dJ9_min_7cf53_2 : decode cJ9_min_7cf53 2 = .ok (.if_icmp .gt 7, 3) := by decide +kernel
theorem dJ9_min_7cf53_5 : decode cJ9_min_7cf53 5 = .ok (.iload_n 0, 1) := by decide +kernel
theorem dJ9_min_7cf53_6 : decode cJ9_min_7cf53 6 = .ok (.goto 4, 3) := by decide +kernel
theorem dJ9_min_7cf53_9 : decode cJ9_min_7cf53 9 = .ok (.iload_n 1, 1) := by decide +kernel
theorem dJ9_min_7cf53_10 : decode cJ9_min_7cf53 10 = .ok (.ireturn, 1) := by decide +kernel
theorem dJ7_fill_53178_0 : decode cJ7_fill_53178 0 = .ok (.iconst 0, 1) := by decide +kernel
theorem dJ7_fill_53178_1 : decode cJ7_fill_53178 1 = .ok (.istore_n 2, 1) := by decide +kernel
theorem dJ7_fill_53178_2 : decode cJ7_fill_53178 2 = .ok (.aload_n 0, 1) := by decide +kernel
theorem dJ7_fill_53178_3 : decode cJ7_fill_53178 3 = .ok (.arraylength, 1) := by decide +kernel
theorem dJ7_fill_53178_4 : decode cJ7_fill_53178 4 = .ok (.istore_n 3, 1) := by decide +kernel
theorem dJ7_fill_53178_5 : decode cJ7_fill_53178 5 = .ok (.iload_n 2, 1) := by decide +kernel
theorem dJ7_fill_53178_6 : decode cJ7_fill_53178 6 = .ok (.iload_n 3, 1) := by decide +kernel
theorem dJ7_fill_53178_7 : decode cJ7_fill_53178 7 = .ok (.if_icmp .ge 13, 3) := by decide +kernel
theorem dJ7_fill_53178_10 : decode cJ7_fill_53178 10 = .ok (.aload_n 0, 1) := by decide +kernel
theorem dJ7_fill_53178_11 : decode cJ7_fill_53178 11 = .ok (.iload_n 2, 1) := by decide +kernel
theorem dJ7_fill_53178_12 : decode cJ7_fill_53178 12 = .ok (.iload_n 1, 1) := by decide +kernel
theorem dJ7_fill_53178_13 : decode cJ7_fill_53178 13 = .ok (.iastore, 1) := by decide +kernel
theorem dJ7_fill_53178_14 : decode cJ7_fill_53178 14 = .ok (.iinc 2 1, 3) := by decide +kernel
theorem dJ7_fill_53178_17 : decode cJ7_fill_53178 17 = .ok (.goto (-12), 3) := by decide +kernel
theorem dJ7_fill_53178_20 : decode cJ7_fill_53178 20 = .ok (.return_, 1) := by decide +kernel
set_option maxRecDepth 20000 in
theorem ggL_law_X7_init : GoodIn wsL_law wsX7_init := goodIn_r _ [8, 9, 10, 11, 12, 13, 14, 15, 16, 17, 18, 19, 20, 21, 22, 23, 24, 25, 26, 27, 28, 29, 30, 31, 32, 33, 34, 35, 36, 37, 38, 39, 40, 41, 42, 43, 44, 45, 46, 47, 48, 49, 50, 51, 52, 53, 54, 55, 56, 57, 58, 59, 60, 61, 62, 63, 64, 65, 66, 67, 68, 69, 70, 71, 72, 73, 74, 75, 76, 77, 78, 79, 80, 81, 82, 83, 84, 85, 86, 87, 88, 89, 90, 91, 92, 93, 94, 95, 96, 97, 98, 99, 100, 101, 102, 103, 104, 105, 106, 107, 881, 882, 883, 884, 885, 886, 887, 888, 889, 914, 915, 916, 917, 918, 919, 920, 921, 922, 923, 924, 925, 926, 927, 928, 929, 930, 931, 932, 933, 934, 935, 936, 937, 938, 939, 940, 941, 942, 943, 944, 945, 946, 947, 948, 949, 950, 951] (by decide +kernel) (by decide +kernel)
set_option maxRecDepth 20000 in
theorem gL_law_X7_init : GoodIn wsL_law (wsX7_init) := ggL_law_X7_init
set_option maxRecDepth 20000 in
theorem ggL_law_X8_init : GoodIn wsL_law wsX8_init := goodIn_r _ [110, 111, 10, 11, 42, 112, 113, 114, 115, 116, 117, 118, 119, 120, 121, 122, 123, 124, 125, 126, 890, 891, 892, 893, 894, 895, 896, 897, 898, 899, 900, 901, 902, 903, 904, 905, 906, 907, 908, 909, 910, 911, 912, 913] (by decide +kernel) (by decide +kernel)
set_option maxRecDepth 20000 in
theorem gL_law_X8_init : GoodIn wsL_law (wsX8_init) := ggL_law_X8_init
set_option maxRecDepth 20000 in
theorem ggL_law_X7_row : GoodIn wsL_law wsX7_row := goodIn_r _ [130, 131, 13, 132, 133, 2, 134, 135, 136, 137, 138, 139, 140, 141, 36, 142, 143, 144, 145, 38, 146, 104, 105, 106, 107, 147, 148, 149, 150, 151, 152, 153, 154, 881, 882, 883, 884, 885, 886, 887, 888, 889, 942, 943, 944, 945] (by decide +kernel) (by decide +kernel)
set_option maxRecDepth 20000 in
theorem gL_law_X7_row : GoodIn wsL_law (wsV RL 13 RX7 yX7_row wsX7_row) := goodIn_app (goodIn_of _ (by decide +kernel)) ggL_law_X7_row
set_option maxRecDepth 20000 in
theorem ggL_law_X8_row : GoodIn wsL_law wsX8_row := goodIn_r _ [158, 159, 160, 119, 117, 118, 120, 161, 162, 5, 163, 164, 165, 166, 167, 168, 169, 170, 171, 172, 173, 174, 175, 176, 177, 890, 891, 892, 893, 894, 895, 896, 897, 898, 899, 900, 901, 902, 903, 904, 905, 906, 907, 908, 909, 910, 911, 912, 913] (by decide +kernel) (by decide +kernel)
set_option maxRecDepth 20000 in
theorem gL_law_X8_row : GoodIn wsL_law (wsV RL 17 RX8 yX8_row wsX8_row) := goodIn_app (goodIn_of _ (by decide +kernel)) ggL_law_X8_row
set_option maxRecDepth 20000 in
theorem ggL_law_X7_set : GoodIn wsL_law wsX7_set := goodIn_r _ [181, 131, 13, 182, 183, 132, 133, 2, 134, 135, 136, 137, 138, 139, 140, 141, 36, 142, 184, 185, 186, 38, 187, 107, 188, 189, 190, 191, 106, 151, 152, 153, 154, 881, 882, 883, 884, 885, 886, 887, 888, 889, 942, 943, 944, 945] (by decide +kernel) (by decide +kernel)
set_option maxRecDepth 20000 in
theorem gL_law_X7_set : GoodIn wsL_law (wsV RL 18 RX7 yX7_set wsX7_set) := goodIn_app (goodIn_of _ (by decide +kernel)) ggL_law_X7_set
set_option maxRecDepth 20000 in
theorem ggL_law_X8_set : GoodIn wsL_law wsX8_set := goodIn_r _ [195, 160, 119, 118, 117, 120, 161, 162, 5, 163, 164, 165, 166, 167, 168, 169, 170, 171, 172, 173, 174, 175, 176, 177, 890, 891, 892, 893, 894, 895, 896, 897, 898, 899, 900, 901, 902, 903, 904, 905, 906, 907, 908, 909, 910, 911, 912, 913] (by decide +kernel) (by decide +kernel)
set_option maxRecDepth 20000 in
theorem gL_law_X8_set : GoodIn wsL_law (wsV RL 21 RX8 yX8_set wsX8_set) := goodIn_app (goodIn_of _ (by decide +kernel)) ggL_law_X8_set
set_option maxRecDepth 20000 in
theorem ggL_law_X7_copy : GoodIn wsL_law wsX7_copy := goodIn_r _ [199, 131, 13, 182, 200, 183, 201, 202, 203, 204, 132, 133, 2, 134, 135, 136, 137, 138, 139, 140, 141, 36, 142, 184, 185, 186, 38, 187, 107, 151, 152, 153, 154, 881, 882, 883, 884, 885, 886, 887, 888, 889, 942, 943, 944, 945] (by decide +kernel) (by decide +kernel)
set_option maxRecDepth 20000 in
theorem gL_law_X7_copy : GoodIn wsL_law (wsV RL 22 RX7 yX7_copy wsX7_copy) := goodIn_app (goodIn_of _ (by decide +kernel)) ggL_law_X7_copy
set_option maxRecDepth 20000 in
theorem ggL_law_X8_copy : GoodIn wsL_law wsX8_copy := goodIn_r _ [208, 160, 119, 117, 118, 121, 120, 161, 162, 5, 163, 164, 165, 166, 167, 168, 169, 170, 171, 172, 173, 174, 175, 176, 177, 890, 891, 892, 893, 894, 895, 896, 897, 898, 899, 900, 901, 902, 903, 904, 905, 906, 907, 908, 909, 910, 911, 912, 913] (by decide +kernel) (by decide +kernel)
set_option maxRecDepth 20000 in
theorem gL_law_X8_copy : GoodIn wsL_law (wsV RL 26 RX8 yX8_copy wsX8_copy) := goodIn_app (goodIn_of _ (by decide +kernel)) ggL_law_X8_copy
set_option maxRecDepth 20000 in
theorem ggL_law_X7_drop : GoodIn wsL_law wsX7_drop := goodIn_r _ [212, 131, 13, 182, 213, 132, 133, 2, 134, 135, 136, 137, 138, 139, 140, 141, 36, 142, 151, 152, 153, 154, 881, 882, 883, 884, 885, 886, 887, 888, 889, 942, 943, 944, 945] (by decide +kernel) (by decide +kernel)
set_option maxRecDepth 20000 in
theorem gL_law_X7_drop : GoodIn wsL_law (wsV RL 27 RX7 yX7_drop wsX7_drop) := goodIn_app (goodIn_of _ (by decide +kernel)) ggL_law_X7_drop
set_option maxRecDepth 20000 in
theorem ggL_law_X8_drop : GoodIn wsL_law wsX8_drop := goodIn_r _ [217, 160, 119, 118, 161, 162, 5, 163, 164, 165, 166, 167, 168, 169, 170, 171, 172, 173, 174, 175, 176, 177, 890, 891, 892, 893, 894, 895, 896, 897, 898, 899, 900, 901, 902, 903, 904, 905, 906, 907, 908, 909, 910, 911, 912, 913] (by decide +kernel) (by decide +kernel)
set_option maxRecDepth 20000 in
theorem gL_law_X8_drop : GoodIn wsL_law (wsV RL 31 RX8 yX8_drop wsX8_drop) := goodIn_app (goodIn_of _ (by decide +kernel)) ggL_law_X8_drop
set_option maxRecDepth 20000 in
theorem ggL_law_X7_feed : GoodIn wsL_law wsX7_feed := goodIn_r _ [221, 131, 17, 222, 223, 135, 136, 2, 137, 224, 225, 226, 16, 227, 43, 46, 881, 882, 883, 884, 885, 886, 887, 888, 889, 914, 915, 916, 917, 918, 919, 920, 921] (by decide +kernel) (by decide +kernel)
set_option maxRecDepth 20000 in
theorem gL_law_X7_feed : GoodIn wsL_law (wsV RL 32 RX7 yX7_feed wsX7_feed) := goodIn_app (goodIn_of _ (by decide +kernel)) ggL_law_X7_feed
set_option maxRecDepth 20000 in
theorem ggL_law_X8_feed : GoodIn wsL_law wsX8_feed := goodIn_r _ [231, 232, 160, 233, 234, 122, 165, 166, 5, 167, 890, 891, 892, 893, 894, 895, 896, 897, 898, 899, 900, 901, 902, 903, 904, 905, 906, 907, 908, 909, 910, 911, 912, 913] (by decide +kernel) (by decide +kernel)
set_option maxRecDepth 20000 in
theorem gL_law_X8_feed : GoodIn wsL_law (wsV RL 35 RX8 yX8_feed wsX8_feed) := goodIn_app (goodIn_of _ (by decide +kernel)) ggL_law_X8_feed
set_option maxRecDepth 20000 in
theorem ggL_law_X7_glass : GoodIn wsL_law wsX7_glass := goodIn_r _ [238, 17, 239, 35, 240, 241, 21, 242, 25, 243, 244, 245, 246, 16, 247, 47, 50, 49, 46, 248, 249, 250, 251, 48, 43, 252, 253, 254, 255, 256, 257, 258, 51, 136, 2, 137, 259, 260, 261, 262, 45, 263, 264, 265, 266, 267, 268, 269, 270, 271, 272, 273, 20, 274, 59, 63, 60, 61, 62, 275, 276, 277, 278, 279, 280, 281, 282, 283, 284, 285, 286, 55, 56, 287, 288, 289, 290, 58, 57, 291, 292, 135, 293, 294, 295, 296, 297, 298, 299, 300, 301, 202, 203, 204, 302, 303, 304, 24, 305, 71, 881, 882, 883, 884, 885, 886, 887, 888, 889, 914, 915, 916, 917, 918, 919, 920, 921, 922, 923, 924, 925, 926, 927, 928, 929, 930, 931, 932, 933] (by decide +kernel) (by decide +kernel)
set_option maxRecDepth 20000 in
theorem gL_law_X7_glass : GoodIn wsL_law (wsV RL 36 RX7 yX7_glass wsX7_glass) := goodIn_app (goodIn_of _ (by decide +kernel)) ggL_law_X7_glass
set_option maxRecDepth 20000 in
theorem ggL_law_X8_glass : GoodIn wsL_law wsX8_glass := goodIn_r _ [309, 123, 310, 233, 311, 312, 313, 112, 314, 315, 316, 317, 5, 318, 319, 320, 122, 321, 322, 165, 166, 167, 323, 324, 325, 326, 327, 328, 329, 330, 331, 332, 333, 334, 335, 336, 337, 338, 339, 340, 341, 342, 343, 344, 345, 346, 347, 348, 349, 350, 351, 890, 891, 892, 893, 894, 895, 896, 897, 898, 899, 900, 901, 902, 903, 904, 905, 906, 907, 908, 909, 910, 911, 912, 913] (by decide +kernel) (by decide +kernel)
set_option maxRecDepth 20000 in
theorem gL_law_X8_glass : GoodIn wsL_law (wsV RL 40 RX8 yX8_glass wsX8_glass) := goodIn_app (goodIn_of _ (by decide +kernel)) ggL_law_X8_glass
set_option maxRecDepth 20000 in
theorem ggL_law_X7_fault : GoodIn wsL_law wsX7_fault := goodIn_r _ [355, 35, 881, 882, 883, 884, 885, 886, 887, 888, 889] (by decide +kernel) (by decide +kernel)
set_option maxRecDepth 20000 in
theorem gL_law_X7_fault : GoodIn wsL_law (wsV RL 41 RX7 yX7_fault wsX7_fault) := goodIn_app (goodIn_of _ (by decide +kernel)) ggL_law_X7_fault
set_option maxRecDepth 20000 in
theorem ggL_law_X8_fault : GoodIn wsL_law wsX8_fault := goodIn_r _ [359, 311, 890, 891, 892, 893, 894, 895, 896, 897, 898, 899, 900, 901, 902, 903, 904, 905, 906, 907, 908, 909, 910, 911, 912, 913] (by decide +kernel) (by decide +kernel)
set_option maxRecDepth 20000 in
theorem gL_law_X8_fault : GoodIn wsL_law (wsV RL 44 RX8 yX8_fault wsX8_fault) := goodIn_app (goodIn_of _ (by decide +kernel)) ggL_law_X8_fault
set_option maxRecDepth 20000 in
theorem ggL_law_X7_play : GoodIn wsL_law wsX7_play := goodIn_r _ [363, 364, 131, 21, 365, 223, 25, 366, 367, 368, 2, 369, 243, 370, 291, 292, 135, 136, 137, 371, 372, 373, 20, 374, 62, 63, 61, 60, 375, 376, 377, 24, 378, 69, 70, 71, 379, 380, 381, 382, 383, 384, 385, 386, 387, 388, 389, 390, 391, 59, 57, 58, 392, 393, 394, 73, 395, 396, 77, 397, 78, 398, 79, 81, 80, 399, 82, 400, 83, 401, 402, 403, 404, 55, 405, 406, 407, 408, 56, 409, 410, 411, 412, 413, 414, 415, 293, 294, 295, 296, 287, 288, 289, 290, 881, 882, 883, 884, 885, 886, 887, 888, 889, 922, 923, 924, 925, 926, 927, 928, 929, 930, 931, 932, 933, 946, 947, 948, 949, 950, 951] (by decide +kernel) (by decide +kernel)
set_option maxRecDepth 20000 in
theorem gL_law_X7_play : GoodIn wsL_law (wsV RL 45 RX7 yX7_play wsX7_play) := goodIn_app (goodIn_of _ (by decide +kernel)) ggL_law_X7_play
set_option maxRecDepth 20000 in
theorem ggL_law_X8_play : GoodIn wsL_law wsX8_play := goodIn_r _ [419, 420, 160, 112, 234, 421, 422, 423, 424, 5, 425, 426, 427, 428, 429, 165, 166, 167, 430, 431, 432, 433, 314, 116, 434, 435, 436, 437, 438, 439, 440, 441, 442, 443, 444, 445, 446, 447, 448, 449, 450, 451, 452, 453, 454, 455, 456, 457, 458, 459, 460, 461, 462, 463, 890, 891, 892, 893, 894, 895, 896, 897, 898, 899, 900, 901, 902, 903, 904, 905, 906, 907, 908, 909, 910, 911, 912, 913] (by decide +kernel) (by decide +kernel)
set_option maxRecDepth 20000 in
theorem gL_law_X8_play : GoodIn wsL_law (wsV RL 48 RX8 yX8_play wsX8_play) := goodIn_app (goodIn_of _ (by decide +kernel)) ggL_law_X8_play
set_option maxRecDepth 20000 in
theorem ggL_law_X7_put : GoodIn wsL_law wsX7_put := goodIn_r _ [467, 131, 21, 468, 364, 25, 469, 470, 471, 2, 472, 243, 135, 136, 137, 370, 291, 292, 375, 376, 377, 24, 378, 69, 70, 71, 379, 380, 381, 382, 473, 393, 394, 73, 395, 396, 77, 397, 78, 398, 79, 81, 80, 399, 82, 400, 83, 474, 288, 289, 20, 290, 58, 57, 293, 294, 295, 296, 59, 475, 881, 882, 883, 884, 885, 886, 887, 888, 889, 922, 923, 924, 925, 926, 927, 928, 929, 930, 931, 932, 933, 946, 947, 948, 949, 950, 951] (by decide +kernel) (by decide +kernel)
set_option maxRecDepth 20000 in
theorem gL_law_X7_put : GoodIn wsL_law (wsV RL 49 RX7 yX7_put wsX7_put) := goodIn_app (goodIn_of _ (by decide +kernel)) ggL_law_X7_put
set_option maxRecDepth 20000 in
theorem ggL_law_X8_put : GoodIn wsL_law wsX8_put := goodIn_r _ [479, 160, 112, 420, 480, 481, 482, 5, 483, 422, 423, 424, 425, 165, 166, 167, 426, 427, 428, 429, 430, 431, 432, 433, 314, 116, 458, 459, 460, 455, 456, 457, 890, 891, 892, 893, 894, 895, 896, 897, 898, 899, 900, 901, 902, 903, 904, 905, 906, 907, 908, 909, 910, 911, 912, 913] (by decide +kernel) (by decide +kernel)
set_option maxRecDepth 20000 in
theorem gL_law_X8_put : GoodIn wsL_law (wsV RL 53 RX8 yX8_put wsX8_put) := goodIn_app (goodIn_of _ (by decide +kernel)) ggL_law_X8_put
set_option maxRecDepth 20000 in
theorem ggL_law_X7_grip : GoodIn wsL_law wsX7_grip := goodIn_r _ [487, 364, 131, 25, 21, 488, 489, 490, 366, 367, 368, 2, 369, 243, 135, 136, 137, 375, 376, 377, 24, 378, 69, 70, 71, 379, 380, 381, 382, 473, 393, 394, 73, 395, 396, 77, 397, 78, 398, 79, 81, 80, 399, 82, 400, 83, 881, 882, 883, 884, 885, 886, 887, 888, 889, 922, 923, 924, 925, 926, 927, 928, 929, 930, 931, 932, 933, 946, 947, 948, 949, 950, 951] (by decide +kernel) (by decide +kernel)
set_option maxRecDepth 20000 in
theorem gL_law_X7_grip : GoodIn wsL_law (wsV RL 54 RX7 yX7_grip wsX7_grip) := goodIn_app (goodIn_of _ (by decide +kernel)) ggL_law_X7_grip
set_option maxRecDepth 20000 in
theorem ggL_law_X8_grip : GoodIn wsL_law wsX8_grip := goodIn_r _ [494, 420, 495, 160, 112, 422, 423, 424, 5, 425, 165, 166, 167, 430, 431, 432, 433, 314, 116, 890, 891, 892, 893, 894, 895, 896, 897, 898, 899, 900, 901, 902, 903, 904, 905, 906, 907, 908, 909, 910, 911, 912, 913] (by decide +kernel) (by decide +kernel)
set_option maxRecDepth 20000 in
theorem gL_law_X8_grip : GoodIn wsL_law (wsV RL 57 RX8 yX8_grip wsX8_grip) := goodIn_app (goodIn_of _ (by decide +kernel)) ggL_law_X8_grip
set_option maxRecDepth 20000 in
theorem ggL_law_X7_undo : GoodIn wsL_law wsX7_undo := goodIn_r _ [499, 25, 500, 364, 21, 501, 502, 503, 24, 504, 70, 71, 69, 505, 506, 507, 73, 508, 77, 396, 78, 397, 79, 398, 81, 80, 399, 82, 400, 83, 881, 882, 883, 884, 885, 886, 887, 888, 889, 931, 932, 933, 946, 947, 948, 949, 950, 951, 922, 923, 924, 925, 926, 927, 928, 929, 930] (by decide +kernel) (by decide +kernel)
set_option maxRecDepth 20000 in
theorem gL_law_X7_undo : GoodIn wsL_law (wsV RL 58 RX7 yX7_undo wsX7_undo) := goodIn_app (goodIn_of _ (by decide +kernel)) ggL_law_X7_undo
set_option maxRecDepth 20000 in
theorem ggL_law_X8_undo : GoodIn wsL_law wsX8_undo := goodIn_r _ [512, 314, 420, 112, 116, 890, 891, 892, 893, 894, 895, 896, 897, 898, 899, 900, 901, 902, 903, 904, 905, 906, 907, 908, 909, 910, 911, 912, 913] (by decide +kernel) (by decide +kernel)
set_option maxRecDepth 20000 in
theorem gL_law_X8_undo : GoodIn wsL_law (wsV RL 61 RX8 yX8_undo wsX8_undo) := goodIn_app (goodIn_of _ (by decide +kernel)) ggL_law_X8_undo
set_option maxRecDepth 20000 in
theorem ggL_law_X7_toy : GoodIn wsL_law wsX7_toy := goodIn_r _ [516, 131, 21, 517, 468, 518, 469, 470, 471, 2, 472, 243, 135, 136, 137, 519, 406, 407, 20, 408, 55, 56, 520, 521, 522, 523, 57, 58, 291, 292, 293, 294, 295, 296, 59, 881, 882, 883, 884, 885, 886, 887, 888, 889, 922, 923, 924, 925, 926, 927, 928, 929, 930] (by decide +kernel) (by decide +kernel)
set_option maxRecDepth 20000 in
theorem gL_law_X7_toy : GoodIn wsL_law (wsV RL 62 RX7 yX7_toy wsX7_toy) := goodIn_app (goodIn_of _ (by decide +kernel)) ggL_law_X7_toy
set_option maxRecDepth 20000 in
theorem ggL_law_X8_toy : GoodIn wsL_law wsX8_toy := goodIn_r _ [527, 528, 160, 112, 480, 481, 482, 5, 483, 422, 423, 424, 425, 165, 166, 167, 446, 447, 448, 449, 450, 451, 426, 427, 428, 429, 455, 456, 457, 890, 891, 892, 893, 894, 895, 896, 897, 898, 899, 900, 901, 902, 903, 904, 905, 906, 907, 908, 909, 910, 911, 912, 913] (by decide +kernel) (by decide +kernel)
set_option maxRecDepth 20000 in
theorem gL_law_X8_toy : GoodIn wsL_law (wsV RL 65 RX8 yX8_toy wsX8_toy) := goodIn_app (goodIn_of _ (by decide +kernel)) ggL_law_X8_toy
set_option maxRecDepth 20000 in
theorem ggL_law_X7_column : GoodIn wsL_law wsX7_column := goodIn_r _ [532, 364, 131, 21, 366, 367, 368, 2, 369, 243, 370, 291, 292, 135, 136, 137, 475, 294, 295, 20, 296, 59, 57, 533, 389, 390, 391, 387, 58, 534, 535, 536, 537, 881, 882, 883, 884, 885, 886, 887, 888, 889, 922, 923, 924, 925, 926, 927, 928, 929, 930] (by decide +kernel) (by decide +kernel)
set_option maxRecDepth 20000 in
theorem gL_law_X7_column : GoodIn wsL_law (wsV RL 66 RX7 yX7_column wsX7_column) := goodIn_app (goodIn_of _ (by decide +kernel)) ggL_law_X7_column
set_option maxRecDepth 20000 in
theorem ggL_law_X8_column : GoodIn wsL_law wsX8_column := goodIn_r _ [541, 420, 159, 160, 112, 421, 422, 423, 424, 5, 425, 426, 427, 428, 429, 165, 166, 167, 443, 444, 445, 455, 456, 457, 542, 543, 544, 545, 890, 891, 892, 893, 894, 895, 896, 897, 898, 899, 900, 901, 902, 903, 904, 905, 906, 907, 908, 909, 910, 911, 912, 913] (by decide +kernel) (by decide +kernel)
set_option maxRecDepth 20000 in
theorem gL_law_X8_column : GoodIn wsL_law (wsV RL 69 RX8 yX8_column wsX8_column) := goodIn_app (goodIn_of _ (by decide +kernel)) ggL_law_X8_column
set_option maxRecDepth 20000 in
theorem ggL_law_X7_gives : GoodIn wsL_law wsX7_gives := goodIn_r _ [549, 364, 131, 21, 488, 366, 367, 368, 2, 369, 243, 370, 291, 292, 135, 136, 137, 533, 389, 390, 20, 391, 387, 59, 57, 58, 371, 372, 373, 374, 62, 63, 61, 60, 550, 402, 403, 404, 55, 405, 406, 407, 408, 56, 409, 410, 411, 412, 413, 414, 415, 293, 294, 295, 296, 881, 882, 883, 884, 885, 886, 887, 888, 889, 922, 923, 924, 925, 926, 927, 928, 929, 930] (by decide +kernel) (by decide +kernel)
set_option maxRecDepth 20000 in
theorem gL_law_X7_gives : GoodIn wsL_law (wsV RL 70 RX7 yX7_gives wsX7_gives) := goodIn_app (goodIn_of _ (by decide +kernel)) ggL_law_X7_gives
set_option maxRecDepth 20000 in
theorem ggL_law_X8_gives : GoodIn wsL_law wsX8_gives := goodIn_r _ [554, 420, 160, 124, 421, 422, 423, 424, 5, 425, 112, 426, 427, 428, 429, 165, 166, 167, 555, 556, 557, 558, 434, 435, 436, 437, 438, 439, 440, 441, 442, 443, 444, 445, 446, 447, 448, 449, 450, 451, 452, 453, 454, 455, 456, 457, 458, 459, 460, 461, 462, 463, 890, 891, 892, 893, 894, 895, 896, 897, 898, 899, 900, 901, 902, 903, 904, 905, 906, 907, 908, 909, 910, 911, 912, 913] (by decide +kernel) (by decide +kernel)
set_option maxRecDepth 20000 in
theorem gL_law_X8_gives : GoodIn wsL_law (wsV RL 73 RX8 yX8_gives wsX8_gives) := goodIn_app (goodIn_of _ (by decide +kernel)) ggL_law_X8_gives
set_option maxRecDepth 20000 in
theorem ggL_law_X7_grips : GoodIn wsL_law wsX7_grips := goodIn_r _ [562, 364, 21, 131, 366, 367, 368, 2, 369, 243, 135, 136, 137, 371, 372, 373, 20, 374, 62, 63, 61, 60, 881, 882, 883, 884, 885, 886, 887, 888, 889, 922, 923, 924, 925, 926, 927, 928, 929, 930] (by decide +kernel) (by decide +kernel)
set_option maxRecDepth 20000 in
theorem gL_law_X7_grips : GoodIn wsL_law (wsV RL 74 RX7 yX7_grips wsX7_grips) := goodIn_app (goodIn_of _ (by decide +kernel)) ggL_law_X7_grips
set_option maxRecDepth 20000 in
theorem ggL_law_X8_grips : GoodIn wsL_law wsX8_grips := goodIn_r _ [566, 420, 567, 112, 160, 422, 423, 424, 5, 425, 165, 166, 167, 437, 438, 439, 890, 891, 892, 893, 894, 895, 896, 897, 898, 899, 900, 901, 902, 903, 904, 905, 906, 907, 908, 909, 910, 911, 912, 913] (by decide +kernel) (by decide +kernel)
set_option maxRecDepth 20000 in
theorem gL_law_X8_grips : GoodIn wsL_law (wsV RL 77 RX8 yX8_grips wsX8_grips) := goodIn_app (goodIn_of _ (by decide +kernel)) ggL_law_X8_grips
set_option maxRecDepth 20000 in
theorem ggL_law_X7_win : GoodIn wsL_law wsX7_win := goodIn_r _ [571, 131, 30, 21, 572, 488, 469, 470, 471, 2, 472, 243, 135, 136, 137, 573, 574, 575, 29, 576, 89, 577, 578, 298, 299, 20, 300, 55, 301, 202, 203, 204, 56, 57, 58, 59, 60, 61, 62, 63, 579, 580, 581, 582, 583, 90, 95, 584, 372, 373, 374, 585, 384, 385, 386, 387, 388, 389, 390, 391, 392, 393, 394, 73, 395, 396, 77, 397, 78, 398, 79, 81, 80, 399, 82, 400, 83, 401, 402, 403, 404, 405, 406, 407, 408, 409, 410, 411, 412, 413, 414, 415, 293, 294, 295, 296, 287, 288, 289, 290, 291, 292, 586, 506, 507, 508, 881, 882, 883, 884, 885, 886, 887, 888, 889, 934, 935, 936, 937, 938, 939, 922, 923, 924, 925, 926, 927, 928, 929, 930, 946, 947, 948, 949, 950, 951] (by decide +kernel) (by decide +kernel)
set_option maxRecDepth 20000 in
theorem gL_law_X7_win : GoodIn wsL_law (wsV RL 78 RX7 yX7_win wsX7_win) := goodIn_app (goodIn_of _ (by decide +kernel)) ggL_law_X7_win
set_option maxRecDepth 20000 in
theorem ggL_law_X8_win : GoodIn wsL_law wsX8_win := goodIn_r _ [590, 160, 124, 421, 480, 481, 482, 5, 483, 422, 423, 424, 425, 112, 165, 166, 167, 591, 592, 593, 594, 595, 596, 597, 555, 556, 557, 558, 434, 435, 436, 437, 438, 439, 440, 441, 442, 443, 444, 445, 446, 447, 448, 449, 450, 451, 452, 453, 454, 455, 456, 457, 458, 459, 460, 461, 462, 463, 598, 599, 600, 890, 891, 892, 893, 894, 895, 896, 897, 898, 899, 900, 901, 902, 903, 904, 905, 906, 907, 908, 909, 910, 911, 912, 913] (by decide +kernel) (by decide +kernel)
set_option maxRecDepth 20000 in
theorem gL_law_X8_win : GoodIn wsL_law (wsV RL 81 RX8 yX8_win wsX8_win) := goodIn_app (goodIn_of _ (by decide +kernel)) ggL_law_X8_win
set_option maxRecDepth 20000 in
theorem ggL_law_X7_haul : GoodIn wsL_law wsX7_haul := goodIn_r _ [604, 364, 131, 488, 30, 21, 605, 606, 366, 367, 368, 2, 369, 243, 135, 136, 137, 607, 608, 609, 29, 610, 89, 92, 93, 578, 298, 299, 20, 300, 55, 301, 202, 203, 204, 56, 57, 58, 59, 60, 61, 62, 63, 611, 612, 613, 614, 90, 95, 615, 616, 617, 618, 91, 619, 620, 294, 295, 296, 621, 622, 623, 624, 584, 372, 373, 374, 585, 384, 385, 386, 387, 388, 389, 390, 391, 392, 393, 394, 73, 395, 396, 77, 397, 78, 398, 79, 81, 80, 399, 82, 400, 83, 401, 402, 403, 404, 405, 406, 407, 408, 409, 410, 411, 412, 413, 414, 415, 293, 287, 288, 289, 290, 291, 292, 586, 506, 507, 508, 881, 882, 883, 884, 885, 886, 887, 888, 889, 934, 935, 936, 937, 938, 939, 922, 923, 924, 925, 926, 927, 928, 929, 930, 946, 947, 948, 949, 950, 951] (by decide +kernel) (by decide +kernel)
set_option maxRecDepth 20000 in
theorem gL_law_X7_haul : GoodIn wsL_law (wsV RL 82 RX7 yX7_haul wsX7_haul) := goodIn_app (goodIn_of _ (by decide +kernel)) ggL_law_X7_haul
set_option maxRecDepth 20000 in
theorem ggL_law_X8_haul : GoodIn wsL_law wsX8_haul := goodIn_r _ [628, 420, 528, 160, 124, 421, 422, 423, 424, 5, 425, 112, 165, 166, 167, 591, 592, 593, 594, 595, 596, 597, 555, 556, 557, 558, 434, 435, 436, 437, 438, 439, 440, 441, 442, 443, 444, 445, 446, 447, 448, 449, 450, 451, 452, 453, 454, 455, 456, 457, 458, 459, 460, 461, 462, 463, 629, 630, 631, 632, 598, 599, 600, 890, 891, 892, 893, 894, 895, 896, 897, 898, 899, 900, 901, 902, 903, 904, 905, 906, 907, 908, 909, 910, 911, 912, 913] (by decide +kernel) (by decide +kernel)
set_option maxRecDepth 20000 in
theorem gL_law_X8_haul : GoodIn wsL_law (wsV RL 85 RX8 yX8_haul wsX8_haul) := goodIn_app (goodIn_of _ (by decide +kernel)) ggL_law_X8_haul
set_option maxRecDepth 20000 in
theorem ggL_law_X7_enough : GoodIn wsL_law wsX7_enough := goodIn_r _ [636, 364, 131, 21, 488, 366, 367, 368, 2, 369, 243, 370, 291, 292, 135, 136, 137, 533, 389, 390, 20, 391, 387, 59, 57, 58, 519, 406, 407, 408, 55, 56, 881, 882, 883, 884, 885, 886, 887, 888, 889, 922, 923, 924, 925, 926, 927, 928, 929, 930] (by decide +kernel) (by decide +kernel)
set_option maxRecDepth 20000 in
theorem gL_law_X7_enough : GoodIn wsL_law (wsV RL 86 RX7 yX7_enough wsX7_enough) := goodIn_app (goodIn_of _ (by decide +kernel)) ggL_law_X7_enough
set_option maxRecDepth 20000 in
theorem ggL_law_X8_enough : GoodIn wsL_law wsX8_enough := goodIn_r _ [640, 420, 160, 124, 421, 422, 423, 424, 5, 425, 112, 426, 427, 428, 429, 165, 166, 167, 555, 556, 557, 558, 440, 441, 442, 443, 444, 445, 446, 447, 448, 449, 450, 451, 452, 453, 454, 455, 456, 457, 458, 459, 460, 461, 462, 463, 890, 891, 892, 893, 894, 895, 896, 897, 898, 899, 900, 901, 902, 903, 904, 905, 906, 907, 908, 909, 910, 911, 912, 913] (by decide +kernel) (by decide +kernel)
set_option maxRecDepth 20000 in
theorem gL_law_X8_enough : GoodIn wsL_law (wsV RL 89 RX8 yX8_enough wsX8_enough) := goodIn_app (goodIn_of _ (by decide +kernel)) ggL_law_X8_enough
set_option maxRecDepth 20000 in
theorem ggL_law_X7_share : GoodIn wsL_law wsX7_share := goodIn_r _ [644, 131, 21, 468, 469, 470, 471, 2, 472, 243, 135, 136, 137, 645, 646, 647, 20, 648, 649, 650, 381, 651, 59, 57, 56, 652, 622, 623, 624, 881, 882, 883, 884, 885, 886, 887, 888, 889, 922, 923, 924, 925, 926, 927, 928, 929, 930] (by decide +kernel) (by decide +kernel)
set_option maxRecDepth 20000 in
theorem gL_law_X7_share : GoodIn wsL_law (wsV RL 90 RX7 yX7_share wsX7_share) := goodIn_app (goodIn_of _ (by decide +kernel)) ggL_law_X7_share
set_option maxRecDepth 20000 in
theorem ggL_law_X8_share : GoodIn wsL_law wsX8_share := goodIn_r _ [656, 657, 160, 112, 480, 481, 482, 5, 483, 422, 423, 424, 425, 165, 166, 167, 658, 659, 660, 661, 629, 630, 631, 632, 890, 891, 892, 893, 894, 895, 896, 897, 898, 899, 900, 901, 902, 903, 904, 905, 906, 907, 908, 909, 910, 911, 912, 913] (by decide +kernel) (by decide +kernel)
set_option maxRecDepth 20000 in
theorem gL_law_X8_share : GoodIn wsL_law (wsV RL 93 RX8 yX8_share wsX8_share) := goodIn_app (goodIn_of _ (by decide +kernel)) ggL_law_X8_share
set_option maxRecDepth 20000 in
theorem ggL_law_X7_fits : GoodIn wsL_law wsX7_fits := goodIn_r _ [665, 131, 13, 182, 30, 21, 469, 470, 471, 2, 472, 243, 135, 136, 137, 132, 133, 134, 138, 139, 140, 141, 36, 142, 184, 185, 186, 38, 187, 107, 666, 667, 668, 29, 669, 89, 578, 298, 299, 20, 300, 55, 301, 202, 203, 204, 56, 57, 58, 59, 60, 61, 62, 63, 670, 671, 672, 673, 674, 675, 676, 677, 678, 679, 680, 681, 95, 583, 682, 584, 372, 373, 374, 585, 384, 385, 386, 387, 388, 389, 390, 391, 392, 393, 394, 73, 395, 396, 77, 397, 78, 398, 79, 81, 80, 399, 82, 400, 83, 401, 402, 403, 404, 405, 406, 407, 408, 409, 410, 411, 412, 413, 414, 415, 293, 294, 295, 296, 287, 288, 289, 290, 291, 292, 151, 152, 153, 154, 881, 882, 883, 884, 885, 886, 887, 888, 889, 942, 943, 944, 945, 922, 923, 924, 925, 926, 927, 928, 929, 930, 934, 935, 936, 937, 938, 939, 946, 947, 948, 949, 950, 951] (by decide +kernel) (by decide +kernel)
set_option maxRecDepth 20000 in
theorem gL_law_X7_fits : GoodIn wsL_law (wsV RL 94 RX7 yX7_fits wsX7_fits) := goodIn_app (goodIn_of _ (by decide +kernel)) ggL_law_X7_fits
set_option maxRecDepth 20000 in
theorem ggL_law_X8_fits : GoodIn wsL_law wsX8_fits := goodIn_r _ [686, 687, 688, 160, 119, 118, 429, 124, 480, 481, 482, 5, 483, 422, 423, 424, 425, 112, 165, 166, 167, 161, 162, 163, 164, 168, 169, 170, 171, 172, 173, 555, 556, 557, 558, 689, 690, 691, 692, 120, 434, 435, 436, 437, 438, 439, 440, 441, 442, 443, 444, 445, 446, 447, 448, 449, 450, 451, 452, 453, 454, 455, 456, 457, 458, 459, 460, 461, 462, 463, 174, 175, 176, 177, 890, 891, 892, 893, 894, 895, 896, 897, 898, 899, 900, 901, 902, 903, 904, 905, 906, 907, 908, 909, 910, 911, 912, 913] (by decide +kernel) (by decide +kernel)
set_option maxRecDepth 20000 in
theorem gL_law_X8_fits : GoodIn wsL_law (wsV RL 97 RX8 yX8_fits wsX8_fits) := goodIn_app (goodIn_of _ (by decide +kernel)) ggL_law_X8_fits
set_option maxRecDepth 20000 in
theorem ggL_law_X7_chance : GoodIn wsL_law wsX7_chance := goodIn_r _ [696, 131, 30, 21, 469, 470, 471, 2, 472, 243, 135, 136, 137, 370, 291, 292, 697, 698, 699, 29, 700, 89, 578, 298, 299, 20, 300, 55, 301, 202, 203, 204, 56, 57, 58, 59, 60, 61, 62, 63, 701, 702, 703, 704, 583, 677, 676, 95, 705, 706, 585, 384, 385, 386, 387, 388, 389, 390, 391, 392, 393, 394, 73, 395, 396, 77, 397, 78, 398, 79, 81, 80, 399, 82, 400, 83, 401, 402, 403, 404, 405, 406, 407, 408, 409, 410, 411, 412, 413, 414, 415, 293, 294, 295, 296, 287, 288, 289, 290, 586, 506, 507, 508, 707, 708, 709, 710, 881, 882, 883, 884, 885, 886, 887, 888, 889, 922, 923, 924, 925, 926, 927, 928, 929, 930, 934, 935, 936, 937, 938, 939, 946, 947, 948, 949, 950, 951] (by decide +kernel) (by decide +kernel)
set_option maxRecDepth 20000 in
theorem gL_law_X7_chance : GoodIn wsL_law (wsV RL 98 RX7 yX7_chance wsX7_chance) := goodIn_app (goodIn_of _ (by decide +kernel)) ggL_law_X7_chance
set_option maxRecDepth 20000 in
theorem ggL_law_X8_chance : GoodIn wsL_law wsX8_chance := goodIn_r _ [714, 715, 716, 160, 124, 112, 717, 125, 480, 481, 482, 5, 483, 422, 423, 424, 425, 165, 166, 167, 426, 427, 428, 429, 555, 556, 557, 558, 718, 719, 720, 440, 441, 442, 443, 444, 445, 446, 447, 448, 449, 450, 451, 452, 453, 454, 455, 456, 457, 458, 459, 460, 461, 462, 463, 721, 722, 723, 724, 890, 891, 892, 893, 894, 895, 896, 897, 898, 899, 900, 901, 902, 903, 904, 905, 906, 907, 908, 909, 910, 911, 912, 913] (by decide +kernel) (by decide +kernel)
set_option maxRecDepth 20000 in
theorem gL_law_X8_chance : GoodIn wsL_law (wsV RL 101 RX8 yX8_chance wsX8_chance) := goodIn_app (goodIn_of _ (by decide +kernel)) ggL_law_X8_chance
set_option maxRecDepth 20000 in
theorem ggL_law_X7_drawn : GoodIn wsL_law wsX7_drawn := goodIn_r _ [728, 364, 729, 131, 30, 21, 730, 366, 367, 368, 2, 369, 243, 135, 136, 137, 731, 732, 733, 29, 734, 89, 735, 736, 737, 738, 650, 381, 651, 583, 739, 740, 95, 578, 298, 299, 20, 300, 55, 301, 202, 203, 204, 56, 57, 58, 59, 60, 61, 62, 63, 291, 292, 741, 288, 289, 290, 293, 294, 295, 296, 584, 372, 373, 374, 585, 384, 385, 386, 387, 388, 389, 390, 391, 392, 393, 394, 73, 395, 396, 77, 397, 78, 398, 79, 81, 80, 399, 82, 400, 83, 401, 402, 403, 404, 405, 406, 407, 408, 409, 410, 411, 412, 413, 414, 415, 287, 475, 881, 882, 883, 884, 885, 886, 887, 888, 889, 934, 935, 936, 937, 938, 939, 922, 923, 924, 925, 926, 927, 928, 929, 930, 946, 947, 948, 949, 950, 951] (by decide +kernel) (by decide +kernel)
set_option maxRecDepth 20000 in
theorem gL_law_X7_drawn : GoodIn wsL_law (wsV RL 102 RX7 yX7_drawn wsX7_drawn) := goodIn_app (goodIn_of _ (by decide +kernel)) ggL_law_X7_drawn
set_option maxRecDepth 20000 in
theorem ggL_law_X8_drawn : GoodIn wsL_law wsX8_drawn := goodIn_r _ [745, 420, 567, 746, 160, 747, 748, 124, 429, 159, 422, 423, 424, 5, 425, 112, 165, 166, 167, 555, 556, 557, 558, 426, 427, 428, 458, 459, 460, 455, 456, 457, 434, 435, 436, 437, 438, 439, 440, 441, 442, 443, 444, 445, 446, 447, 448, 449, 450, 451, 452, 453, 454, 461, 462, 463, 890, 891, 892, 893, 894, 895, 896, 897, 898, 899, 900, 901, 902, 903, 904, 905, 906, 907, 908, 909, 910, 911, 912, 913] (by decide +kernel) (by decide +kernel)
set_option maxRecDepth 20000 in
theorem gL_law_X8_drawn : GoodIn wsL_law (wsV RL 105 RX8 yX8_drawn wsX8_drawn) := goodIn_app (goodIn_of _ (by decide +kernel)) ggL_law_X8_drawn
set_option maxRecDepth 20000 in
theorem ggL_law_X7_image : GoodIn wsL_law wsX7_image := goodIn_r _ [752, 131, 364, 26, 21, 135, 136, 2, 137, 366, 367, 368, 369, 243, 297, 298, 299, 20, 300, 55, 301, 202, 203, 204, 56, 57, 58, 59, 60, 61, 62, 63, 881, 882, 883, 884, 885, 886, 887, 888, 889, 922, 923, 924, 925, 926, 927, 928, 929, 930] (by decide +kernel) (by decide +kernel)
set_option maxRecDepth 20000 in
theorem gL_law_X7_image : GoodIn wsL_law (wsV RL 106 RX7 yX7_image wsX7_image) := goodIn_app (goodIn_of _ (by decide +kernel)) ggL_law_X7_image
set_option maxRecDepth 20000 in
theorem ggL_law_X8_image : GoodIn wsL_law wsX8_image := goodIn_r _ [756, 160, 420, 113, 112, 115, 165, 166, 5, 167, 422, 423, 424, 425, 890, 891, 892, 893, 894, 895, 896, 897, 898, 899, 900, 901, 902, 903, 904, 905, 906, 907, 908, 909, 910, 911, 912, 913] (by decide +kernel) (by decide +kernel)
set_option maxRecDepth 20000 in
theorem gL_law_X8_image : GoodIn wsL_law (wsV RL 109 RX8 yX8_image wsX8_image) := goodIn_app (goodIn_of _ (by decide +kernel)) ggL_law_X8_image
set_option maxRecDepth 20000 in
theorem ggL_law_X7_restore : GoodIn wsL_law wsX7_restore := goodIn_r _ [760, 131, 26, 243, 364, 21, 25, 135, 136, 2, 137, 297, 298, 299, 20, 300, 55, 301, 202, 203, 204, 56, 57, 58, 59, 60, 61, 62, 63, 302, 303, 304, 24, 305, 71, 881, 882, 883, 884, 885, 886, 887, 888, 889, 922, 923, 924, 925, 926, 927, 928, 929, 930, 931, 932, 933] (by decide +kernel) (by decide +kernel)
set_option maxRecDepth 20000 in
theorem gL_law_X7_restore : GoodIn wsL_law (wsV RL 110 RX7 yX7_restore wsX7_restore) := goodIn_app (goodIn_of _ (by decide +kernel)) ggL_law_X7_restore
set_option maxRecDepth 20000 in
theorem ggL_law_X8_restore : GoodIn wsL_law wsX8_restore := goodIn_r _ [764, 160, 115, 420, 112, 113, 314, 165, 166, 5, 167, 890, 891, 892, 893, 894, 895, 896, 897, 898, 899, 900, 901, 902, 903, 904, 905, 906, 907, 908, 909, 910, 911, 912, 913] (by decide +kernel) (by decide +kernel)
set_option maxRecDepth 20000 in
theorem gL_law_X8_restore : GoodIn wsL_law (wsV RL 113 RX8 yX8_restore wsX8_restore) := goodIn_app (goodIn_of _ (by decide +kernel)) ggL_law_X8_restore
set_option maxRecDepth 20000 in
theorem ggL_law_X7_kind : GoodIn wsL_law wsX7_kind := goodIn_r _ [768, 21, 769, 131, 469, 470, 471, 2, 472, 243, 135, 136, 137, 881, 882, 883, 884, 885, 886, 887, 888, 889, 922, 923, 924, 925, 926, 927, 928, 929, 930] (by decide +kernel) (by decide +kernel)
set_option maxRecDepth 20000 in
theorem gL_law_X7_kind : GoodIn wsL_law (wsV RL 114 RX7 yX7_kind wsX7_kind) := goodIn_app (goodIn_of _ (by decide +kernel)) ggL_law_X7_kind
set_option maxRecDepth 20000 in
theorem ggL_law_X8_kind : GoodIn wsL_law wsX8_kind := goodIn_r _ [773, 112, 160, 480, 481, 482, 5, 483, 422, 423, 424, 425, 165, 166, 167, 890, 891, 892, 893, 894, 895, 896, 897, 898, 899, 900, 901, 902, 903, 904, 905, 906, 907, 908, 909, 910, 911, 912, 913] (by decide +kernel) (by decide +kernel)
set_option maxRecDepth 20000 in
theorem gL_law_X8_kind : GoodIn wsL_law (wsV RL 117 RX8 yX8_kind wsX8_kind) := goodIn_app (goodIn_of _ (by decide +kernel)) ggL_law_X8_kind
set_option maxRecDepth 20000 in
theorem ggL_law_X7_as : GoodIn wsL_law wsX7_as := goodIn_r _ [777, 131, 21, 769, 469, 470, 471, 2, 472, 243, 135, 136, 137, 778, 409, 410, 411, 151, 152, 153, 154, 36, 138, 139, 140, 141, 142, 881, 882, 883, 884, 885, 886, 887, 888, 889, 922, 923, 924, 925, 926, 927, 928, 929, 930] (by decide +kernel) (by decide +kernel)
set_option maxRecDepth 20000 in
theorem gL_law_X7_as : GoodIn wsL_law (wsV RL 118 RX7 yX7_as wsX7_as) := goodIn_app (goodIn_of _ (by decide +kernel)) ggL_law_X7_as
set_option maxRecDepth 20000 in
theorem ggL_law_X8_as : GoodIn wsL_law wsX8_as := goodIn_r _ [782, 429, 160, 112, 480, 481, 482, 5, 483, 422, 423, 424, 425, 165, 166, 167, 783, 784, 785, 174, 175, 176, 177, 172, 168, 169, 170, 171, 173, 890, 891, 892, 893, 894, 895, 896, 897, 898, 899, 900, 901, 902, 903, 904, 905, 906, 907, 908, 909, 910, 911, 912, 913] (by decide +kernel) (by decide +kernel)
set_option maxRecDepth 20000 in
theorem gL_law_X8_as : GoodIn wsL_law (wsV RL 121 RX8 yX8_as wsX8_as) := goodIn_app (goodIn_of _ (by decide +kernel)) ggL_law_X8_as
set_option maxRecDepth 20000 in
theorem ggL_law_X7_ask : GoodIn wsL_law wsX7_ask := goodIn_r _ [789, 131, 34, 21, 790, 769, 791, 469, 470, 471, 2, 472, 243, 135, 136, 137, 792, 793, 794, 33, 795, 100, 796, 797, 798, 799, 99, 800, 801, 802, 803, 804, 881, 882, 883, 884, 885, 886, 887, 888, 889, 922, 923, 924, 925, 926, 927, 928, 929, 930, 940, 941] (by decide +kernel) (by decide +kernel)
set_option maxRecDepth 20000 in
theorem gL_law_X7_ask : GoodIn wsL_law (wsV RL 122 RX7 yX7_ask wsX7_ask) := goodIn_app (goodIn_of _ (by decide +kernel)) ggL_law_X7_ask
set_option maxRecDepth 20000 in
theorem ggL_law_X8_ask : GoodIn wsL_law wsX8_ask := goodIn_r _ [808, 160, 809, 480, 481, 482, 5, 483, 422, 423, 424, 425, 112, 165, 166, 167, 810, 811, 812, 813, 814, 815, 816, 817, 818, 819, 820, 821, 822, 823, 824, 825, 126, 826, 827, 828, 829, 830, 831, 832, 833, 834, 835, 836, 837, 838, 839, 840, 841, 842, 843, 844, 845, 890, 891, 892, 893, 894, 895, 896, 897, 898, 899, 900, 901, 902, 903, 904, 905, 906, 907, 908, 909, 910, 911, 912, 913] (by decide +kernel) (by decide +kernel)
set_option maxRecDepth 20000 in
theorem gL_law_X8_ask : GoodIn wsL_law (wsV RL 125 RX8 yX8_ask wsX8_ask) := goodIn_app (goodIn_of _ (by decide +kernel)) ggL_law_X8_ask
set_option maxRecDepth 20000 in
theorem ggL_law_X7_trace : GoodIn wsL_law wsX7_trace := goodIn_r _ [849, 34, 850, 851, 488, 135, 136, 2, 137, 881, 882, 883, 884, 885, 886, 887, 888, 889, 940, 941] (by decide +kernel) (by decide +kernel)
set_option maxRecDepth 20000 in
theorem gL_law_X7_trace : GoodIn wsL_law (wsV RL 126 RX7 yX7_trace wsX7_trace) := goodIn_app (goodIn_of _ (by decide +kernel)) ggL_law_X7_trace
set_option maxRecDepth 20000 in
theorem ggL_law_X8_trace : GoodIn wsL_law wsX8_trace := goodIn_r _ [855, 809, 126, 421, 165, 166, 5, 167, 890, 891, 892, 893, 894, 895, 896, 897, 898, 899, 900, 901, 902, 903, 904, 905, 906, 907, 908, 909, 910, 911, 912, 913] (by decide +kernel) (by decide +kernel)
set_option maxRecDepth 20000 in
theorem gL_law_X8_trace : GoodIn wsL_law (wsV RL 129 RX8 yX8_trace wsX8_trace) := goodIn_app (goodIn_of _ (by decide +kernel)) ggL_law_X8_trace
set_option maxRecDepth 20000 in
theorem ggL_law_X7_count : GoodIn wsL_law wsX7_count := goodIn_r _ [859, 21, 243, 365, 489, 490, 860, 25, 500, 17, 222, 131, 861, 862, 863, 2, 864, 13, 182, 534, 535, 536, 20, 537, 59, 57, 881, 882, 883, 884, 885, 886, 887, 888, 889, 922, 923, 924, 925, 926, 927, 928, 929, 930, 931, 932, 933, 914, 915, 916, 917, 918, 919, 920, 921, 942, 943, 944, 945] (by decide +kernel) (by decide +kernel)
set_option maxRecDepth 20000 in
theorem gL_law_X7_count : GoodIn wsL_law (wsV RL 130 RX7 yX7_count wsX7_count) := goodIn_app (goodIn_of _ (by decide +kernel)) ggL_law_X7_count
set_option maxRecDepth 20000 in
theorem ggL_law_X8_count : GoodIn wsL_law wsX8_count := goodIn_r _ [868, 112, 314, 233, 160, 869, 870, 871, 5, 872, 119, 422, 423, 424, 425, 542, 543, 544, 545, 890, 891, 892, 893, 894, 895, 896, 897, 898, 899, 900, 901, 902, 903, 904, 905, 906, 907, 908, 909, 910, 911, 912, 913] (by decide +kernel) (by decide +kernel)
set_option maxRecDepth 20000 in
theorem gL_law_X8_count : GoodIn wsL_law (wsV RL 133 RX8 yX8_count wsX8_count) := goodIn_app (goodIn_of _ (by decide +kernel)) ggL_law_X8_count
set_option maxRecDepth 20000 in
theorem ggL_law_X7_status : GoodIn wsL_law wsX7_status := goodIn_r _ [876, 36, 881, 882, 883, 884, 885, 886, 887, 888, 889] (by decide +kernel) (by decide +kernel)
set_option maxRecDepth 20000 in
theorem gL_law_X7_status : GoodIn wsL_law (wsV RL 134 RX7 yX7_status wsX7_status) := goodIn_app (goodIn_of _ (by decide +kernel)) ggL_law_X7_status
set_option maxRecDepth 20000 in
theorem ggL_law_X8_status : GoodIn wsL_law wsX8_status := goodIn_r _ [880, 172, 890, 891, 892, 893, 894, 895, 896, 897, 898, 899, 900, 901, 902, 903, 904, 905, 906, 907, 908, 909, 910, 911, 912, 913] (by decide +kernel) (by decide +kernel)
set_option maxRecDepth 20000 in
theorem gL_law_X8_status : GoodIn wsL_law (wsV RL 137 RX8 yX8_status wsX8_status) := goodIn_app (goodIn_of _ (by decide +kernel)) ggL_law_X8_status
theorem dL_law_0 : decode cL_law 0 = .ok (.new 7, 3) := by decide +kernel
theorem dL_law_3 : decode cL_law 3 = .ok (.dup, 1) := by decide +kernel
theorem dL_law_4 : decode cL_law 4 = .ok (.invokespecial 9, 3) := by decide +kernel
theorem dL_law_7 : decode cL_law 7 = .ok (.astore_n 1, 1) := by decide +kernel
theorem dL_law_8 : decode cL_law 8 = .ok (.new 10, 3) := by decide +kernel
theorem dL_law_11 : decode cL_law 11 = .ok (.dup, 1) := by decide +kernel
theorem dL_law_12 : decode cL_law 12 = .ok (.invokespecial 12, 3) := by decide +kernel
theorem dL_law_15 : decode cL_law 15 = .ok (.astore_n 2, 1) := by decide +kernel
theorem dL_law_16 : decode cL_law 16 = .ok (.iconst 0, 1) := by decide +kernel
theorem dL_law_17 : decode cL_law 17 = .ok (.istore_n 3, 1) := by decide +kernel
theorem dL_law_18 : decode cL_law 18 = .ok (.iload_n 3, 1) := by decide +kernel
theorem dL_law_19 : decode cL_law 19 = .ok (.aload_n 0, 1) := by decide +kernel
theorem dL_law_20 : decode cL_law 20 = .ok (.arraylength, 1) := by decide +kernel
theorem dL_law_21 : decode cL_law 21 = .ok (.bipush 6, 2) := by decide +kernel
theorem dL_law_23 : decode cL_law 23 = .ok (.isub, 1) := by decide +kernel
theorem dL_law_24 : decode cL_law 24 = .ok (.if_icmp .gt 1070, 3) := by decide +kernel
theorem dL_law_27 : decode cL_law 27 = .ok (.aload_n 0, 1) := by decide +kernel
theorem dL_law_28 : decode cL_law 28 = .ok (.iload_n 3, 1) := by decide +kernel
theorem dL_law_29 : decode cL_law 29 = .ok (.iaload, 1) := by decide +kernel
theorem dL_law_30 : decode cL_law 30 = .ok (.bipush 31, 2) := by decide +kernel
theorem dL_law_32 : decode cL_law 32 = .ok (.iand, 1) := by decide +kernel
theorem dL_law_33 : decode cL_law 33 = .ok (.tableswitch 1055 0 29 #[135, 178, 221, 284, 307, 330, 343, 356, 379, 412, 445, 458, 491, 524, 547, 570, 603, 636, 659, 692, 755, 818, 861, 884, 907, 930, 963, 996, 1019, 1042], 135) := by decide +kernel
theorem dL_law_168 : decode cL_law 168 = .ok (.aload_n 1, 1) := by decide +kernel
theorem dL_law_169 : decode cL_law 169 = .ok (.aload_n 0, 1) := by decide +kernel
theorem dL_law_170 : decode cL_law 170 = .ok (.iload_n 3, 1) := by decide +kernel
