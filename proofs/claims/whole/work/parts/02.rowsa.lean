set_option maxRecDepth 20000 in
theorem ggX0_init_X2_init : GoodIn wsX0_init wsX2_init := goodIn_r _ [11, 12, 2, 3, 13, 14, 15, 16, 17, 18, 19, 23, 24, 25, 26, 27, 28] (by decide +kernel) (by decide +kernel)
set_option maxRecDepth 20000 in
theorem gX0_init_X2_init_n24 : GoodIn wsX0_init (wsX2_init) := ggX0_init_X2_init
theorem dX0_init_0 : decode cX0_init 0 = .ok (.aload_n 0, 1) := by decide +kernel
theorem dX0_init_1 : decode cX0_init 1 = .ok (.invokespecial 3, 3) := by decide +kernel
theorem dX0_init_4 : decode cX0_init 4 = .ok (.aload_n 0, 1) := by decide +kernel
theorem dX0_init_5 : decode cX0_init 5 = .ok (.bipush 24, 2) := by decide +kernel
theorem dX0_init_7 : decode cX0_init 7 = .ok (.anewarray 9, 3) := by decide +kernel
theorem dX0_init_10 : decode cX0_init 10 = .ok (.putfield 11, 3) := by decide +kernel
theorem dX0_init_13 : decode cX0_init 13 = .ok (.aload_n 0, 1) := by decide +kernel
theorem dX0_init_14 : decode cX0_init 14 = .ok (.iconst 0, 1) := by decide +kernel
theorem dX0_init_15 : decode cX0_init 15 = .ok (.putfield 17, 3) := by decide +kernel
theorem dX0_init_18 : decode cX0_init 18 = .ok (.aload_n 0, 1) := by decide +kernel
theorem dX0_init_19 : decode cX0_init 19 = .ok (.iconst 0, 1) := by decide +kernel
theorem dX0_init_20 : decode cX0_init 20 = .ok (.putfield 21, 3) := by decide +kernel
theorem dX0_init_23 : decode cX0_init 23 = .ok (.iconst 0, 1) := by decide +kernel
theorem dX0_init_24 : decode cX0_init 24 = .ok (.istore_n 1, 1) := by decide +kernel
theorem dX0_init_25 : decode cX0_init 25 = .ok (.iload_n 1, 1) := by decide +kernel
theorem dX0_init_26 : decode cX0_init 26 = .ok (.bipush 24, 2) := by decide +kernel
theorem dX0_init_28 : decode cX0_init 28 = .ok (.if_icmp .ge 22, 3) := by decide +kernel
theorem dX0_init_31 : decode cX0_init 31 = .ok (.aload_n 0, 1) := by decide +kernel
theorem dX0_init_32 : decode cX0_init 32 = .ok (.getfield 11, 3) := by decide +kernel
theorem dX0_init_35 : decode cX0_init 35 = .ok (.iload_n 1, 1) := by decide +kernel
theorem dX0_init_36 : decode cX0_init 36 = .ok (.new 9, 3) := by decide +kernel
theorem dX0_init_39 : decode cX0_init 39 = .ok (.dup, 1) := by decide +kernel
theorem dX0_init_40 : decode cX0_init 40 = .ok (.invokespecial 24, 3) := by decide +kernel
theorem dX0_init_43 : decode cX0_init 43 = .ok (.aastore, 1) := by decide +kernel
theorem dX0_init_44 : decode cX0_init 44 = .ok (.iinc 1 1, 3) := by decide +kernel
theorem dX0_init_47 : decode cX0_init 47 = .ok (.goto (-22), 3) := by decide +kernel
theorem dX0_init_50 : decode cX0_init 50 = .ok (.return_, 1) := by decide +kernel
theorem dX0_begin_0 : decode cX0_begin 0 = .ok (.aload_n 0, 1) := by decide +kernel
theorem dX0_begin_1 : decode cX0_begin 1 = .ok (.getfield 11, 3) := by decide +kernel
theorem dX0_begin_4 : decode cX0_begin 4 = .ok (.aload_n 0, 1) := by decide +kernel
theorem dX0_begin_5 : decode cX0_begin 5 = .ok (.getfield 17, 3) := by decide +kernel
theorem dX0_begin_8 : decode cX0_begin 8 = .ok (.aaload, 1) := by decide +kernel
theorem dX0_begin_9 : decode cX0_begin 9 = .ok (.astore_n 1, 1) := by decide +kernel
theorem dX0_begin_10 : decode cX0_begin 10 = .ok (.aload_n 0, 1) := by decide +kernel
theorem dX0_begin_11 : decode cX0_begin 11 = .ok (.aload_n 0, 1) := by decide +kernel
theorem dX0_begin_12 : decode cX0_begin 12 = .ok (.getfield 17, 3) := by decide +kernel
theorem dX0_begin_15 : decode cX0_begin 15 = .ok (.iconst 1, 1) := by decide +kernel
theorem dX0_begin_16 : decode cX0_begin 16 = .ok (.iadd, 1) := by decide +kernel
theorem dX0_begin_17 : decode cX0_begin 17 = .ok (.bipush 24, 2) := by decide +kernel
theorem dX0_begin_19 : decode cX0_begin 19 = .ok (.irem, 1) := by decide +kernel
theorem dX0_begin_20 : decode cX0_begin 20 = .ok (.putfield 17, 3) := by decide +kernel
theorem dX0_begin_23 : decode cX0_begin 23 = .ok (.aload_n 0, 1) := by decide +kernel
theorem dX0_begin_24 : decode cX0_begin 24 = .ok (.aload_n 0, 1) := by decide +kernel
theorem dX0_begin_25 : decode cX0_begin 25 = .ok (.getfield 21, 3) := by decide +kernel
theorem dX0_begin_28 : decode cX0_begin 28 = .ok (.iconst 1, 1) := by decide +kernel
theorem dX0_begin_29 : decode cX0_begin 29 = .ok (.iadd, 1) := by decide +kernel
theorem dX0_begin_30 : decode cX0_begin 30 = .ok (.bipush 24, 2) := by decide +kernel
theorem dX0_begin_32 : decode cX0_begin 32 = .ok (.invokestatic 25, 3) := by decide +kernel
theorem dX0_begin_35 : decode cX0_begin 35 = .ok (.putfield 21, 3) := by decide +kernel
theorem dX0_begin_38 : decode cX0_begin 38 = .ok (.aload_n 1, 1) := by decide +kernel
theorem dX0_begin_39 : decode cX0_begin 39 = .ok (.areturn, 1) := by decide +kernel
set_option maxRecDepth 20000 in
theorem ggX0_takeBack_X2_giveBack : GoodIn wsX0_takeBack wsX2_giveBack := goodIn_r _ [8, 9, 10, 11, 12, 13, 14, 15, 16, 17, 18, 19, 20, 24, 25, 26, 27, 28, 29, 30, 31, 32, 33, 34, 35, 36, 37, 38] (by decide +kernel) (by decide +kernel)
set_option maxRecDepth 20000 in
theorem gX0_takeBack_X2_giveBack : GoodIn wsX0_takeBack (wsV RX0 31 RX2 yX2_giveBack wsX2_giveBack) := goodIn_app (goodIn_of _ (by decide +kernel)) ggX0_takeBack_X2_giveBack
theorem dX0_takeBack_0 : decode cX0_takeBack 0 = .ok (.aload_n 0, 1) := by decide +kernel
theorem dX0_takeBack_1 : decode cX0_takeBack 1 = .ok (.aload_n 0, 1) := by decide +kernel
theorem dX0_takeBack_2 : decode cX0_takeBack 2 = .ok (.getfield 17, 3) := by decide +kernel
theorem dX0_takeBack_5 : decode cX0_takeBack 5 = .ok (.bipush 24, 2) := by decide +kernel
theorem dX0_takeBack_7 : decode cX0_takeBack 7 = .ok (.iadd, 1) := by decide +kernel
theorem dX0_takeBack_8 : decode cX0_takeBack 8 = .ok (.iconst 1, 1) := by decide +kernel
theorem dX0_takeBack_9 : decode cX0_takeBack 9 = .ok (.isub, 1) := by decide +kernel
theorem dX0_takeBack_10 : decode cX0_takeBack 10 = .ok (.bipush 24, 2) := by decide +kernel
theorem dX0_takeBack_12 : decode cX0_takeBack 12 = .ok (.irem, 1) := by decide +kernel
theorem dX0_takeBack_13 : decode cX0_takeBack 13 = .ok (.putfield 17, 3) := by decide +kernel
theorem dX0_takeBack_16 : decode cX0_takeBack 16 = .ok (.aload_n 0, 1) := by decide +kernel
theorem dX0_takeBack_17 : decode cX0_takeBack 17 = .ok (.dup, 1) := by decide +kernel
theorem dX0_takeBack_18 : decode cX0_takeBack 18 = .ok (.getfield 21, 3) := by decide +kernel
theorem dX0_takeBack_21 : decode cX0_takeBack 21 = .ok (.iconst 1, 1) := by decide +kernel
theorem dX0_takeBack_22 : decode cX0_takeBack 22 = .ok (.isub, 1) := by decide +kernel
theorem dX0_takeBack_23 : decode cX0_takeBack 23 = .ok (.putfield 21, 3) := by decide +kernel
theorem dX0_takeBack_26 : decode cX0_takeBack 26 = .ok (.aload_n 0, 1) := by decide +kernel
theorem dX0_takeBack_27 : decode cX0_takeBack 27 = .ok (.getfield 11, 3) := by decide +kernel
theorem dX0_takeBack_30 : decode cX0_takeBack 30 = .ok (.aload_n 0, 1) := by decide +kernel
theorem dX0_takeBack_31 : decode cX0_takeBack 31 = .ok (.getfield 17, 3) := by decide +kernel
theorem dX0_takeBack_34 : decode cX0_takeBack 34 = .ok (.aaload, 1) := by decide +kernel
theorem dX0_takeBack_35 : decode cX0_takeBack 35 = .ok (.aload_n 1, 1) := by decide +kernel
theorem dX0_takeBack_36 : decode cX0_takeBack 36 = .ok (.invokevirtual 31, 3) := by decide +kernel
theorem dX0_takeBack_39 : decode cX0_takeBack 39 = .ok (.aload_n 0, 1) := by decide +kernel
theorem dX0_takeBack_40 : decode cX0_takeBack 40 = .ok (.getfield 21, 3) := by decide +kernel
theorem dX0_takeBack_43 : decode cX0_takeBack 43 = .ok (.ireturn, 1) := by decide +kernel
theorem dX0_forget_0 : decode cX0_forget 0 = .ok (.aload_n 0, 1) := by decide +kernel
theorem dX0_forget_1 : decode cX0_forget 1 = .ok (.iconst 0, 1) := by decide +kernel
theorem dX0_forget_2 : decode cX0_forget 2 = .ok (.putfield 21, 3) := by decide +kernel
theorem dX0_forget_5 : decode cX0_forget 5 = .ok (.return_, 1) := by decide +kernel
theorem dX1_init_0 : decode cX1_init 0 = .ok (.aload_n 0, 1) := by decide +kernel
theorem dX1_init_1 : decode cX1_init 1 = .ok (.invokespecial 3, 3) := by decide +kernel
theorem dX1_init_4 : decode cX1_init 4 = .ok (.aload_n 0, 1) := by decide +kernel
theorem dX1_init_5 : decode cX1_init 5 = .ok (.bipush 16, 2) := by decide +kernel
theorem dX1_init_7 : decode cX1_init 7 = .ok (.newarray .int, 2) := by decide +kernel
theorem dX1_init_9 : decode cX1_init 9 = .ok (.putfield 9, 3) := by decide +kernel
theorem dX1_init_12 : decode cX1_init 12 = .ok (.aload_n 0, 1) := by decide +kernel
theorem dX1_init_13 : decode cX1_init 13 = .ok (.iconst 0, 1) := by decide +kernel
theorem dX1_init_14 : decode cX1_init 14 = .ok (.putfield 15, 3) := by decide +kernel
theorem dX1_init_17 : decode cX1_init 17 = .ok (.return_, 1) := by decide +kernel
set_option maxRecDepth 20000 in
theorem ggX1_answer_X1_give : GoodIn wsX1_answer wsX1_give := goodIn_r _ [6, 1, 7, 8, 9, 10, 11, 12, 2, 3, 4, 5, 13, 14, 15, 16, 17, 18, 19, 20, 21, 22, 23] (by decide +kernel) (by decide +kernel)
set_option maxRecDepth 20000 in
theorem gX1_answer_X1_give : GoodIn wsX1_answer (wsV RX1 19 RX1 yX1_give wsX1_give) := goodIn_app (goodIn_of _ (by decide +kernel)) ggX1_answer_X1_give
theorem dX1_answer_0 : decode cX1_answer 0 = .ok (.aload_n 0, 1) := by decide +kernel
theorem dX1_answer_1 : decode cX1_answer 1 = .ok (.iconst 0, 1) := by decide +kernel
theorem dX1_answer_2 : decode cX1_answer 2 = .ok (.putfield 15, 3) := by decide +kernel
theorem dX1_answer_5 : decode cX1_answer 5 = .ok (.aload_n 0, 1) := by decide +kernel
theorem dX1_answer_6 : decode cX1_answer 6 = .ok (.aload_n 1, 1) := by decide +kernel
theorem dX1_answer_7 : decode cX1_answer 7 = .ok (.iload_n 2, 1) := by decide +kernel
theorem dX1_answer_8 : decode cX1_answer 8 = .ok (.iload_n 3, 1) := by decide +kernel
theorem dX1_answer_9 : decode cX1_answer 9 = .ok (.iconst 0, 1) := by decide +kernel
theorem dX1_answer_10 : decode cX1_answer 10 = .ok (.invokevirtual 19, 3) := by decide +kernel
theorem dX1_answer_13 : decode cX1_answer 13 = .ok (.ireturn, 1) := by decide +kernel
set_option maxRecDepth 20000 in
theorem ggX1_give_X1_give : GoodIn wsX1_give wsX1_give := goodIn_r _ [0, 1, 2, 3, 4, 5, 6, 7, 8, 9, 10, 11, 12, 13, 14, 15, 16, 17, 18, 19, 20, 21, 22] (by decide +kernel) (by decide +kernel)
set_option maxRecDepth 20000 in
theorem gX1_give_X1_give : GoodIn wsX1_give (wsV RX1 19 RX1 yX1_give wsX1_give) := goodIn_app (goodIn_of _ (by decide +kernel)) ggX1_give_X1_give
theorem dX1_give_0 : decode cX1_give 0 = .ok (.iload 4, 2) := by decide +kernel
theorem dX1_give_2 : decode cX1_give 2 = .ok (.bipush 16, 2) := by decide +kernel
theorem dX1_give_4 : decode cX1_give 4 = .ok (.if_icmp .lt 5, 3) := by decide +kernel
theorem dX1_give_7 : decode cX1_give 7 = .ok (.iconst 0, 1) := by decide +kernel
theorem dX1_give_8 : decode cX1_give 8 = .ok (.ireturn, 1) := by decide +kernel
theorem dX1_give_9 : decode cX1_give 9 = .ok (.aload_n 0, 1) := by decide +kernel
theorem dX1_give_10 : decode cX1_give 10 = .ok (.getfield 15, 3) := by decide +kernel
theorem dX1_give_13 : decode cX1_give 13 = .ok (.bipush 16, 2) := by decide +kernel
theorem dX1_give_15 : decode cX1_give 15 = .ok (.if_icmp .ge 23, 3) := by decide +kernel
theorem dX1_give_18 : decode cX1_give 18 = .ok (.aload_n 0, 1) := by decide +kernel
theorem dX1_give_19 : decode cX1_give 19 = .ok (.getfield 9, 3) := by decide +kernel
theorem dX1_give_22 : decode cX1_give 22 = .ok (.aload_n 0, 1) := by decide +kernel
theorem dX1_give_23 : decode cX1_give 23 = .ok (.getfield 15, 3) := by decide +kernel
theorem dX1_give_26 : decode cX1_give 26 = .ok (.iload_n 3, 1) := by decide +kernel
theorem dX1_give_27 : decode cX1_give 27 = .ok (.iastore, 1) := by decide +kernel
theorem dX1_give_28 : decode cX1_give 28 = .ok (.aload_n 0, 1) := by decide +kernel
theorem dX1_give_29 : decode cX1_give 29 = .ok (.dup, 1) := by decide +kernel
theorem dX1_give_30 : decode cX1_give 30 = .ok (.getfield 15, 3) := by decide +kernel
theorem dX1_give_33 : decode cX1_give 33 = .ok (.iconst 1, 1) := by decide +kernel
theorem dX1_give_34 : decode cX1_give 34 = .ok (.iadd, 1) := by decide +kernel
theorem dX1_give_35 : decode cX1_give 35 = .ok (.putfield 15, 3) := by decide +kernel
theorem dX1_give_38 : decode cX1_give 38 = .ok (.iload 4, 2) := by decide +kernel
theorem dX1_give_40 : decode cX1_give 40 = .ok (.iconst 1, 1) := by decide +kernel
theorem dX1_give_41 : decode cX1_give 41 = .ok (.iadd, 1) := by decide +kernel
theorem dX1_give_42 : decode cX1_give 42 = .ok (.istore 5, 2) := by decide +kernel
theorem dX1_give_44 : decode cX1_give 44 = .ok (.aload_n 1, 1) := by decide +kernel
theorem dX1_give_45 : decode cX1_give 45 = .ok (.getfield 23, 3) := by decide +kernel
theorem dX1_give_48 : decode cX1_give 48 = .ok (.iload_n 2, 1) := by decide +kernel
theorem dX1_give_49 : decode cX1_give 49 = .ok (.iaload, 1) := by decide +kernel
theorem dX1_give_50 : decode cX1_give 50 = .ok (.istore 6, 2) := by decide +kernel
theorem dX1_give_52 : decode cX1_give 52 = .ok (.iload_n 3, 1) := by decide +kernel
theorem dX1_give_53 : decode cX1_give 53 = .ok (.tableswitch 221 10 24 #[75, 82, 108, 120, 134, 221, 221, 221, 221, 221, 147, 149, 167, 182, 208], 75) := by decide +kernel
theorem dX1_give_128 : decode cX1_give 128 = .ok (.aload_n 1, 1) := by decide +kernel
theorem dX1_give_129 : decode cX1_give 129 = .ok (.getfield 28, 3) := by decide +kernel
theorem dX1_give_132 : decode cX1_give 132 = .ok (.iload_n 2, 1) := by decide +kernel
theorem dX1_give_133 : decode cX1_give 133 = .ok (.iaload, 1) := by decide +kernel
theorem dX1_give_134 : decode cX1_give 134 = .ok (.ireturn, 1) := by decide +kernel
theorem dX1_give_135 : decode cX1_give 135 = .ok (.aload_n 0, 1) := by decide +kernel
theorem dX1_give_136 : decode cX1_give 136 = .ok (.aload_n 1, 1) := by decide +kernel
theorem dX1_give_137 : decode cX1_give 137 = .ok (.iload_n 2, 1) := by decide +kernel
theorem dX1_give_138 : decode cX1_give 138 = .ok (.bipush 10, 2) := by decide +kernel
theorem dX1_give_140 : decode cX1_give 140 = .ok (.iload 5, 2) := by decide +kernel
theorem dX1_give_142 : decode cX1_give 142 = .ok (.invokevirtual 19, 3) := by decide +kernel
theorem dX1_give_145 : decode cX1_give 145 = .ok (.aload_n 0, 1) := by decide +kernel
theorem dX1_give_146 : decode cX1_give 146 = .ok (.aload_n 1, 1) := by decide +kernel
theorem dX1_give_147 : decode cX1_give 147 = .ok (.iload_n 2, 1) := by decide +kernel
theorem dX1_give_148 : decode cX1_give 148 = .ok (.getstatic 31, 3) := by decide +kernel
theorem dX1_give_151 : decode cX1_give 151 = .ok (.iload 6, 2) := by decide +kernel
theorem dX1_give_153 : decode cX1_give 153 = .ok (.iaload, 1) := by decide +kernel
theorem dX1_give_154 : decode cX1_give 154 = .ok (.iload 5, 2) := by decide +kernel
theorem dX1_give_156 : decode cX1_give 156 = .ok (.invokevirtual 19, 3) := by decide +kernel
theorem dX1_give_159 : decode cX1_give 159 = .ok (.iadd, 1) := by decide +kernel
theorem dX1_give_160 : decode cX1_give 160 = .ok (.ireturn, 1) := by decide +kernel
theorem dX1_give_161 : decode cX1_give 161 = .ok (.aload_n 0, 1) := by decide +kernel
theorem dX1_give_162 : decode cX1_give 162 = .ok (.aload_n 1, 1) := by decide +kernel
theorem dX1_give_163 : decode cX1_give 163 = .ok (.iload_n 2, 1) := by decide +kernel
theorem dX1_give_164 : decode cX1_give 164 = .ok (.bipush 11, 2) := by decide +kernel
theorem dX1_give_166 : decode cX1_give 166 = .ok (.iload 5, 2) := by decide +kernel
theorem dX1_give_168 : decode cX1_give 168 = .ok (.invokevirtual 19, 3) := by decide +kernel
theorem dX1_give_171 : decode cX1_give 171 = .ok (.ineg, 1) := by decide +kernel
theorem dX1_give_172 : decode cX1_give 172 = .ok (.ireturn, 1) := by decide +kernel
theorem dX1_give_173 : decode cX1_give 173 = .ok (.aload_n 0, 1) := by decide +kernel
theorem dX1_give_174 : decode cX1_give 174 = .ok (.aload_n 1, 1) := by decide +kernel
theorem dX1_give_175 : decode cX1_give 175 = .ok (.iload_n 2, 1) := by decide +kernel
theorem dX1_give_176 : decode cX1_give 176 = .ok (.bipush 10, 2) := by decide +kernel
theorem dX1_give_178 : decode cX1_give 178 = .ok (.iload 5, 2) := by decide +kernel
theorem dX1_give_180 : decode cX1_give 180 = .ok (.invokevirtual 19, 3) := by decide +kernel
theorem dX1_give_183 : decode cX1_give 183 = .ok (.bipush 100, 2) := by decide +kernel
theorem dX1_give_185 : decode cX1_give 185 = .ok (.isub, 1) := by decide +kernel
theorem dX1_give_186 : decode cX1_give 186 = .ok (.ireturn, 1) := by decide +kernel
theorem dX1_give_187 : decode cX1_give 187 = .ok (.iconst 2, 1) := by decide +kernel
theorem dX1_give_188 : decode cX1_give 188 = .ok (.aload_n 0, 1) := by decide +kernel
theorem dX1_give_189 : decode cX1_give 189 = .ok (.aload_n 1, 1) := by decide +kernel
theorem dX1_give_190 : decode cX1_give 190 = .ok (.iload_n 2, 1) := by decide +kernel
theorem dX1_give_191 : decode cX1_give 191 = .ok (.bipush 13, 2) := by decide +kernel
theorem dX1_give_193 : decode cX1_give 193 = .ok (.iload 5, 2) := by decide +kernel
theorem dX1_give_195 : decode cX1_give 195 = .ok (.invokevirtual 19, 3) := by decide +kernel
theorem dX1_give_198 : decode cX1_give 198 = .ok (.imul, 1) := by decide +kernel
theorem dX1_give_199 : decode cX1_give 199 = .ok (.ireturn, 1) := by decide +kernel
theorem dX1_give_200 : decode cX1_give 200 = .ok (.iload_n 2, 1) := by decide +kernel
theorem dX1_give_201 : decode cX1_give 201 = .ok (.ireturn, 1) := by decide +kernel
theorem dX1_give_202 : decode cX1_give 202 = .ok (.aload_n 0, 1) := by decide +kernel
theorem dX1_give_203 : decode cX1_give 203 = .ok (.aload_n 1, 1) := by decide +kernel
theorem dX1_give_204 : decode cX1_give 204 = .ok (.iload_n 2, 1) := by decide +kernel
theorem dX1_give_205 : decode cX1_give 205 = .ok (.bipush 20, 2) := by decide +kernel
theorem dX1_give_207 : decode cX1_give 207 = .ok (.iload 5, 2) := by decide +kernel
theorem dX1_give_209 : decode cX1_give 209 = .ok (.invokevirtual 19, 3) := by decide +kernel
theorem dX1_give_212 : decode cX1_give 212 = .ok (.aload_n 1, 1) := by decide +kernel
theorem dX1_give_213 : decode cX1_give 213 = .ok (.getfield 34, 3) := by decide +kernel
theorem dX1_give_216 : decode cX1_give 216 = .ok (.iload_n 2, 1) := by decide +kernel
theorem dX1_give_217 : decode cX1_give 217 = .ok (.iaload, 1) := by decide +kernel
theorem dX1_give_218 : decode cX1_give 218 = .ok (.iadd, 1) := by decide +kernel
theorem dX1_give_219 : decode cX1_give 219 = .ok (.ireturn, 1) := by decide +kernel
theorem dX1_give_220 : decode cX1_give 220 = .ok (.aload_n 0, 1) := by decide +kernel
theorem dX1_give_221 : decode cX1_give 221 = .ok (.aload_n 1, 1) := by decide +kernel
theorem dX1_give_222 : decode cX1_give 222 = .ok (.iload_n 2, 1) := by decide +kernel
theorem dX1_give_223 : decode cX1_give 223 = .ok (.bipush 21, 2) := by decide +kernel
theorem dX1_give_225 : decode cX1_give 225 = .ok (.iload 5, 2) := by decide +kernel
theorem dX1_give_227 : decode cX1_give 227 = .ok (.invokevirtual 19, 3) := by decide +kernel
theorem dX1_give_230 : decode cX1_give 230 = .ok (.sipush 1000, 3) := by decide +kernel
theorem dX1_give_233 : decode cX1_give 233 = .ok (.isub, 1) := by decide +kernel
theorem dX1_give_234 : decode cX1_give 234 = .ok (.ireturn, 1) := by decide +kernel
theorem dX1_give_235 : decode cX1_give 235 = .ok (.aload_n 0, 1) := by decide +kernel
theorem dX1_give_236 : decode cX1_give 236 = .ok (.aload_n 1, 1) := by decide +kernel
theorem dX1_give_237 : decode cX1_give 237 = .ok (.iload_n 2, 1) := by decide +kernel
theorem dX1_give_238 : decode cX1_give 238 = .ok (.bipush 20, 2) := by decide +kernel
theorem dX1_give_240 : decode cX1_give 240 = .ok (.iload 5, 2) := by decide +kernel
theorem dX1_give_242 : decode cX1_give 242 = .ok (.invokevirtual 19, 3) := by decide +kernel
theorem dX1_give_245 : decode cX1_give 245 = .ok (.aload_n 0, 1) := by decide +kernel
theorem dX1_give_246 : decode cX1_give 246 = .ok (.aload_n 1, 1) := by decide +kernel
theorem dX1_give_247 : decode cX1_give 247 = .ok (.iload_n 2, 1) := by decide +kernel
theorem dX1_give_248 : decode cX1_give 248 = .ok (.getstatic 37, 3) := by decide +kernel
theorem dX1_give_251 : decode cX1_give 251 = .ok (.iload 6, 2) := by decide +kernel
theorem dX1_give_253 : decode cX1_give 253 = .ok (.iaload, 1) := by decide +kernel
theorem dX1_give_254 : decode cX1_give 254 = .ok (.iload 5, 2) := by decide +kernel
theorem dX1_give_256 : decode cX1_give 256 = .ok (.invokevirtual 19, 3) := by decide +kernel
theorem dX1_give_259 : decode cX1_give 259 = .ok (.isub, 1) := by decide +kernel
theorem dX1_give_260 : decode cX1_give 260 = .ok (.ireturn, 1) := by decide +kernel
theorem dX1_give_261 : decode cX1_give 261 = .ok (.iconst 2, 1) := by decide +kernel
theorem dX1_give_262 : decode cX1_give 262 = .ok (.aload_n 0, 1) := by decide +kernel
theorem dX1_give_263 : decode cX1_give 263 = .ok (.aload_n 1, 1) := by decide +kernel
theorem dX1_give_264 : decode cX1_give 264 = .ok (.iload_n 2, 1) := by decide +kernel
theorem dX1_give_265 : decode cX1_give 265 = .ok (.bipush 21, 2) := by decide +kernel
theorem dX1_give_267 : decode cX1_give 267 = .ok (.iload 5, 2) := by decide +kernel
theorem dX1_give_269 : decode cX1_give 269 = .ok (.invokevirtual 19, 3) := by decide +kernel
theorem dX1_give_272 : decode cX1_give 272 = .ok (.imul, 1) := by decide +kernel
theorem dX1_give_273 : decode cX1_give 273 = .ok (.ireturn, 1) := by decide +kernel
theorem dX1_give_274 : decode cX1_give 274 = .ok (.iconst 0, 1) := by decide +kernel
theorem dX1_give_275 : decode cX1_give 275 = .ok (.ireturn, 1) := by decide +kernel
theorem dX2_init_0 : decode cX2_init 0 = .ok (.aload_n 0, 1) := by decide +kernel
theorem dX2_init_1 : decode cX2_init 1 = .ok (.invokespecial 3, 3) := by decide +kernel
theorem dX2_init_4 : decode cX2_init 4 = .ok (.aload_n 0, 1) := by decide +kernel
theorem dX2_init_5 : decode cX2_init 5 = .ok (.iconst 0, 1) := by decide +kernel
theorem dX2_init_6 : decode cX2_init 6 = .ok (.putfield 9, 3) := by decide +kernel
theorem dX2_init_9 : decode cX2_init 9 = .ok (.aload_n 0, 1) := by decide +kernel
theorem dX2_init_10 : decode cX2_init 10 = .ok (.iconst 0, 1) := by decide +kernel
theorem dX2_init_11 : decode cX2_init 11 = .ok (.putfield 15, 3) := by decide +kernel
theorem dX2_init_14 : decode cX2_init 14 = .ok (.aload_n 0, 1) := by decide +kernel
theorem dX2_init_15 : decode cX2_init 15 = .ok (.iconst 0, 1) := by decide +kernel
theorem dX2_init_16 : decode cX2_init 16 = .ok (.putfield 18, 3) := by decide +kernel
theorem dX2_init_19 : decode cX2_init 19 = .ok (.aload_n 0, 1) := by decide +kernel
theorem dX2_init_20 : decode cX2_init 20 = .ok (.ldc 21, 2) := by decide +kernel
theorem dX2_init_22 : decode cX2_init 22 = .ok (.putfield 22, 3) := by decide +kernel
theorem dX2_init_25 : decode cX2_init 25 = .ok (.aload_n 0, 1) := by decide +kernel
theorem dX2_init_26 : decode cX2_init 26 = .ok (.iconst 0, 1) := by decide +kernel
theorem dX2_init_27 : decode cX2_init 27 = .ok (.putfield 25, 3) := by decide +kernel
theorem dX2_init_30 : decode cX2_init 30 = .ok (.aload_n 0, 1) := by decide +kernel
theorem dX2_init_31 : decode cX2_init 31 = .ok (.iconst 0, 1) := by decide +kernel
theorem dX2_init_32 : decode cX2_init 32 = .ok (.putfield 28, 3) := by decide +kernel
theorem dX2_init_35 : decode cX2_init 35 = .ok (.return_, 1) := by decide +kernel
theorem dX2_keep_0 : decode cX2_keep 0 = .ok (.aload_n 0, 1) := by decide +kernel
theorem dX2_keep_1 : decode cX2_keep 1 = .ok (.aload_n 1, 1) := by decide +kernel
theorem dX2_keep_2 : decode cX2_keep 2 = .ok (.getfield 31, 3) := by decide +kernel
theorem dX2_keep_5 : decode cX2_keep 5 = .ok (.putfield 9, 3) := by decide +kernel
theorem dX2_keep_8 : decode cX2_keep 8 = .ok (.aload_n 0, 1) := by decide +kernel
theorem dX2_keep_9 : decode cX2_keep 9 = .ok (.aload_n 1, 1) := by decide +kernel
theorem dX2_keep_10 : decode cX2_keep 10 = .ok (.getfield 34, 3) := by decide +kernel
theorem dX2_keep_13 : decode cX2_keep 13 = .ok (.putfield 15, 3) := by decide +kernel
theorem dX2_keep_16 : decode cX2_keep 16 = .ok (.aload_n 0, 1) := by decide +kernel
theorem dX2_keep_17 : decode cX2_keep 17 = .ok (.aload_n 1, 1) := by decide +kernel
theorem dX2_keep_18 : decode cX2_keep 18 = .ok (.getfield 35, 3) := by decide +kernel
theorem dX2_keep_21 : decode cX2_keep 21 = .ok (.putfield 18, 3) := by decide +kernel
theorem dX2_keep_24 : decode cX2_keep 24 = .ok (.aload_n 0, 1) := by decide +kernel
theorem dX2_keep_25 : decode cX2_keep 25 = .ok (.iload_n 2, 1) := by decide +kernel
theorem dX2_keep_26 : decode cX2_keep 26 = .ok (.putfield 22, 3) := by decide +kernel
theorem dX2_keep_29 : decode cX2_keep 29 = .ok (.iload_n 2, 1) := by decide +kernel
theorem dX2_keep_30 : decode cX2_keep 30 = .ok (.ldc 21, 2) := by decide +kernel
theorem dX2_keep_32 : decode cX2_keep 32 = .ok (.if_icmp .eq 23, 3) := by decide +kernel
theorem dX2_keep_35 : decode cX2_keep 35 = .ok (.aload_n 0, 1) := by decide +kernel
theorem dX2_keep_36 : decode cX2_keep 36 = .ok (.aload_n 1, 1) := by decide +kernel
theorem dX2_keep_37 : decode cX2_keep 37 = .ok (.getfield 36, 3) := by decide +kernel
theorem dX2_keep_40 : decode cX2_keep 40 = .ok (.iload_n 2, 1) := by decide +kernel
theorem dX2_keep_41 : decode cX2_keep 41 = .ok (.iaload, 1) := by decide +kernel
theorem dX2_keep_42 : decode cX2_keep 42 = .ok (.putfield 25, 3) := by decide +kernel
theorem dX2_keep_45 : decode cX2_keep 45 = .ok (.aload_n 0, 1) := by decide +kernel
theorem dX2_keep_46 : decode cX2_keep 46 = .ok (.aload_n 1, 1) := by decide +kernel
theorem dX2_keep_47 : decode cX2_keep 47 = .ok (.getfield 40, 3) := by decide +kernel
theorem dX2_keep_50 : decode cX2_keep 50 = .ok (.iload_n 2, 1) := by decide +kernel
theorem dX2_keep_51 : decode cX2_keep 51 = .ok (.iaload, 1) := by decide +kernel
theorem dX2_keep_52 : decode cX2_keep 52 = .ok (.putfield 28, 3) := by decide +kernel
theorem dX2_keep_55 : decode cX2_keep 55 = .ok (.return_, 1) := by decide +kernel
theorem dX2_giveBack_0 : decode cX2_giveBack 0 = .ok (.aload_n 1, 1) := by decide +kernel
theorem dX2_giveBack_1 : decode cX2_giveBack 1 = .ok (.aload_n 0, 1) := by decide +kernel
theorem dX2_giveBack_2 : decode cX2_giveBack 2 = .ok (.getfield 9, 3) := by decide +kernel
theorem dX2_giveBack_5 : decode cX2_giveBack 5 = .ok (.putfield 31, 3) := by decide +kernel
theorem dX2_giveBack_8 : decode cX2_giveBack 8 = .ok (.aload_n 1, 1) := by decide +kernel
theorem dX2_giveBack_9 : decode cX2_giveBack 9 = .ok (.aload_n 0, 1) := by decide +kernel
theorem dX2_giveBack_10 : decode cX2_giveBack 10 = .ok (.getfield 15, 3) := by decide +kernel
theorem dX2_giveBack_13 : decode cX2_giveBack 13 = .ok (.putfield 34, 3) := by decide +kernel
theorem dX2_giveBack_16 : decode cX2_giveBack 16 = .ok (.aload_n 1, 1) := by decide +kernel
theorem dX2_giveBack_17 : decode cX2_giveBack 17 = .ok (.aload_n 0, 1) := by decide +kernel
theorem dX2_giveBack_18 : decode cX2_giveBack 18 = .ok (.getfield 18, 3) := by decide +kernel
theorem dX2_giveBack_21 : decode cX2_giveBack 21 = .ok (.putfield 35, 3) := by decide +kernel
theorem dX2_giveBack_24 : decode cX2_giveBack 24 = .ok (.aload_n 0, 1) := by decide +kernel
theorem dX2_giveBack_25 : decode cX2_giveBack 25 = .ok (.getfield 22, 3) := by decide +kernel
theorem dX2_giveBack_28 : decode cX2_giveBack 28 = .ok (.ldc 21, 2) := by decide +kernel
theorem dX2_giveBack_30 : decode cX2_giveBack 30 = .ok (.if_icmp .eq 29, 3) := by decide +kernel
theorem dX2_giveBack_33 : decode cX2_giveBack 33 = .ok (.aload_n 1, 1) := by decide +kernel
theorem dX2_giveBack_34 : decode cX2_giveBack 34 = .ok (.getfield 36, 3) := by decide +kernel
theorem dX2_giveBack_37 : decode cX2_giveBack 37 = .ok (.aload_n 0, 1) := by decide +kernel
theorem dX2_giveBack_38 : decode cX2_giveBack 38 = .ok (.getfield 22, 3) := by decide +kernel
theorem dX2_giveBack_41 : decode cX2_giveBack 41 = .ok (.aload_n 0, 1) := by decide +kernel
theorem dX2_giveBack_42 : decode cX2_giveBack 42 = .ok (.getfield 25, 3) := by decide +kernel
theorem dX2_giveBack_45 : decode cX2_giveBack 45 = .ok (.iastore, 1) := by decide +kernel
theorem dX2_giveBack_46 : decode cX2_giveBack 46 = .ok (.aload_n 1, 1) := by decide +kernel
theorem dX2_giveBack_47 : decode cX2_giveBack 47 = .ok (.getfield 40, 3) := by decide +kernel
theorem dX2_giveBack_50 : decode cX2_giveBack 50 = .ok (.aload_n 0, 1) := by decide +kernel
theorem dX2_giveBack_51 : decode cX2_giveBack 51 = .ok (.getfield 22, 3) := by decide +kernel
theorem dX2_giveBack_54 : decode cX2_giveBack 54 = .ok (.aload_n 0, 1) := by decide +kernel
theorem dX2_giveBack_55 : decode cX2_giveBack 55 = .ok (.getfield 28, 3) := by decide +kernel
theorem dX2_giveBack_58 : decode cX2_giveBack 58 = .ok (.iastore, 1) := by decide +kernel
theorem dX2_giveBack_59 : decode cX2_giveBack 59 = .ok (.return_, 1) := by decide +kernel
theorem dX3_init_0 : decode cX3_init 0 = .ok (.aload_n 0, 1) := by decide +kernel
theorem dX3_init_1 : decode cX3_init 1 = .ok (.invokespecial 3, 3) := by decide +kernel
theorem dX3_init_4 : decode cX3_init 4 = .ok (.aload_n 0, 1) := by decide +kernel
theorem dX3_init_5 : decode cX3_init 5 = .ok (.bipush 7, 2) := by decide +kernel
theorem dX3_init_7 : decode cX3_init 7 = .ok (.newarray .int, 2) := by decide +kernel
theorem dX3_init_9 : decode cX3_init 9 = .ok (.putfield 9, 3) := by decide +kernel
theorem dX3_init_12 : decode cX3_init 12 = .ok (.aload_n 0, 1) := by decide +kernel
theorem dX3_init_13 : decode cX3_init 13 = .ok (.bipush 7, 2) := by decide +kernel
theorem dX3_init_15 : decode cX3_init 15 = .ok (.newarray .int, 2) := by decide +kernel
theorem dX3_init_17 : decode cX3_init 17 = .ok (.putfield 15, 3) := by decide +kernel
theorem dX3_init_20 : decode cX3_init 20 = .ok (.aload_n 0, 1) := by decide +kernel
theorem dX3_init_21 : decode cX3_init 21 = .ok (.bipush 7, 2) := by decide +kernel
theorem dX3_init_23 : decode cX3_init 23 = .ok (.newarray .int, 2) := by decide +kernel
theorem dX3_init_25 : decode cX3_init 25 = .ok (.putfield 18, 3) := by decide +kernel
theorem dX3_init_28 : decode cX3_init 28 = .ok (.aload_n 0, 1) := by decide +kernel
theorem dX3_init_29 : decode cX3_init 29 = .ok (.bipush 7, 2) := by decide +kernel
theorem dX3_init_31 : decode cX3_init 31 = .ok (.newarray .int, 2) := by decide +kernel
theorem dX3_init_33 : decode cX3_init 33 = .ok (.putfield 21, 3) := by decide +kernel
theorem dX3_init_36 : decode cX3_init 36 = .ok (.aload_n 0, 1) := by decide +kernel
theorem dX3_init_37 : decode cX3_init 37 = .ok (.iconst 0, 1) := by decide +kernel
theorem dX3_init_38 : decode cX3_init 38 = .ok (.putfield 24, 3) := by decide +kernel
theorem dX3_init_41 : decode cX3_init 41 = .ok (.aload_n 0, 1) := by decide +kernel
theorem dX3_init_42 : decode cX3_init 42 = .ok (.iconst 0, 1) := by decide +kernel
theorem dX3_init_43 : decode cX3_init 43 = .ok (.putfield 28, 3) := by decide +kernel
theorem dX3_init_46 : decode cX3_init 46 = .ok (.aload_n 0, 1) := by decide +kernel
theorem dX3_init_47 : decode cX3_init 47 = .ok (.iconst 0, 1) := by decide +kernel
theorem dX3_init_48 : decode cX3_init 48 = .ok (.putfield 31, 3) := by decide +kernel
theorem dX3_init_51 : decode cX3_init 51 = .ok (.aload_n 0, 1) := by decide +kernel
theorem dX3_init_52 : decode cX3_init 52 = .ok (.iconst 0, 1) := by decide +kernel
theorem dX3_init_53 : decode cX3_init 53 = .ok (.putfield 34, 3) := by decide +kernel
theorem dX3_init_56 : decode cX3_init 56 = .ok (.aload_n 0, 1) := by decide +kernel
theorem dX3_init_57 : decode cX3_init 57 = .ok (.iconst 0, 1) := by decide +kernel
theorem dX3_init_58 : decode cX3_init 58 = .ok (.putfield 37, 3) := by decide +kernel
theorem dX3_init_61 : decode cX3_init 61 = .ok (.return_, 1) := by decide +kernel
theorem dX3_begin_0 : decode cX3_begin 0 = .ok (.aload_n 0, 1) := by decide +kernel
theorem dX3_begin_1 : decode cX3_begin 1 = .ok (.iconst 0, 1) := by decide +kernel
theorem dX3_begin_2 : decode cX3_begin 2 = .ok (.putfield 24, 3) := by decide +kernel
theorem dX3_begin_5 : decode cX3_begin 5 = .ok (.aload_n 0, 1) := by decide +kernel
theorem dX3_begin_6 : decode cX3_begin 6 = .ok (.iconst 0, 1) := by decide +kernel
theorem dX3_begin_7 : decode cX3_begin 7 = .ok (.putfield 37, 3) := by decide +kernel
theorem dX3_begin_10 : decode cX3_begin 10 = .ok (.aload_n 0, 1) := by decide +kernel
theorem dX3_begin_11 : decode cX3_begin 11 = .ok (.iload_n 1, 1) := by decide +kernel
theorem dX3_begin_12 : decode cX3_begin 12 = .ok (.putfield 28, 3) := by decide +kernel
theorem dX3_begin_15 : decode cX3_begin 15 = .ok (.aload_n 0, 1) := by decide +kernel
theorem dX3_begin_16 : decode cX3_begin 16 = .ok (.iload_n 2, 1) := by decide +kernel
theorem dX3_begin_17 : decode cX3_begin 17 = .ok (.putfield 31, 3) := by decide +kernel
theorem dX3_begin_20 : decode cX3_begin 20 = .ok (.aload_n 0, 1) := by decide +kernel
theorem dX3_begin_21 : decode cX3_begin 21 = .ok (.iload_n 3, 1) := by decide +kernel
theorem dX3_begin_22 : decode cX3_begin 22 = .ok (.putfield 34, 3) := by decide +kernel
theorem dX3_begin_25 : decode cX3_begin 25 = .ok (.return_, 1) := by decide +kernel
set_option maxRecDepth 20000 in
theorem ggX3_add_X3_lay : GoodIn wsX3_add wsX3_lay := goodIn_r _ [8, 9, 10, 11, 12, 13, 14, 15, 16, 17, 18, 19, 7, 20, 2, 21, 22, 23, 24, 25, 26, 27, 28, 29] (by decide +kernel) (by decide +kernel)
set_option maxRecDepth 20000 in
theorem gX3_add_X3_lay : GoodIn wsX3_add (wsV RX3 40 RX3 yX3_lay wsX3_lay) := goodIn_app (goodIn_of _ (by decide +kernel)) ggX3_add_X3_lay
theorem dX3_add_0 : decode cX3_add 0 = .ok (.aload_n 0, 1) := by decide +kernel
theorem dX3_add_1 : decode cX3_add 1 = .ok (.getfield 9, 3) := by decide +kernel
theorem dX3_add_4 : decode cX3_add 4 = .ok (.aload_n 0, 1) := by decide +kernel
theorem dX3_add_5 : decode cX3_add 5 = .ok (.getfield 24, 3) := by decide +kernel
theorem dX3_add_8 : decode cX3_add 8 = .ok (.iload_n 1, 1) := by decide +kernel
theorem dX3_add_9 : decode cX3_add 9 = .ok (.iastore, 1) := by decide +kernel
theorem dX3_add_10 : decode cX3_add 10 = .ok (.aload_n 0, 1) := by decide +kernel
theorem dX3_add_11 : decode cX3_add 11 = .ok (.getfield 15, 3) := by decide +kernel
theorem dX3_add_14 : decode cX3_add 14 = .ok (.aload_n 0, 1) := by decide +kernel
theorem dX3_add_15 : decode cX3_add 15 = .ok (.getfield 24, 3) := by decide +kernel
theorem dX3_add_18 : decode cX3_add 18 = .ok (.iload_n 2, 1) := by decide +kernel
theorem dX3_add_19 : decode cX3_add 19 = .ok (.iastore, 1) := by decide +kernel
theorem dX3_add_20 : decode cX3_add 20 = .ok (.aload_n 0, 1) := by decide +kernel
theorem dX3_add_21 : decode cX3_add 21 = .ok (.aload_n 0, 1) := by decide +kernel
theorem dX3_add_22 : decode cX3_add 22 = .ok (.getfield 24, 3) := by decide +kernel
theorem dX3_add_25 : decode cX3_add 25 = .ok (.iload_n 3, 1) := by decide +kernel
theorem dX3_add_26 : decode cX3_add 26 = .ok (.invokevirtual 40, 3) := by decide +kernel
theorem dX3_add_29 : decode cX3_add 29 = .ok (.aload_n 0, 1) := by decide +kernel
theorem dX3_add_30 : decode cX3_add 30 = .ok (.dup, 1) := by decide +kernel
theorem dX3_add_31 : decode cX3_add 31 = .ok (.getfield 24, 3) := by decide +kernel
theorem dX3_add_34 : decode cX3_add 34 = .ok (.iconst 1, 1) := by decide +kernel
theorem dX3_add_35 : decode cX3_add 35 = .ok (.iadd, 1) := by decide +kernel
theorem dX3_add_36 : decode cX3_add 36 = .ok (.putfield 24, 3) := by decide +kernel
theorem dX3_add_39 : decode cX3_add 39 = .ok (.return_, 1) := by decide +kernel
theorem dX3_become_0 : decode cX3_become 0 = .ok (.aload_n 1, 1) := by decide +kernel
theorem dX3_become_1 : decode cX3_become 1 = .ok (.getfield 9, 3) := by decide +kernel
theorem dX3_become_4 : decode cX3_become 4 = .ok (.iconst 0, 1) := by decide +kernel
theorem dX3_become_5 : decode cX3_become 5 = .ok (.aload_n 0, 1) := by decide +kernel
theorem dX3_become_6 : decode cX3_become 6 = .ok (.getfield 9, 3) := by decide +kernel
theorem dX3_become_9 : decode cX3_become 9 = .ok (.iconst 0, 1) := by decide +kernel
theorem dX3_become_10 : decode cX3_become 10 = .ok (.bipush 7, 2) := by decide +kernel
theorem dX3_become_12 : decode cX3_become 12 = .ok (.invokestatic 44, 3) := by decide +kernel
theorem dX3_become_15 : decode cX3_become 15 = .ok (.aload_n 1, 1) := by decide +kernel
theorem dX3_become_16 : decode cX3_become 16 = .ok (.getfield 15, 3) := by decide +kernel
theorem dX3_become_19 : decode cX3_become 19 = .ok (.iconst 0, 1) := by decide +kernel
theorem dX3_become_20 : decode cX3_become 20 = .ok (.aload_n 0, 1) := by decide +kernel
theorem dX3_become_21 : decode cX3_become 21 = .ok (.getfield 15, 3) := by decide +kernel
theorem dX3_become_24 : decode cX3_become 24 = .ok (.iconst 0, 1) := by decide +kernel
theorem dX3_become_25 : decode cX3_become 25 = .ok (.bipush 7, 2) := by decide +kernel
theorem dX3_become_27 : decode cX3_become 27 = .ok (.invokestatic 44, 3) := by decide +kernel
theorem dX3_become_30 : decode cX3_become 30 = .ok (.aload_n 1, 1) := by decide +kernel
theorem dX3_become_31 : decode cX3_become 31 = .ok (.getfield 18, 3) := by decide +kernel
theorem dX3_become_34 : decode cX3_become 34 = .ok (.iconst 0, 1) := by decide +kernel
theorem dX3_become_35 : decode cX3_become 35 = .ok (.aload_n 0, 1) := by decide +kernel
theorem dX3_become_36 : decode cX3_become 36 = .ok (.getfield 18, 3) := by decide +kernel
theorem dX3_become_39 : decode cX3_become 39 = .ok (.iconst 0, 1) := by decide +kernel
theorem dX3_become_40 : decode cX3_become 40 = .ok (.bipush 7, 2) := by decide +kernel
theorem dX3_become_42 : decode cX3_become 42 = .ok (.invokestatic 44, 3) := by decide +kernel
theorem dX3_become_45 : decode cX3_become 45 = .ok (.aload_n 1, 1) := by decide +kernel
theorem dX3_become_46 : decode cX3_become 46 = .ok (.getfield 21, 3) := by decide +kernel
theorem dX3_become_49 : decode cX3_become 49 = .ok (.iconst 0, 1) := by decide +kernel
theorem dX3_become_50 : decode cX3_become 50 = .ok (.aload_n 0, 1) := by decide +kernel
theorem dX3_become_51 : decode cX3_become 51 = .ok (.getfield 21, 3) := by decide +kernel
theorem dX3_become_54 : decode cX3_become 54 = .ok (.iconst 0, 1) := by decide +kernel
theorem dX3_become_55 : decode cX3_become 55 = .ok (.bipush 7, 2) := by decide +kernel
theorem dX3_become_57 : decode cX3_become 57 = .ok (.invokestatic 44, 3) := by decide +kernel
theorem dX3_become_60 : decode cX3_become 60 = .ok (.aload_n 0, 1) := by decide +kernel
theorem dX3_become_61 : decode cX3_become 61 = .ok (.aload_n 1, 1) := by decide +kernel
theorem dX3_become_62 : decode cX3_become 62 = .ok (.getfield 24, 3) := by decide +kernel
theorem dX3_become_65 : decode cX3_become 65 = .ok (.putfield 24, 3) := by decide +kernel
theorem dX3_become_68 : decode cX3_become 68 = .ok (.aload_n 0, 1) := by decide +kernel
theorem dX3_become_69 : decode cX3_become 69 = .ok (.aload_n 1, 1) := by decide +kernel
theorem dX3_become_70 : decode cX3_become 70 = .ok (.getfield 28, 3) := by decide +kernel
theorem dX3_become_73 : decode cX3_become 73 = .ok (.putfield 28, 3) := by decide +kernel
theorem dX3_become_76 : decode cX3_become 76 = .ok (.aload_n 0, 1) := by decide +kernel
theorem dX3_become_77 : decode cX3_become 77 = .ok (.aload_n 1, 1) := by decide +kernel
theorem dX3_become_78 : decode cX3_become 78 = .ok (.getfield 31, 3) := by decide +kernel
theorem dX3_become_81 : decode cX3_become 81 = .ok (.putfield 31, 3) := by decide +kernel
theorem dX3_become_84 : decode cX3_become 84 = .ok (.aload_n 0, 1) := by decide +kernel
theorem dX3_become_85 : decode cX3_become 85 = .ok (.aload_n 1, 1) := by decide +kernel
theorem dX3_become_86 : decode cX3_become 86 = .ok (.getfield 34, 3) := by decide +kernel
theorem dX3_become_89 : decode cX3_become 89 = .ok (.putfield 34, 3) := by decide +kernel
theorem dX3_become_92 : decode cX3_become 92 = .ok (.aload_n 0, 1) := by decide +kernel
theorem dX3_become_93 : decode cX3_become 93 = .ok (.aload_n 1, 1) := by decide +kernel
theorem dX3_become_94 : decode cX3_become 94 = .ok (.getfield 37, 3) := by decide +kernel
theorem dX3_become_97 : decode cX3_become 97 = .ok (.putfield 37, 3) := by decide +kernel
theorem dX3_become_100 : decode cX3_become 100 = .ok (.return_, 1) := by decide +kernel
theorem dX3_gripAhead_0 : decode cX3_gripAhead 0 = .ok (.aload_n 0, 1) := by decide +kernel
theorem dX3_gripAhead_1 : decode cX3_gripAhead 1 = .ok (.getfield 34, 3) := by decide +kernel
theorem dX3_gripAhead_4 : decode cX3_gripAhead 4 = .ok (.ifCond .le 26, 3) := by decide +kernel
theorem dX3_gripAhead_7 : decode cX3_gripAhead 7 = .ok (.aload_n 0, 1) := by decide +kernel
theorem dX3_gripAhead_8 : decode cX3_gripAhead 8 = .ok (.getfield 37, 3) := by decide +kernel
theorem dX3_gripAhead_11 : decode cX3_gripAhead 11 = .ok (.iconst 1, 1) := by decide +kernel
theorem dX3_gripAhead_12 : decode cX3_gripAhead 12 = .ok (.iadd, 1) := by decide +kernel
theorem dX3_gripAhead_13 : decode cX3_gripAhead 13 = .ok (.iload_n 1, 1) := by decide +kernel
theorem dX3_gripAhead_14 : decode cX3_gripAhead 14 = .ok (.iadd, 1) := by decide +kernel
theorem dX3_gripAhead_15 : decode cX3_gripAhead 15 = .ok (.aload_n 0, 1) := by decide +kernel
theorem dX3_gripAhead_16 : decode cX3_gripAhead 16 = .ok (.getfield 34, 3) := by decide +kernel
theorem dX3_gripAhead_19 : decode cX3_gripAhead 19 = .ok (.irem, 1) := by decide +kernel
theorem dX3_gripAhead_20 : decode cX3_gripAhead 20 = .ok (.ifCond .ne 10, 3) := by decide +kernel
theorem dX3_gripAhead_23 : decode cX3_gripAhead 23 = .ok (.aload_n 0, 1) := by decide +kernel
theorem dX3_gripAhead_24 : decode cX3_gripAhead 24 = .ok (.getfield 31, 3) := by decide +kernel
theorem dX3_gripAhead_27 : decode cX3_gripAhead 27 = .ok (.goto 7, 3) := by decide +kernel
theorem dX3_gripAhead_30 : decode cX3_gripAhead 30 = .ok (.aload_n 0, 1) := by decide +kernel
theorem dX3_gripAhead_31 : decode cX3_gripAhead 31 = .ok (.getfield 28, 3) := by decide +kernel
theorem dX3_gripAhead_34 : decode cX3_gripAhead 34 = .ok (.ireturn, 1) := by decide +kernel
theorem dX3_need_0 : decode cX3_need 0 = .ok (.aload_n 0, 1) := by decide +kernel
theorem dX3_need_1 : decode cX3_need 1 = .ok (.getfield 9, 3) := by decide +kernel
theorem dX3_need_4 : decode cX3_need 4 = .ok (.iload_n 1, 1) := by decide +kernel
theorem dX3_need_5 : decode cX3_need 5 = .ok (.iaload, 1) := by decide +kernel
theorem dX3_need_6 : decode cX3_need 6 = .ok (.lookupswitch 46 #[(2, 26), (3, 35)], 26) := by decide +kernel
theorem dX3_need_32 : decode cX3_need 32 = .ok (.aload_n 0, 1) := by decide +kernel
theorem dX3_need_33 : decode cX3_need 33 = .ok (.getfield 15, 3) := by decide +kernel
theorem dX3_need_36 : decode cX3_need 36 = .ok (.iload_n 1, 1) := by decide +kernel
theorem dX3_need_37 : decode cX3_need 37 = .ok (.iaload, 1) := by decide +kernel
theorem dX3_need_38 : decode cX3_need 38 = .ok (.iconst 2, 1) := by decide +kernel
theorem dX3_need_39 : decode cX3_need 39 = .ok (.iadd, 1) := by decide +kernel
theorem dX3_need_40 : decode cX3_need 40 = .ok (.ireturn, 1) := by decide +kernel
theorem dX3_need_41 : decode cX3_need 41 = .ok (.aload_n 0, 1) := by decide +kernel
theorem dX3_need_42 : decode cX3_need 42 = .ok (.getfield 15, 3) := by decide +kernel
theorem dX3_need_45 : decode cX3_need 45 = .ok (.iload_n 1, 1) := by decide +kernel
theorem dX3_need_46 : decode cX3_need 46 = .ok (.iaload, 1) := by decide +kernel
theorem dX3_need_47 : decode cX3_need 47 = .ok (.iconst 2, 1) := by decide +kernel
theorem dX3_need_48 : decode cX3_need 48 = .ok (.idiv, 1) := by decide +kernel
theorem dX3_need_49 : decode cX3_need 49 = .ok (.iconst 1, 1) := by decide +kernel
theorem dX3_need_50 : decode cX3_need 50 = .ok (.iadd, 1) := by decide +kernel
theorem dX3_need_51 : decode cX3_need 51 = .ok (.ireturn, 1) := by decide +kernel
theorem dX3_need_52 : decode cX3_need 52 = .ok (.aload_n 0, 1) := by decide +kernel
theorem dX3_need_53 : decode cX3_need 53 = .ok (.getfield 15, 3) := by decide +kernel
theorem dX3_need_56 : decode cX3_need 56 = .ok (.iload_n 1, 1) := by decide +kernel
theorem dX3_need_57 : decode cX3_need 57 = .ok (.iaload, 1) := by decide +kernel
theorem dX3_need_58 : decode cX3_need 58 = .ok (.ireturn, 1) := by decide +kernel
theorem dX3_howMany_0 : decode cX3_howMany 0 = .ok (.iconst 0, 1) := by decide +kernel
theorem dX3_howMany_1 : decode cX3_howMany 1 = .ok (.istore_n 2, 1) := by decide +kernel
theorem dX3_howMany_2 : decode cX3_howMany 2 = .ok (.iconst 0, 1) := by decide +kernel
theorem dX3_howMany_3 : decode cX3_howMany 3 = .ok (.istore_n 3, 1) := by decide +kernel
theorem dX3_howMany_4 : decode cX3_howMany 4 = .ok (.iload_n 3, 1) := by decide +kernel
theorem dX3_howMany_5 : decode cX3_howMany 5 = .ok (.aload_n 0, 1) := by decide +kernel
theorem dX3_howMany_6 : decode cX3_howMany 6 = .ok (.getfield 24, 3) := by decide +kernel
theorem dX3_howMany_9 : decode cX3_howMany 9 = .ok (.if_icmp .ge 22, 3) := by decide +kernel
theorem dX3_howMany_12 : decode cX3_howMany 12 = .ok (.aload_n 0, 1) := by decide +kernel
theorem dX3_howMany_13 : decode cX3_howMany 13 = .ok (.getfield 18, 3) := by decide +kernel
theorem dX3_howMany_16 : decode cX3_howMany 16 = .ok (.iload_n 3, 1) := by decide +kernel
theorem dX3_howMany_17 : decode cX3_howMany 17 = .ok (.iaload, 1) := by decide +kernel
theorem dX3_howMany_18 : decode cX3_howMany 18 = .ok (.iload_n 1, 1) := by decide +kernel
theorem dX3_howMany_19 : decode cX3_howMany 19 = .ok (.if_icmp .ne 6, 3) := by decide +kernel
theorem dX3_howMany_22 : decode cX3_howMany 22 = .ok (.iinc 2 1, 3) := by decide +kernel
theorem dX3_howMany_25 : decode cX3_howMany 25 = .ok (.iinc 3 1, 3) := by decide +kernel
theorem dX3_howMany_28 : decode cX3_howMany 28 = .ok (.goto (-24), 3) := by decide +kernel
theorem dX3_howMany_31 : decode cX3_howMany 31 = .ok (.iload_n 2, 1) := by decide +kernel
theorem dX3_howMany_32 : decode cX3_howMany 32 = .ok (.ireturn, 1) := by decide +kernel
theorem dX3_toysAt_0 : decode cX3_toysAt 0 = .ok (.iconst 0, 1) := by decide +kernel
theorem dX3_toysAt_1 : decode cX3_toysAt 1 = .ok (.istore_n 2, 1) := by decide +kernel
theorem dX3_toysAt_2 : decode cX3_toysAt 2 = .ok (.iconst 0, 1) := by decide +kernel
theorem dX3_toysAt_3 : decode cX3_toysAt 3 = .ok (.istore_n 3, 1) := by decide +kernel
theorem dX3_toysAt_4 : decode cX3_toysAt 4 = .ok (.iload_n 3, 1) := by decide +kernel
theorem dX3_toysAt_5 : decode cX3_toysAt 5 = .ok (.aload_n 0, 1) := by decide +kernel
theorem dX3_toysAt_6 : decode cX3_toysAt 6 = .ok (.getfield 24, 3) := by decide +kernel
theorem dX3_toysAt_9 : decode cX3_toysAt 9 = .ok (.if_icmp .ge 25, 3) := by decide +kernel
theorem dX3_toysAt_12 : decode cX3_toysAt 12 = .ok (.aload_n 0, 1) := by decide +kernel
theorem dX3_toysAt_13 : decode cX3_toysAt 13 = .ok (.getfield 18, 3) := by decide +kernel
theorem dX3_toysAt_16 : decode cX3_toysAt 16 = .ok (.iload_n 3, 1) := by decide +kernel
theorem dX3_toysAt_17 : decode cX3_toysAt 17 = .ok (.iaload, 1) := by decide +kernel
theorem dX3_toysAt_18 : decode cX3_toysAt 18 = .ok (.iload_n 1, 1) := by decide +kernel
theorem dX3_toysAt_19 : decode cX3_toysAt 19 = .ok (.if_icmp .ne 9, 3) := by decide +kernel
theorem dX3_toysAt_22 : decode cX3_toysAt 22 = .ok (.iload_n 2, 1) := by decide +kernel
theorem dX3_toysAt_23 : decode cX3_toysAt 23 = .ok (.iconst 1, 1) := by decide +kernel
theorem dX3_toysAt_24 : decode cX3_toysAt 24 = .ok (.iload_n 3, 1) := by decide +kernel
theorem dX3_toysAt_25 : decode cX3_toysAt 25 = .ok (.ishl, 1) := by decide +kernel
theorem dX3_toysAt_26 : decode cX3_toysAt 26 = .ok (.ior, 1) := by decide +kernel
theorem dX3_toysAt_27 : decode cX3_toysAt 27 = .ok (.istore_n 2, 1) := by decide +kernel
theorem dX3_toysAt_28 : decode cX3_toysAt 28 = .ok (.iinc 3 1, 3) := by decide +kernel
theorem dX3_toysAt_31 : decode cX3_toysAt 31 = .ok (.goto (-27), 3) := by decide +kernel
theorem dX3_toysAt_34 : decode cX3_toysAt 34 = .ok (.iload_n 2, 1) := by decide +kernel
theorem dX3_toysAt_35 : decode cX3_toysAt 35 = .ok (.ireturn, 1) := by decide +kernel
theorem dX3_uppermost_0 : decode cX3_uppermost 0 = .ok (.ldc 50, 2) := by decide +kernel
theorem dX3_uppermost_2 : decode cX3_uppermost 2 = .ok (.istore_n 2, 1) := by decide +kernel
theorem dX3_uppermost_3 : decode cX3_uppermost 3 = .ok (.iconst 0, 1) := by decide +kernel
theorem dX3_uppermost_4 : decode cX3_uppermost 4 = .ok (.istore_n 3, 1) := by decide +kernel
theorem dX3_uppermost_5 : decode cX3_uppermost 5 = .ok (.iload_n 3, 1) := by decide +kernel
theorem dX3_uppermost_6 : decode cX3_uppermost 6 = .ok (.aload_n 0, 1) := by decide +kernel
theorem dX3_uppermost_7 : decode cX3_uppermost 7 = .ok (.getfield 24, 3) := by decide +kernel
theorem dX3_uppermost_10 : decode cX3_uppermost 10 = .ok (.if_icmp .ge 42, 3) := by decide +kernel
theorem dX3_uppermost_13 : decode cX3_uppermost 13 = .ok (.aload_n 0, 1) := by decide +kernel
theorem dX3_uppermost_14 : decode cX3_uppermost 14 = .ok (.getfield 18, 3) := by decide +kernel
theorem dX3_uppermost_17 : decode cX3_uppermost 17 = .ok (.iload_n 3, 1) := by decide +kernel
theorem dX3_uppermost_18 : decode cX3_uppermost 18 = .ok (.iaload, 1) := by decide +kernel
theorem dX3_uppermost_19 : decode cX3_uppermost 19 = .ok (.iload_n 1, 1) := by decide +kernel
theorem dX3_uppermost_20 : decode cX3_uppermost 20 = .ok (.if_icmp .ne 26, 3) := by decide +kernel
theorem dX3_uppermost_23 : decode cX3_uppermost 23 = .ok (.iload_n 2, 1) := by decide +kernel
theorem dX3_uppermost_24 : decode cX3_uppermost 24 = .ok (.ldc 50, 2) := by decide +kernel
theorem dX3_uppermost_26 : decode cX3_uppermost 26 = .ok (.if_icmp .eq 18, 3) := by decide +kernel
theorem dX3_uppermost_29 : decode cX3_uppermost 29 = .ok (.aload_n 0, 1) := by decide +kernel
theorem dX3_uppermost_30 : decode cX3_uppermost 30 = .ok (.getfield 21, 3) := by decide +kernel
theorem dX3_uppermost_33 : decode cX3_uppermost 33 = .ok (.iload_n 3, 1) := by decide +kernel
theorem dX3_uppermost_34 : decode cX3_uppermost 34 = .ok (.iaload, 1) := by decide +kernel
theorem dX3_uppermost_35 : decode cX3_uppermost 35 = .ok (.aload_n 0, 1) := by decide +kernel
theorem dX3_uppermost_36 : decode cX3_uppermost 36 = .ok (.getfield 21, 3) := by decide +kernel
theorem dX3_uppermost_39 : decode cX3_uppermost 39 = .ok (.iload_n 2, 1) := by decide +kernel
theorem dX3_uppermost_40 : decode cX3_uppermost 40 = .ok (.iaload, 1) := by decide +kernel
theorem dX3_uppermost_41 : decode cX3_uppermost 41 = .ok (.if_icmp .le 5, 3) := by decide +kernel
theorem dX3_uppermost_44 : decode cX3_uppermost 44 = .ok (.iload_n 3, 1) := by decide +kernel
theorem dX3_uppermost_45 : decode cX3_uppermost 45 = .ok (.istore_n 2, 1) := by decide +kernel
theorem dX3_uppermost_46 : decode cX3_uppermost 46 = .ok (.iinc 3 1, 3) := by decide +kernel
theorem dX3_uppermost_49 : decode cX3_uppermost 49 = .ok (.goto (-44), 3) := by decide +kernel
theorem dX3_uppermost_52 : decode cX3_uppermost 52 = .ok (.iload_n 2, 1) := by decide +kernel
theorem dX3_uppermost_53 : decode cX3_uppermost 53 = .ok (.ireturn, 1) := by decide +kernel
set_option maxRecDepth 20000 in
theorem ggX3_above_X7_isColumn : GoodIn wsX3_above wsX7_isColumn := goodIn_r _ [5, 6, 7, 4, 8] (by decide +kernel) (by decide +kernel)
set_option maxRecDepth 20000 in
theorem gX3_above_X7_isColumn_n51 : GoodIn wsX3_above (wsX7_isColumn) := ggX3_above_X7_isColumn
set_option maxRecDepth 20000 in
theorem ggX3_above_X3_howMany : GoodIn wsX3_above wsX3_howMany := goodIn_r _ [13, 14, 1, 15, 16, 17, 18, 19, 20, 21, 22, 23] (by decide +kernel) (by decide +kernel)
set_option maxRecDepth 20000 in
theorem gX3_above_X3_howMany : GoodIn wsX3_above (wsV RX3 55 RX3 yX3_howMany wsX3_howMany) := goodIn_app (goodIn_of _ (by decide +kernel)) ggX3_above_X3_howMany
theorem dX3_above_0 : decode cX3_above 0 = .ok (.aload_n 0, 1) := by decide +kernel
theorem dX3_above_1 : decode cX3_above 1 = .ok (.getfield 18, 3) := by decide +kernel
theorem dX3_above_4 : decode cX3_above 4 = .ok (.iload_n 1, 1) := by decide +kernel
theorem dX3_above_5 : decode cX3_above 5 = .ok (.iaload, 1) := by decide +kernel
theorem dX3_above_6 : decode cX3_above 6 = .ok (.invokestatic 51, 3) := by decide +kernel
theorem dX3_above_9 : decode cX3_above 9 = .ok (.ifCond .eq 25, 3) := by decide +kernel
theorem dX3_above_12 : decode cX3_above 12 = .ok (.aload_n 0, 1) := by decide +kernel
theorem dX3_above_13 : decode cX3_above 13 = .ok (.aload_n 0, 1) := by decide +kernel
theorem dX3_above_14 : decode cX3_above 14 = .ok (.getfield 18, 3) := by decide +kernel
theorem dX3_above_17 : decode cX3_above 17 = .ok (.iload_n 1, 1) := by decide +kernel
theorem dX3_above_18 : decode cX3_above 18 = .ok (.iaload, 1) := by decide +kernel
theorem dX3_above_19 : decode cX3_above 19 = .ok (.invokevirtual 55, 3) := by decide +kernel
theorem dX3_above_22 : decode cX3_above 22 = .ok (.iconst 1, 1) := by decide +kernel
theorem dX3_above_23 : decode cX3_above 23 = .ok (.isub, 1) := by decide +kernel
theorem dX3_above_24 : decode cX3_above 24 = .ok (.aload_n 0, 1) := by decide +kernel
theorem dX3_above_25 : decode cX3_above 25 = .ok (.getfield 21, 3) := by decide +kernel
theorem dX3_above_28 : decode cX3_above 28 = .ok (.iload_n 1, 1) := by decide +kernel
theorem dX3_above_29 : decode cX3_above 29 = .ok (.iaload, 1) := by decide +kernel
theorem dX3_above_30 : decode cX3_above 30 = .ok (.isub, 1) := by decide +kernel
theorem dX3_above_31 : decode cX3_above 31 = .ok (.goto 4, 3) := by decide +kernel
theorem dX3_above_34 : decode cX3_above 34 = .ok (.iconst 0, 1) := by decide +kernel
theorem dX3_above_35 : decode cX3_above 35 = .ok (.ireturn, 1) := by decide +kernel
set_option maxRecDepth 20000 in
theorem ggX3_lay_X7_isColumn : GoodIn wsX3_lay wsX7_isColumn := goodIn_r _ [5, 6, 7, 4, 8] (by decide +kernel) (by decide +kernel)
set_option maxRecDepth 20000 in
theorem gX3_lay_X7_isColumn_n51 : GoodIn wsX3_lay (wsX7_isColumn) := ggX3_lay_X7_isColumn
set_option maxRecDepth 20000 in
theorem ggX3_lay_X3_howMany : GoodIn wsX3_lay wsX3_howMany := goodIn_r _ [13, 14, 2, 15, 16, 17, 18, 19, 20, 21, 22, 23] (by decide +kernel) (by decide +kernel)
set_option maxRecDepth 20000 in
theorem gX3_lay_X3_howMany : GoodIn wsX3_lay (wsV RX3 55 RX3 yX3_howMany wsX3_howMany) := goodIn_app (goodIn_of _ (by decide +kernel)) ggX3_lay_X3_howMany
theorem dX3_lay_0 : decode cX3_lay 0 = .ok (.aload_n 0, 1) := by decide +kernel
theorem dX3_lay_1 : decode cX3_lay 1 = .ok (.getfield 21, 3) := by decide +kernel
theorem dX3_lay_4 : decode cX3_lay 4 = .ok (.iload_n 1, 1) := by decide +kernel
theorem dX3_lay_5 : decode cX3_lay 5 = .ok (.iload_n 2, 1) := by decide +kernel
theorem dX3_lay_6 : decode cX3_lay 6 = .ok (.invokestatic 51, 3) := by decide +kernel
theorem dX3_lay_9 : decode cX3_lay 9 = .ok (.ifCond .eq 11, 3) := by decide +kernel
theorem dX3_lay_12 : decode cX3_lay 12 = .ok (.aload_n 0, 1) := by decide +kernel
theorem dX3_lay_13 : decode cX3_lay 13 = .ok (.iload_n 2, 1) := by decide +kernel
theorem dX3_lay_14 : decode cX3_lay 14 = .ok (.invokevirtual 55, 3) := by decide +kernel
theorem dX3_lay_17 : decode cX3_lay 17 = .ok (.goto 4, 3) := by decide +kernel
theorem dX3_lay_20 : decode cX3_lay 20 = .ok (.iconst 0, 1) := by decide +kernel
theorem dX3_lay_21 : decode cX3_lay 21 = .ok (.iastore, 1) := by decide +kernel
theorem dX3_lay_22 : decode cX3_lay 22 = .ok (.aload_n 0, 1) := by decide +kernel
theorem dX3_lay_23 : decode cX3_lay 23 = .ok (.getfield 18, 3) := by decide +kernel
theorem dX3_lay_26 : decode cX3_lay 26 = .ok (.iload_n 1, 1) := by decide +kernel
theorem dX3_lay_27 : decode cX3_lay 27 = .ok (.iload_n 2, 1) := by decide +kernel
theorem dX3_lay_28 : decode cX3_lay 28 = .ok (.iastore, 1) := by decide +kernel
theorem dX3_lay_29 : decode cX3_lay 29 = .ok (.return_, 1) := by decide +kernel
set_option maxRecDepth 20000 in
theorem ggX3_playAt_X3_uppermost : GoodIn wsX3_playAt wsX3_uppermost := goodIn_r _ [7, 2, 8, 9, 10, 59, 60, 61, 62, 63, 64, 65, 66, 67] (by decide +kernel) (by decide +kernel)
set_option maxRecDepth 20000 in
theorem gX3_playAt_X3_uppermost : GoodIn wsX3_playAt (wsV RX3 59 RX3 yX3_uppermost wsX3_uppermost) := goodIn_app (goodIn_of _ (by decide +kernel)) ggX3_playAt_X3_uppermost
set_option maxRecDepth 20000 in
theorem ggX3_playAt_X2_keep : GoodIn wsX3_playAt wsX2_keep := goodIn_r _ [15, 16, 17, 18, 19, 20, 21, 22, 23, 24, 25, 26, 27, 59, 60, 61, 62, 63, 64, 65, 66, 67, 68, 69, 70, 71, 72, 73] (by decide +kernel) (by decide +kernel)
set_option maxRecDepth 20000 in
theorem gX3_playAt_X2_keep : GoodIn wsX3_playAt (wsV RX3 62 RX2 yX2_keep wsX2_keep) := goodIn_app (goodIn_of _ (by decide +kernel)) ggX3_playAt_X2_keep
set_option maxRecDepth 20000 in
theorem ggX3_playAt_X3_landing : GoodIn wsX3_playAt wsX3_landing := goodIn_r _ [31, 32, 33, 34, 35, 6, 36, 37, 38, 39, 40, 41, 42, 43, 44, 45, 46, 47, 48, 49, 8, 9, 59, 60, 61, 62, 63, 64, 65, 66, 67] (by decide +kernel) (by decide +kernel)
set_option maxRecDepth 20000 in
theorem gX3_playAt_X3_landing : GoodIn wsX3_playAt (wsV RX3 68 RX3 yX3_landing wsX3_landing) := goodIn_app (goodIn_of _ (by decide +kernel)) ggX3_playAt_X3_landing
set_option maxRecDepth 20000 in
theorem ggX3_playAt_X3_lay : GoodIn wsX3_playAt wsX3_lay := goodIn_r _ [53, 10, 9, 54, 39, 55, 56, 57, 58, 46, 47, 48, 6, 49, 8, 59, 60, 61, 62, 63, 64, 65, 66, 67] (by decide +kernel) (by decide +kernel)
set_option maxRecDepth 20000 in
theorem gX3_playAt_X3_lay : GoodIn wsX3_playAt (wsV RX3 40 RX3 yX3_lay wsX3_lay) := goodIn_app (goodIn_of _ (by decide +kernel)) ggX3_playAt_X3_lay
theorem dX3_playAt_0 : decode cX3_playAt 0 = .ok (.aload_n 0, 1) := by decide +kernel
theorem dX3_playAt_1 : decode cX3_playAt 1 = .ok (.iload_n 1, 1) := by decide +kernel
theorem dX3_playAt_2 : decode cX3_playAt 2 = .ok (.invokevirtual 59, 3) := by decide +kernel
theorem dX3_playAt_5 : decode cX3_playAt 5 = .ok (.istore 4, 2) := by decide +kernel
theorem dX3_playAt_7 : decode cX3_playAt 7 = .ok (.aload_n 3, 1) := by decide +kernel
theorem dX3_playAt_8 : decode cX3_playAt 8 = .ok (.aload_n 0, 1) := by decide +kernel
theorem dX3_playAt_9 : decode cX3_playAt 9 = .ok (.iload 4, 2) := by decide +kernel
theorem dX3_playAt_11 : decode cX3_playAt 11 = .ok (.invokevirtual 62, 3) := by decide +kernel
theorem dX3_playAt_14 : decode cX3_playAt 14 = .ok (.aload_n 0, 1) := by decide +kernel
theorem dX3_playAt_15 : decode cX3_playAt 15 = .ok (.dup, 1) := by decide +kernel
theorem dX3_playAt_16 : decode cX3_playAt 16 = .ok (.getfield 37, 3) := by decide +kernel
theorem dX3_playAt_19 : decode cX3_playAt 19 = .ok (.iconst 1, 1) := by decide +kernel
theorem dX3_playAt_20 : decode cX3_playAt 20 = .ok (.iadd, 1) := by decide +kernel
theorem dX3_playAt_21 : decode cX3_playAt 21 = .ok (.putfield 37, 3) := by decide +kernel
theorem dX3_playAt_24 : decode cX3_playAt 24 = .ok (.iload 4, 2) := by decide +kernel
theorem dX3_playAt_26 : decode cX3_playAt 26 = .ok (.ldc 50, 2) := by decide +kernel
theorem dX3_playAt_28 : decode cX3_playAt 28 = .ok (.if_icmp .ne 6, 3) := by decide +kernel
theorem dX3_playAt_31 : decode cX3_playAt 31 = .ok (.ldc 50, 2) := by decide +kernel
theorem dX3_playAt_33 : decode cX3_playAt 33 = .ok (.ireturn, 1) := by decide +kernel
theorem dX3_playAt_34 : decode cX3_playAt 34 = .ok (.aload_n 0, 1) := by decide +kernel
theorem dX3_playAt_35 : decode cX3_playAt 35 = .ok (.iload 4, 2) := by decide +kernel
theorem dX3_playAt_37 : decode cX3_playAt 37 = .ok (.iload_n 1, 1) := by decide +kernel
theorem dX3_playAt_38 : decode cX3_playAt 38 = .ok (.iload_n 2, 1) := by decide +kernel
theorem dX3_playAt_39 : decode cX3_playAt 39 = .ok (.invokevirtual 68, 3) := by decide +kernel
theorem dX3_playAt_42 : decode cX3_playAt 42 = .ok (.istore 5, 2) := by decide +kernel
theorem dX3_playAt_44 : decode cX3_playAt 44 = .ok (.iload 5, 2) := by decide +kernel
theorem dX3_playAt_46 : decode cX3_playAt 46 = .ok (.iload_n 1, 1) := by decide +kernel
theorem dX3_playAt_47 : decode cX3_playAt 47 = .ok (.if_icmp .eq 11, 3) := by decide +kernel
theorem dX3_playAt_50 : decode cX3_playAt 50 = .ok (.aload_n 0, 1) := by decide +kernel
theorem dX3_playAt_51 : decode cX3_playAt 51 = .ok (.iload 4, 2) := by decide +kernel
theorem dX3_playAt_53 : decode cX3_playAt 53 = .ok (.iload 5, 2) := by decide +kernel
theorem dX3_playAt_55 : decode cX3_playAt 55 = .ok (.invokevirtual 40, 3) := by decide +kernel
theorem dX3_playAt_58 : decode cX3_playAt 58 = .ok (.iload 5, 2) := by decide +kernel
theorem dX3_playAt_60 : decode cX3_playAt 60 = .ok (.ireturn, 1) := by decide +kernel
set_option maxRecDepth 20000 in
theorem ggX3_landing_X3_need : GoodIn wsX3_landing wsX3_need := goodIn_r _ [6, 1, 7, 22, 23, 24, 25, 26, 27, 28, 29, 30] (by decide +kernel) (by decide +kernel)
set_option maxRecDepth 20000 in
theorem gX3_landing_X3_need : GoodIn wsX3_landing (wsV RX3 72 RX3 yX3_need wsX3_need) := goodIn_app (goodIn_of _ (by decide +kernel)) ggX3_landing_X3_need
set_option maxRecDepth 20000 in
theorem ggX3_landing_X7_isOfKind : GoodIn wsX3_landing wsX7_isOfKind := goodIn_r _ [10, 11] (by decide +kernel) (by decide +kernel)
set_option maxRecDepth 20000 in
theorem gX3_landing_X7_isOfKind_n75 : GoodIn wsX3_landing (wsX7_isOfKind) := ggX3_landing_X7_isOfKind
set_option maxRecDepth 20000 in
theorem ggX3_landing_X3_rolling : GoodIn wsX3_landing wsX3_rolling := goodIn_r _ [15, 16, 17, 18, 5, 19, 20, 21, 22, 23, 24, 25, 26, 27, 28, 29, 30] (by decide +kernel) (by decide +kernel)
set_option maxRecDepth 20000 in
theorem gX3_landing_X3_rolling : GoodIn wsX3_landing (wsV RX3 79 RX3 yX3_rolling wsX3_rolling) := goodIn_app (goodIn_of _ (by decide +kernel)) ggX3_landing_X3_rolling
set_option maxRecDepth 20000 in
theorem ggX3_landing_X3_howMany : GoodIn wsX3_landing wsX3_howMany := goodIn_r _ [19, 20, 21, 22, 23, 24, 25, 26, 27, 28, 29, 30] (by decide +kernel) (by decide +kernel)
set_option maxRecDepth 20000 in
theorem gX3_landing_X3_howMany : GoodIn wsX3_landing (wsV RX3 55 RX3 yX3_howMany wsX3_howMany) := goodIn_app (goodIn_of _ (by decide +kernel)) ggX3_landing_X3_howMany
theorem dX3_landing_0 : decode cX3_landing 0 = .ok (.aload_n 0, 1) := by decide +kernel
theorem dX3_landing_1 : decode cX3_landing 1 = .ok (.iload_n 1, 1) := by decide +kernel
theorem dX3_landing_2 : decode cX3_landing 2 = .ok (.invokevirtual 72, 3) := by decide +kernel
theorem dX3_landing_5 : decode cX3_landing 5 = .ok (.istore 4, 2) := by decide +kernel
theorem dX3_landing_7 : decode cX3_landing 7 = .ok (.iload_n 3, 1) := by decide +kernel
theorem dX3_landing_8 : decode cX3_landing 8 = .ok (.iload 4, 2) := by decide +kernel
theorem dX3_landing_10 : decode cX3_landing 10 = .ok (.if_icmp .ge 26, 3) := by decide +kernel
theorem dX3_landing_13 : decode cX3_landing 13 = .ok (.aload_n 0, 1) := by decide +kernel
theorem dX3_landing_14 : decode cX3_landing 14 = .ok (.getfield 9, 3) := by decide +kernel
theorem dX3_landing_17 : decode cX3_landing 17 = .ok (.iload_n 1, 1) := by decide +kernel
theorem dX3_landing_18 : decode cX3_landing 18 = .ok (.iaload, 1) := by decide +kernel
theorem dX3_landing_19 : decode cX3_landing 19 = .ok (.iconst 4, 1) := by decide +kernel
theorem dX3_landing_20 : decode cX3_landing 20 = .ok (.invokestatic 75, 3) := by decide +kernel
theorem dX3_landing_23 : decode cX3_landing 23 = .ok (.ifCond .eq 11, 3) := by decide +kernel
theorem dX3_landing_26 : decode cX3_landing 26 = .ok (.aload_n 0, 1) := by decide +kernel
theorem dX3_landing_27 : decode cX3_landing 27 = .ok (.iload_n 2, 1) := by decide +kernel
theorem dX3_landing_28 : decode cX3_landing 28 = .ok (.invokevirtual 79, 3) := by decide +kernel
theorem dX3_landing_31 : decode cX3_landing 31 = .ok (.goto 4, 3) := by decide +kernel
theorem dX3_landing_34 : decode cX3_landing 34 = .ok (.iload_n 2, 1) := by decide +kernel
theorem dX3_landing_35 : decode cX3_landing 35 = .ok (.ireturn, 1) := by decide +kernel
theorem dX3_landing_36 : decode cX3_landing 36 = .ok (.iload_n 3, 1) := by decide +kernel
theorem dX3_landing_37 : decode cX3_landing 37 = .ok (.istore 5, 2) := by decide +kernel
theorem dX3_landing_39 : decode cX3_landing 39 = .ok (.iload_n 2, 1) := by decide +kernel
theorem dX3_landing_40 : decode cX3_landing 40 = .ok (.iconst 1, 1) := by decide +kernel
theorem dX3_landing_41 : decode cX3_landing 41 = .ok (.isub, 1) := by decide +kernel
theorem dX3_landing_42 : decode cX3_landing 42 = .ok (.istore 6, 2) := by decide +kernel
theorem dX3_landing_44 : decode cX3_landing 44 = .ok (.iload 6, 2) := by decide +kernel
theorem dX3_landing_46 : decode cX3_landing 46 = .ok (.iconst 1, 1) := by decide +kernel
theorem dX3_landing_47 : decode cX3_landing 47 = .ok (.if_icmp .lt 46, 3) := by decide +kernel
theorem dX3_landing_50 : decode cX3_landing 50 = .ok (.iinc 5 (-1), 3) := by decide +kernel
theorem dX3_landing_53 : decode cX3_landing 53 = .ok (.iload 5, 2) := by decide +kernel
theorem dX3_landing_55 : decode cX3_landing 55 = .ok (.iload 4, 2) := by decide +kernel
theorem dX3_landing_57 : decode cX3_landing 57 = .ok (.if_icmp .ge 30, 3) := by decide +kernel
theorem dX3_landing_60 : decode cX3_landing 60 = .ok (.aload_n 0, 1) := by decide +kernel
theorem dX3_landing_61 : decode cX3_landing 61 = .ok (.getfield 9, 3) := by decide +kernel
theorem dX3_landing_64 : decode cX3_landing 64 = .ok (.iload_n 1, 1) := by decide +kernel
theorem dX3_landing_65 : decode cX3_landing 65 = .ok (.iaload, 1) := by decide +kernel
theorem dX3_landing_66 : decode cX3_landing 66 = .ok (.iconst 5, 1) := by decide +kernel
theorem dX3_landing_67 : decode cX3_landing 67 = .ok (.if_icmp .ne 17, 3) := by decide +kernel
theorem dX3_landing_70 : decode cX3_landing 70 = .ok (.aload_n 0, 1) := by decide +kernel
theorem dX3_landing_71 : decode cX3_landing 71 = .ok (.iload 6, 2) := by decide +kernel
theorem dX3_landing_73 : decode cX3_landing 73 = .ok (.invokevirtual 55, 3) := by decide +kernel
theorem dX3_landing_76 : decode cX3_landing 76 = .ok (.ifCond .ne 8, 3) := by decide +kernel
theorem dX3_landing_79 : decode cX3_landing 79 = .ok (.bipush 9, 2) := by decide +kernel
theorem dX3_landing_81 : decode cX3_landing 81 = .ok (.goto 5, 3) := by decide +kernel
theorem dX3_landing_84 : decode cX3_landing 84 = .ok (.iload 6, 2) := by decide +kernel
theorem dX3_landing_86 : decode cX3_landing 86 = .ok (.ireturn, 1) := by decide +kernel
theorem dX3_landing_87 : decode cX3_landing 87 = .ok (.iinc 6 (-1), 3) := by decide +kernel
theorem dX3_landing_90 : decode cX3_landing 90 = .ok (.goto (-46), 3) := by decide +kernel
theorem dX3_landing_93 : decode cX3_landing 93 = .ok (.iconst 0, 1) := by decide +kernel
theorem dX3_landing_94 : decode cX3_landing 94 = .ok (.ireturn, 1) := by decide +kernel
set_option maxRecDepth 20000 in
theorem ggX3_rolling_X3_howMany : GoodIn wsX3_rolling wsX3_howMany := goodIn_r _ [5, 6, 7, 8, 9, 10, 11, 12, 13, 14, 15, 16] (by decide +kernel) (by decide +kernel)
set_option maxRecDepth 20000 in
theorem gX3_rolling_X3_howMany : GoodIn wsX3_rolling (wsV RX3 55 RX3 yX3_howMany wsX3_howMany) := goodIn_app (goodIn_of _ (by decide +kernel)) ggX3_rolling_X3_howMany
theorem dX3_rolling_0 : decode cX3_rolling 0 = .ok (.aload_n 0, 1) := by decide +kernel
theorem dX3_rolling_1 : decode cX3_rolling 1 = .ok (.iload_n 1, 1) := by decide +kernel
theorem dX3_rolling_2 : decode cX3_rolling 2 = .ok (.invokevirtual 55, 3) := by decide +kernel
theorem dX3_rolling_5 : decode cX3_rolling 5 = .ok (.iconst 2, 1) := by decide +kernel
theorem dX3_rolling_6 : decode cX3_rolling 6 = .ok (.isub, 1) := by decide +kernel
theorem dX3_rolling_7 : decode cX3_rolling 7 = .ok (.istore_n 2, 1) := by decide +kernel
theorem dX3_rolling_8 : decode cX3_rolling 8 = .ok (.iload_n 1, 1) := by decide +kernel
theorem dX3_rolling_9 : decode cX3_rolling 9 = .ok (.iconst 1, 1) := by decide +kernel
theorem dX3_rolling_10 : decode cX3_rolling 10 = .ok (.if_icmp .le 18, 3) := by decide +kernel
theorem dX3_rolling_13 : decode cX3_rolling 13 = .ok (.aload_n 0, 1) := by decide +kernel
theorem dX3_rolling_14 : decode cX3_rolling 14 = .ok (.iload_n 1, 1) := by decide +kernel
theorem dX3_rolling_15 : decode cX3_rolling 15 = .ok (.iconst 1, 1) := by decide +kernel
theorem dX3_rolling_16 : decode cX3_rolling 16 = .ok (.isub, 1) := by decide +kernel
theorem dX3_rolling_17 : decode cX3_rolling 17 = .ok (.invokevirtual 55, 3) := by decide +kernel
theorem dX3_rolling_20 : decode cX3_rolling 20 = .ok (.iload_n 2, 1) := by decide +kernel
theorem dX3_rolling_21 : decode cX3_rolling 21 = .ok (.if_icmp .gt 7, 3) := by decide +kernel
theorem dX3_rolling_24 : decode cX3_rolling 24 = .ok (.iload_n 1, 1) := by decide +kernel
theorem dX3_rolling_25 : decode cX3_rolling 25 = .ok (.iconst 1, 1) := by decide +kernel
theorem dX3_rolling_26 : decode cX3_rolling 26 = .ok (.isub, 1) := by decide +kernel
theorem dX3_rolling_27 : decode cX3_rolling 27 = .ok (.ireturn, 1) := by decide +kernel
theorem dX3_rolling_28 : decode cX3_rolling 28 = .ok (.iload_n 1, 1) := by decide +kernel
theorem dX3_rolling_29 : decode cX3_rolling 29 = .ok (.iconst 5, 1) := by decide +kernel
theorem dX3_rolling_30 : decode cX3_rolling 30 = .ok (.if_icmp .ge 18, 3) := by decide +kernel
theorem dX3_rolling_33 : decode cX3_rolling 33 = .ok (.aload_n 0, 1) := by decide +kernel
theorem dX3_rolling_34 : decode cX3_rolling 34 = .ok (.iload_n 1, 1) := by decide +kernel
theorem dX3_rolling_35 : decode cX3_rolling 35 = .ok (.iconst 1, 1) := by decide +kernel
theorem dX3_rolling_36 : decode cX3_rolling 36 = .ok (.iadd, 1) := by decide +kernel
theorem dX3_rolling_37 : decode cX3_rolling 37 = .ok (.invokevirtual 55, 3) := by decide +kernel
theorem dX3_rolling_40 : decode cX3_rolling 40 = .ok (.iload_n 2, 1) := by decide +kernel
theorem dX3_rolling_41 : decode cX3_rolling 41 = .ok (.if_icmp .gt 7, 3) := by decide +kernel
theorem dX3_rolling_44 : decode cX3_rolling 44 = .ok (.iload_n 1, 1) := by decide +kernel
theorem dX3_rolling_45 : decode cX3_rolling 45 = .ok (.iconst 1, 1) := by decide +kernel
theorem dX3_rolling_46 : decode cX3_rolling 46 = .ok (.iadd, 1) := by decide +kernel
theorem dX3_rolling_47 : decode cX3_rolling 47 = .ok (.ireturn, 1) := by decide +kernel
theorem dX3_rolling_48 : decode cX3_rolling 48 = .ok (.iload_n 1, 1) := by decide +kernel
theorem dX3_rolling_49 : decode cX3_rolling 49 = .ok (.ireturn, 1) := by decide +kernel
theorem dX3_wonWeight_0 : decode cX3_wonWeight 0 = .ok (.iconst 0, 1) := by decide +kernel
theorem dX3_wonWeight_1 : decode cX3_wonWeight 1 = .ok (.istore_n 1, 1) := by decide +kernel
theorem dX3_wonWeight_2 : decode cX3_wonWeight 2 = .ok (.iconst 0, 1) := by decide +kernel
theorem dX3_wonWeight_3 : decode cX3_wonWeight 3 = .ok (.istore_n 2, 1) := by decide +kernel
theorem dX3_wonWeight_4 : decode cX3_wonWeight 4 = .ok (.iload_n 2, 1) := by decide +kernel
theorem dX3_wonWeight_5 : decode cX3_wonWeight 5 = .ok (.aload_n 0, 1) := by decide +kernel
theorem dX3_wonWeight_6 : decode cX3_wonWeight 6 = .ok (.getfield 24, 3) := by decide +kernel
theorem dX3_wonWeight_9 : decode cX3_wonWeight 9 = .ok (.if_icmp .ge 27, 3) := by decide +kernel
theorem dX3_wonWeight_12 : decode cX3_wonWeight 12 = .ok (.aload_n 0, 1) := by decide +kernel
theorem dX3_wonWeight_13 : decode cX3_wonWeight 13 = .ok (.getfield 18, 3) := by decide +kernel
theorem dX3_wonWeight_16 : decode cX3_wonWeight 16 = .ok (.iload_n 2, 1) := by decide +kernel
theorem dX3_wonWeight_17 : decode cX3_wonWeight 17 = .ok (.iaload, 1) := by decide +kernel
theorem dX3_wonWeight_18 : decode cX3_wonWeight 18 = .ok (.ifCond .ne 12, 3) := by decide +kernel
theorem dX3_wonWeight_21 : decode cX3_wonWeight 21 = .ok (.iload_n 1, 1) := by decide +kernel
theorem dX3_wonWeight_22 : decode cX3_wonWeight 22 = .ok (.aload_n 0, 1) := by decide +kernel
theorem dX3_wonWeight_23 : decode cX3_wonWeight 23 = .ok (.getfield 15, 3) := by decide +kernel
theorem dX3_wonWeight_26 : decode cX3_wonWeight 26 = .ok (.iload_n 2, 1) := by decide +kernel
theorem dX3_wonWeight_27 : decode cX3_wonWeight 27 = .ok (.iaload, 1) := by decide +kernel
theorem dX3_wonWeight_28 : decode cX3_wonWeight 28 = .ok (.iadd, 1) := by decide +kernel
theorem dX3_wonWeight_29 : decode cX3_wonWeight 29 = .ok (.istore_n 1, 1) := by decide +kernel
theorem dX3_wonWeight_30 : decode cX3_wonWeight 30 = .ok (.iinc 2 1, 3) := by decide +kernel
theorem dX3_wonWeight_33 : decode cX3_wonWeight 33 = .ok (.goto (-29), 3) := by decide +kernel
theorem dX3_wonWeight_36 : decode cX3_wonWeight 36 = .ok (.iload_n 1, 1) := by decide +kernel
theorem dX3_wonWeight_37 : decode cX3_wonWeight 37 = .ok (.ireturn, 1) := by decide +kernel
set_option maxRecDepth 20000 in
theorem ggX3_shareOf_X3_wonWeight : GoodIn wsX3_shareOf wsX3_wonWeight := goodIn_r _ [12, 5, 6, 7, 13, 14, 15, 16, 17, 18, 19, 20, 21] (by decide +kernel) (by decide +kernel)
set_option maxRecDepth 20000 in
theorem gX3_shareOf_X3_wonWeight : GoodIn wsX3_shareOf (wsV RX3 82 RX3 yX3_wonWeight wsX3_wonWeight) := goodIn_app (goodIn_of _ (by decide +kernel)) ggX3_shareOf_X3_wonWeight
theorem dX3_shareOf_0 : decode cX3_shareOf 0 = .ok (.iconst 1, 1) := by decide +kernel
theorem dX3_shareOf_1 : decode cX3_shareOf 1 = .ok (.aload_n 0, 1) := by decide +kernel
theorem dX3_shareOf_2 : decode cX3_shareOf 2 = .ok (.invokevirtual 82, 3) := by decide +kernel
theorem dX3_shareOf_5 : decode cX3_shareOf 5 = .ok (.invokestatic 86, 3) := by decide +kernel
theorem dX3_shareOf_8 : decode cX3_shareOf 8 = .ok (.istore_n 3, 1) := by decide +kernel
theorem dX3_shareOf_9 : decode cX3_shareOf 9 = .ok (.iload_n 2, 1) := by decide +kernel
theorem dX3_shareOf_10 : decode cX3_shareOf 10 = .ok (.istore 4, 2) := by decide +kernel
theorem dX3_shareOf_12 : decode cX3_shareOf 12 = .ok (.iconst 0, 1) := by decide +kernel
theorem dX3_shareOf_13 : decode cX3_shareOf 13 = .ok (.istore 5, 2) := by decide +kernel
theorem dX3_shareOf_15 : decode cX3_shareOf 15 = .ok (.iconst 0, 1) := by decide +kernel
theorem dX3_shareOf_16 : decode cX3_shareOf 16 = .ok (.istore 6, 2) := by decide +kernel
theorem dX3_shareOf_18 : decode cX3_shareOf 18 = .ok (.iload 6, 2) := by decide +kernel
theorem dX3_shareOf_20 : decode cX3_shareOf 20 = .ok (.aload_n 0, 1) := by decide +kernel
theorem dX3_shareOf_21 : decode cX3_shareOf 21 = .ok (.getfield 24, 3) := by decide +kernel
theorem dX3_shareOf_24 : decode cX3_shareOf 24 = .ok (.if_icmp .ge 51, 3) := by decide +kernel
theorem dX3_shareOf_27 : decode cX3_shareOf 27 = .ok (.aload_n 0, 1) := by decide +kernel
theorem dX3_shareOf_28 : decode cX3_shareOf 28 = .ok (.getfield 18, 3) := by decide +kernel
theorem dX3_shareOf_31 : decode cX3_shareOf 31 = .ok (.iload 6, 2) := by decide +kernel
theorem dX3_shareOf_33 : decode cX3_shareOf 33 = .ok (.iaload, 1) := by decide +kernel
theorem dX3_shareOf_34 : decode cX3_shareOf 34 = .ok (.ifCond .ne 35, 3) := by decide +kernel
theorem dX3_shareOf_37 : decode cX3_shareOf 37 = .ok (.iload 4, 2) := by decide +kernel
theorem dX3_shareOf_39 : decode cX3_shareOf 39 = .ok (.iload_n 2, 1) := by decide +kernel
theorem dX3_shareOf_40 : decode cX3_shareOf 40 = .ok (.aload_n 0, 1) := by decide +kernel
theorem dX3_shareOf_41 : decode cX3_shareOf 41 = .ok (.getfield 15, 3) := by decide +kernel
theorem dX3_shareOf_44 : decode cX3_shareOf 44 = .ok (.iload 6, 2) := by decide +kernel
theorem dX3_shareOf_46 : decode cX3_shareOf 46 = .ok (.iaload, 1) := by decide +kernel
theorem dX3_shareOf_47 : decode cX3_shareOf 47 = .ok (.imul, 1) := by decide +kernel
theorem dX3_shareOf_48 : decode cX3_shareOf 48 = .ok (.iload_n 3, 1) := by decide +kernel
theorem dX3_shareOf_49 : decode cX3_shareOf 49 = .ok (.idiv, 1) := by decide +kernel
theorem dX3_shareOf_50 : decode cX3_shareOf 50 = .ok (.isub, 1) := by decide +kernel
theorem dX3_shareOf_51 : decode cX3_shareOf 51 = .ok (.istore 4, 2) := by decide +kernel
theorem dX3_shareOf_53 : decode cX3_shareOf 53 = .ok (.iload 5, 2) := by decide +kernel
theorem dX3_shareOf_55 : decode cX3_shareOf 55 = .ok (.iload 6, 2) := by decide +kernel
theorem dX3_shareOf_57 : decode cX3_shareOf 57 = .ok (.iload_n 1, 1) := by decide +kernel
theorem dX3_shareOf_58 : decode cX3_shareOf 58 = .ok (.if_icmp .ge 7, 3) := by decide +kernel
theorem dX3_shareOf_61 : decode cX3_shareOf 61 = .ok (.iconst 1, 1) := by decide +kernel
theorem dX3_shareOf_62 : decode cX3_shareOf 62 = .ok (.goto 4, 3) := by decide +kernel
theorem dX3_shareOf_65 : decode cX3_shareOf 65 = .ok (.iconst 0, 1) := by decide +kernel
theorem dX3_shareOf_66 : decode cX3_shareOf 66 = .ok (.iadd, 1) := by decide +kernel
theorem dX3_shareOf_67 : decode cX3_shareOf 67 = .ok (.istore 5, 2) := by decide +kernel
theorem dX3_shareOf_69 : decode cX3_shareOf 69 = .ok (.iinc 6 1, 3) := by decide +kernel
theorem dX3_shareOf_72 : decode cX3_shareOf 72 = .ok (.goto (-54), 3) := by decide +kernel
theorem dX3_shareOf_75 : decode cX3_shareOf 75 = .ok (.iload_n 2, 1) := by decide +kernel
theorem dX3_shareOf_76 : decode cX3_shareOf 76 = .ok (.aload_n 0, 1) := by decide +kernel
theorem dX3_shareOf_77 : decode cX3_shareOf 77 = .ok (.getfield 15, 3) := by decide +kernel
theorem dX3_shareOf_80 : decode cX3_shareOf 80 = .ok (.iload_n 1, 1) := by decide +kernel
theorem dX3_shareOf_81 : decode cX3_shareOf 81 = .ok (.iaload, 1) := by decide +kernel
theorem dX3_shareOf_82 : decode cX3_shareOf 82 = .ok (.imul, 1) := by decide +kernel
theorem dX3_shareOf_83 : decode cX3_shareOf 83 = .ok (.iload_n 3, 1) := by decide +kernel
theorem dX3_shareOf_84 : decode cX3_shareOf 84 = .ok (.idiv, 1) := by decide +kernel
theorem dX3_shareOf_85 : decode cX3_shareOf 85 = .ok (.iload 5, 2) := by decide +kernel
theorem dX3_shareOf_87 : decode cX3_shareOf 87 = .ok (.iload 4, 2) := by decide +kernel
theorem dX3_shareOf_89 : decode cX3_shareOf 89 = .ok (.if_icmp .ge 7, 3) := by decide +kernel
theorem dX3_shareOf_92 : decode cX3_shareOf 92 = .ok (.iconst 1, 1) := by decide +kernel
theorem dX3_shareOf_93 : decode cX3_shareOf 93 = .ok (.goto 4, 3) := by decide +kernel
theorem dX3_shareOf_96 : decode cX3_shareOf 96 = .ok (.iconst 0, 1) := by decide +kernel
theorem dX3_shareOf_97 : decode cX3_shareOf 97 = .ok (.iadd, 1) := by decide +kernel
theorem dX3_shareOf_98 : decode cX3_shareOf 98 = .ok (.ireturn, 1) := by decide +kernel
set_option maxRecDepth 20000 in
theorem ggX4_init_X3_init : GoodIn wsX4_init wsX3_init := goodIn_r _ [18, 19, 2, 3, 8, 20, 21, 22, 23, 24, 25, 26, 27, 28, 39, 40, 41, 42, 43, 44, 45, 46, 47] (by decide +kernel) (by decide +kernel)
set_option maxRecDepth 20000 in
theorem gX4_init_X3_init_n11 : GoodIn wsX4_init (wsX3_init) := ggX4_init_X3_init
set_option maxRecDepth 20000 in
theorem ggX4_init_X2_init : GoodIn wsX4_init wsX2_init := goodIn_r _ [30, 31, 2, 3, 32, 33, 34, 35, 36, 37, 38, 54, 55, 56, 57, 58, 59] (by decide +kernel) (by decide +kernel)
set_option maxRecDepth 20000 in
theorem gX4_init_X2_init_n38 : GoodIn wsX4_init (wsX2_init) := ggX4_init_X2_init
theorem dX4_init_0 : decode cX4_init 0 = .ok (.aload_n 0, 1) := by decide +kernel
theorem dX4_init_1 : decode cX4_init 1 = .ok (.invokespecial 3, 3) := by decide +kernel
theorem dX4_init_4 : decode cX4_init 4 = .ok (.aload_n 0, 1) := by decide +kernel
theorem dX4_init_5 : decode cX4_init 5 = .ok (.new 9, 3) := by decide +kernel
theorem dX4_init_8 : decode cX4_init 8 = .ok (.dup, 1) := by decide +kernel
theorem dX4_init_9 : decode cX4_init 9 = .ok (.invokespecial 11, 3) := by decide +kernel
theorem dX4_init_12 : decode cX4_init 12 = .ok (.putfield 12, 3) := by decide +kernel
theorem dX4_init_15 : decode cX4_init 15 = .ok (.aload_n 0, 1) := by decide +kernel
theorem dX4_init_16 : decode cX4_init 16 = .ok (.iconst 4, 1) := by decide +kernel
theorem dX4_init_17 : decode cX4_init 17 = .ok (.newarray .int, 2) := by decide +kernel
theorem dX4_init_19 : decode cX4_init 19 = .ok (.putfield 18, 3) := by decide +kernel
theorem dX4_init_22 : decode cX4_init 22 = .ok (.aload_n 0, 1) := by decide +kernel
theorem dX4_init_23 : decode cX4_init 23 = .ok (.iconst 4, 1) := by decide +kernel
theorem dX4_init_24 : decode cX4_init 24 = .ok (.newarray .int, 2) := by decide +kernel
theorem dX4_init_26 : decode cX4_init 26 = .ok (.putfield 22, 3) := by decide +kernel
theorem dX4_init_29 : decode cX4_init 29 = .ok (.aload_n 0, 1) := by decide +kernel
theorem dX4_init_30 : decode cX4_init 30 = .ok (.iconst 0, 1) := by decide +kernel
theorem dX4_init_31 : decode cX4_init 31 = .ok (.putfield 25, 3) := by decide +kernel
theorem dX4_init_34 : decode cX4_init 34 = .ok (.aload_n 0, 1) := by decide +kernel
theorem dX4_init_35 : decode cX4_init 35 = .ok (.iconst 0, 1) := by decide +kernel
theorem dX4_init_36 : decode cX4_init 36 = .ok (.putfield 29, 3) := by decide +kernel
theorem dX4_init_39 : decode cX4_init 39 = .ok (.aload_n 0, 1) := by decide +kernel
theorem dX4_init_40 : decode cX4_init 40 = .ok (.bipush 8, 2) := by decide +kernel
theorem dX4_init_42 : decode cX4_init 42 = .ok (.anewarray 32, 3) := by decide +kernel
theorem dX4_init_45 : decode cX4_init 45 = .ok (.putfield 34, 3) := by decide +kernel
theorem dX4_init_48 : decode cX4_init 48 = .ok (.iconst 0, 1) := by decide +kernel
theorem dX4_init_49 : decode cX4_init 49 = .ok (.istore_n 1, 1) := by decide +kernel
theorem dX4_init_50 : decode cX4_init 50 = .ok (.iload_n 1, 1) := by decide +kernel
theorem dX4_init_51 : decode cX4_init 51 = .ok (.bipush 8, 2) := by decide +kernel
theorem dX4_init_53 : decode cX4_init 53 = .ok (.if_icmp .ge 22, 3) := by decide +kernel
theorem dX4_init_56 : decode cX4_init 56 = .ok (.aload_n 0, 1) := by decide +kernel
theorem dX4_init_57 : decode cX4_init 57 = .ok (.getfield 34, 3) := by decide +kernel
theorem dX4_init_60 : decode cX4_init 60 = .ok (.iload_n 1, 1) := by decide +kernel
theorem dX4_init_61 : decode cX4_init 61 = .ok (.new 32, 3) := by decide +kernel
theorem dX4_init_64 : decode cX4_init 64 = .ok (.dup, 1) := by decide +kernel
theorem dX4_init_65 : decode cX4_init 65 = .ok (.invokespecial 38, 3) := by decide +kernel
theorem dX4_init_68 : decode cX4_init 68 = .ok (.aastore, 1) := by decide +kernel
theorem dX4_init_69 : decode cX4_init 69 = .ok (.iinc 1 1, 3) := by decide +kernel
theorem dX4_init_72 : decode cX4_init 72 = .ok (.goto (-22), 3) := by decide +kernel
theorem dX4_init_75 : decode cX4_init 75 = .ok (.return_, 1) := by decide +kernel
set_option maxRecDepth 20000 in
theorem ggX4_fewestPlays_X3_become : GoodIn wsX4_fewestPlays wsX3_become := goodIn_r _ [7, 8, 9, 10, 11, 12, 13, 14, 15, 16, 17, 18, 19, 20, 98, 99, 100, 101, 102, 103, 104, 105, 106] (by decide +kernel) (by decide +kernel)
set_option maxRecDepth 20000 in
theorem gX4_fewestPlays_X3_become : GoodIn wsX4_fewestPlays (wsV RX4 39 RX3 yX3_become wsX3_become) := goodIn_app (goodIn_of _ (by decide +kernel)) ggX4_fewestPlays_X3_become
set_option maxRecDepth 20000 in
theorem ggX4_fewestPlays_X4_winsWithin : GoodIn wsX4_fewestPlays wsX4_winsWithin := goodIn_r _ [25, 1, 26, 27, 28, 29, 30, 31, 6, 32, 19, 20, 18, 17, 33, 34, 35, 36, 37, 38, 39, 40, 41, 16, 14, 15, 42, 43, 44, 45, 46, 47, 48, 49, 50, 51, 52, 53, 54, 55, 56, 57, 58, 59, 60, 61, 62, 8, 63, 64, 65, 66, 13, 67, 68, 69, 70, 71, 72, 73, 74, 75, 76, 77, 78, 79, 80, 81, 82, 83, 84, 85, 86, 87, 21, 22, 23, 24, 88, 89, 90, 91, 92, 93, 94, 95, 96, 97, 98, 99, 100, 101, 102, 103, 104, 105, 106, 107, 108, 109, 110, 111, 112] (by decide +kernel) (by decide +kernel)
set_option maxRecDepth 20000 in
theorem gX4_fewestPlays_X4_winsWithin : GoodIn wsX4_fewestPlays (wsV RX4 43 RX4 yX4_winsWithin wsX4_winsWithin) := goodIn_app (goodIn_of _ (by decide +kernel)) ggX4_fewestPlays_X4_winsWithin
theorem dX4_fewestPlays_0 : decode cX4_fewestPlays 0 = .ok (.aload_n 0, 1) := by decide +kernel
theorem dX4_fewestPlays_1 : decode cX4_fewestPlays 1 = .ok (.getfield 12, 3) := by decide +kernel
theorem dX4_fewestPlays_4 : decode cX4_fewestPlays 4 = .ok (.aload_n 1, 1) := by decide +kernel
theorem dX4_fewestPlays_5 : decode cX4_fewestPlays 5 = .ok (.invokevirtual 39, 3) := by decide +kernel
theorem dX4_fewestPlays_8 : decode cX4_fewestPlays 8 = .ok (.iconst 0, 1) := by decide +kernel
theorem dX4_fewestPlays_9 : decode cX4_fewestPlays 9 = .ok (.istore_n 3, 1) := by decide +kernel
theorem dX4_fewestPlays_10 : decode cX4_fewestPlays 10 = .ok (.iload_n 3, 1) := by decide +kernel
theorem dX4_fewestPlays_11 : decode cX4_fewestPlays 11 = .ok (.iconst 4, 1) := by decide +kernel
theorem dX4_fewestPlays_12 : decode cX4_fewestPlays 12 = .ok (.if_icmp .gt 21, 3) := by decide +kernel
theorem dX4_fewestPlays_15 : decode cX4_fewestPlays 15 = .ok (.aload_n 0, 1) := by decide +kernel
theorem dX4_fewestPlays_16 : decode cX4_fewestPlays 16 = .ok (.iload_n 2, 1) := by decide +kernel
theorem dX4_fewestPlays_17 : decode cX4_fewestPlays 17 = .ok (.iconst 0, 1) := by decide +kernel
theorem dX4_fewestPlays_18 : decode cX4_fewestPlays 18 = .ok (.iload_n 3, 1) := by decide +kernel
theorem dX4_fewestPlays_19 : decode cX4_fewestPlays 19 = .ok (.invokevirtual 43, 3) := by decide +kernel
theorem dX4_fewestPlays_22 : decode cX4_fewestPlays 22 = .ok (.ifCond .eq 5, 3) := by decide +kernel
theorem dX4_fewestPlays_25 : decode cX4_fewestPlays 25 = .ok (.iload_n 3, 1) := by decide +kernel
theorem dX4_fewestPlays_26 : decode cX4_fewestPlays 26 = .ok (.ireturn, 1) := by decide +kernel
theorem dX4_fewestPlays_27 : decode cX4_fewestPlays 27 = .ok (.iinc 3 1, 3) := by decide +kernel
theorem dX4_fewestPlays_30 : decode cX4_fewestPlays 30 = .ok (.goto (-20), 3) := by decide +kernel
theorem dX4_fewestPlays_33 : decode cX4_fewestPlays 33 = .ok (.ldc 47, 2) := by decide +kernel
theorem dX4_fewestPlays_35 : decode cX4_fewestPlays 35 = .ok (.ireturn, 1) := by decide +kernel
set_option maxRecDepth 20000 in
theorem ggX4_winsWithin_X3_gripAhead : GoodIn wsX4_winsWithin wsX3_gripAhead := goodIn_r _ [9, 10, 11, 12, 13, 88, 89, 90, 91, 92, 93, 94, 95, 96] (by decide +kernel) (by decide +kernel)
set_option maxRecDepth 20000 in
theorem gX4_winsWithin_X3_gripAhead : GoodIn wsX4_winsWithin (wsV RX4 51 RX3 yX3_gripAhead wsX3_gripAhead) := goodIn_app (goodIn_of _ (by decide +kernel)) ggX4_winsWithin_X3_gripAhead
set_option maxRecDepth 20000 in
theorem ggX4_winsWithin_X3_playAt : GoodIn wsX4_winsWithin wsX3_playAt := goodIn_r _ [17, 11, 18, 19, 20, 21, 8, 22, 23, 24, 25, 26, 27, 28, 29, 30, 31, 32, 33, 34, 35, 36, 37, 38, 39, 40, 41, 42, 43, 44, 45, 46, 47, 48, 49, 50, 51, 52, 53, 54, 55, 56, 57, 58, 59, 60, 61, 62, 63, 64, 65, 66, 67, 68, 69, 70, 71, 72, 73, 88, 89, 90, 91, 92, 93, 94, 95, 96, 97, 98, 99, 100, 101, 102] (by decide +kernel) (by decide +kernel)
set_option maxRecDepth 20000 in
theorem gX4_winsWithin_X3_playAt : GoodIn wsX4_winsWithin (wsV RX4 55 RX3 yX3_playAt wsX3_playAt) := goodIn_app (goodIn_of _ (by decide +kernel)) ggX4_winsWithin_X3_playAt
set_option maxRecDepth 20000 in
theorem ggX4_winsWithin_X4_winsWithin : GoodIn wsX4_winsWithin wsX4_winsWithin := goodIn_r _ [0, 1, 2, 3, 4, 5, 6, 7, 8, 9, 10, 11, 12, 13, 14, 15, 16, 17, 18, 19, 20, 21, 22, 23, 24, 25, 26, 27, 28, 29, 30, 31, 32, 33, 34, 35, 36, 37, 38, 39, 40, 41, 42, 43, 44, 45, 46, 47, 48, 49, 50, 51, 52, 53, 54, 55, 56, 57, 58, 59, 60, 61, 62, 63, 64, 65, 66, 67, 68, 69, 70, 71, 72, 73, 74, 75, 76, 77, 78, 79, 80, 81, 82, 83, 84, 85, 86, 87, 88, 89, 90, 91, 92, 93, 94, 95, 96, 97, 98, 99, 100, 101, 102] (by decide +kernel) (by decide +kernel)
set_option maxRecDepth 20000 in
theorem gX4_winsWithin_X4_winsWithin : GoodIn wsX4_winsWithin (wsV RX4 43 RX4 yX4_winsWithin wsX4_winsWithin) := goodIn_app (goodIn_of _ (by decide +kernel)) ggX4_winsWithin_X4_winsWithin
set_option maxRecDepth 20000 in
theorem ggX4_winsWithin_X2_giveBack : GoodIn wsX4_winsWithin wsX2_giveBack := goodIn_r _ [81, 32, 31, 34, 33, 36, 35, 37, 38, 39, 40, 41, 42, 97, 98, 99, 100, 101, 102, 88, 89, 90, 91, 92, 93, 94, 95, 96] (by decide +kernel) (by decide +kernel)
set_option maxRecDepth 20000 in
theorem gX4_winsWithin_X2_giveBack : GoodIn wsX4_winsWithin (wsV RX4 59 RX2 yX2_giveBack wsX2_giveBack) := goodIn_app (goodIn_of _ (by decide +kernel)) ggX4_winsWithin_X2_giveBack
theorem dX4_winsWithin_0 : decode cX4_winsWithin 0 = .ok (.iload_n 2, 1) := by decide +kernel
theorem dX4_winsWithin_1 : decode cX4_winsWithin 1 = .ok (.iload_n 3, 1) := by decide +kernel
theorem dX4_winsWithin_2 : decode cX4_winsWithin 2 = .ok (.if_icmp .lt 21, 3) := by decide +kernel
theorem dX4_winsWithin_5 : decode cX4_winsWithin 5 = .ok (.aload_n 0, 1) := by decide +kernel
theorem dX4_winsWithin_6 : decode cX4_winsWithin 6 = .ok (.getfield 12, 3) := by decide +kernel
theorem dX4_winsWithin_9 : decode cX4_winsWithin 9 = .ok (.getfield 48, 3) := by decide +kernel
theorem dX4_winsWithin_12 : decode cX4_winsWithin 12 = .ok (.iload_n 1, 1) := by decide +kernel
theorem dX4_winsWithin_13 : decode cX4_winsWithin 13 = .ok (.iaload, 1) := by decide +kernel
theorem dX4_winsWithin_14 : decode cX4_winsWithin 14 = .ok (.ifCond .ne 7, 3) := by decide +kernel
theorem dX4_winsWithin_17 : decode cX4_winsWithin 17 = .ok (.iconst 1, 1) := by decide +kernel
theorem dX4_winsWithin_18 : decode cX4_winsWithin 18 = .ok (.goto 4, 3) := by decide +kernel
theorem dX4_winsWithin_21 : decode cX4_winsWithin 21 = .ok (.iconst 0, 1) := by decide +kernel
theorem dX4_winsWithin_22 : decode cX4_winsWithin 22 = .ok (.ireturn, 1) := by decide +kernel
theorem dX4_winsWithin_23 : decode cX4_winsWithin 23 = .ok (.iconst 1, 1) := by decide +kernel
theorem dX4_winsWithin_24 : decode cX4_winsWithin 24 = .ok (.istore 4, 2) := by decide +kernel
theorem dX4_winsWithin_26 : decode cX4_winsWithin 26 = .ok (.iload 4, 2) := by decide +kernel
theorem dX4_winsWithin_28 : decode cX4_winsWithin 28 = .ok (.iconst 5, 1) := by decide +kernel
theorem dX4_winsWithin_29 : decode cX4_winsWithin 29 = .ok (.if_icmp .gt 72, 3) := by decide +kernel
theorem dX4_winsWithin_32 : decode cX4_winsWithin 32 = .ok (.aload_n 0, 1) := by decide +kernel
theorem dX4_winsWithin_33 : decode cX4_winsWithin 33 = .ok (.getfield 18, 3) := by decide +kernel
theorem dX4_winsWithin_36 : decode cX4_winsWithin 36 = .ok (.iload_n 2, 1) := by decide +kernel
theorem dX4_winsWithin_37 : decode cX4_winsWithin 37 = .ok (.iload 4, 2) := by decide +kernel
theorem dX4_winsWithin_39 : decode cX4_winsWithin 39 = .ok (.iastore, 1) := by decide +kernel
theorem dX4_winsWithin_40 : decode cX4_winsWithin 40 = .ok (.aload_n 0, 1) := by decide +kernel
theorem dX4_winsWithin_41 : decode cX4_winsWithin 41 = .ok (.getfield 12, 3) := by decide +kernel
theorem dX4_winsWithin_44 : decode cX4_winsWithin 44 = .ok (.iload 4, 2) := by decide +kernel
theorem dX4_winsWithin_46 : decode cX4_winsWithin 46 = .ok (.aload_n 0, 1) := by decide +kernel
theorem dX4_winsWithin_47 : decode cX4_winsWithin 47 = .ok (.getfield 12, 3) := by decide +kernel
theorem dX4_winsWithin_50 : decode cX4_winsWithin 50 = .ok (.iconst 0, 1) := by decide +kernel
theorem dX4_winsWithin_51 : decode cX4_winsWithin 51 = .ok (.invokevirtual 51, 3) := by decide +kernel
theorem dX4_winsWithin_54 : decode cX4_winsWithin 54 = .ok (.aload_n 0, 1) := by decide +kernel
theorem dX4_winsWithin_55 : decode cX4_winsWithin 55 = .ok (.getfield 34, 3) := by decide +kernel
theorem dX4_winsWithin_58 : decode cX4_winsWithin 58 = .ok (.iload_n 2, 1) := by decide +kernel
theorem dX4_winsWithin_59 : decode cX4_winsWithin 59 = .ok (.aaload, 1) := by decide +kernel
theorem dX4_winsWithin_60 : decode cX4_winsWithin 60 = .ok (.invokevirtual 55, 3) := by decide +kernel
theorem dX4_winsWithin_63 : decode cX4_winsWithin 63 = .ok (.pop, 1) := by decide +kernel
theorem dX4_winsWithin_64 : decode cX4_winsWithin 64 = .ok (.aload_n 0, 1) := by decide +kernel
theorem dX4_winsWithin_65 : decode cX4_winsWithin 65 = .ok (.iload_n 1, 1) := by decide +kernel
theorem dX4_winsWithin_66 : decode cX4_winsWithin 66 = .ok (.iload_n 2, 1) := by decide +kernel
theorem dX4_winsWithin_67 : decode cX4_winsWithin 67 = .ok (.iconst 1, 1) := by decide +kernel
theorem dX4_winsWithin_68 : decode cX4_winsWithin 68 = .ok (.iadd, 1) := by decide +kernel
theorem dX4_winsWithin_69 : decode cX4_winsWithin 69 = .ok (.iload_n 3, 1) := by decide +kernel
theorem dX4_winsWithin_70 : decode cX4_winsWithin 70 = .ok (.invokevirtual 43, 3) := by decide +kernel
theorem dX4_winsWithin_73 : decode cX4_winsWithin 73 = .ok (.istore 5, 2) := by decide +kernel
theorem dX4_winsWithin_75 : decode cX4_winsWithin 75 = .ok (.aload_n 0, 1) := by decide +kernel
theorem dX4_winsWithin_76 : decode cX4_winsWithin 76 = .ok (.getfield 34, 3) := by decide +kernel
theorem dX4_winsWithin_79 : decode cX4_winsWithin 79 = .ok (.iload_n 2, 1) := by decide +kernel
theorem dX4_winsWithin_80 : decode cX4_winsWithin 80 = .ok (.aaload, 1) := by decide +kernel
theorem dX4_winsWithin_81 : decode cX4_winsWithin 81 = .ok (.aload_n 0, 1) := by decide +kernel
theorem dX4_winsWithin_82 : decode cX4_winsWithin 82 = .ok (.getfield 12, 3) := by decide +kernel
theorem dX4_winsWithin_85 : decode cX4_winsWithin 85 = .ok (.invokevirtual 59, 3) := by decide +kernel
theorem dX4_winsWithin_88 : decode cX4_winsWithin 88 = .ok (.iload 5, 2) := by decide +kernel
theorem dX4_winsWithin_90 : decode cX4_winsWithin 90 = .ok (.ifCond .eq 5, 3) := by decide +kernel
theorem dX4_winsWithin_93 : decode cX4_winsWithin 93 = .ok (.iconst 1, 1) := by decide +kernel
theorem dX4_winsWithin_94 : decode cX4_winsWithin 94 = .ok (.ireturn, 1) := by decide +kernel
theorem dX4_winsWithin_95 : decode cX4_winsWithin 95 = .ok (.iinc 4 1, 3) := by decide +kernel
theorem dX4_winsWithin_98 : decode cX4_winsWithin 98 = .ok (.goto (-72), 3) := by decide +kernel
theorem dX4_winsWithin_101 : decode cX4_winsWithin 101 = .ok (.iconst 0, 1) := by decide +kernel
theorem dX4_winsWithin_102 : decode cX4_winsWithin 102 = .ok (.ireturn, 1) := by decide +kernel
set_option maxRecDepth 20000 in
theorem ggX4_searchHaul_X3_become : GoodIn wsX4_searchHaul wsX3_become := goodIn_r _ [8, 9, 10, 11, 12, 13, 14, 15, 16, 17, 18, 19, 20, 21, 109, 110, 111, 112, 113, 114, 115, 116, 117] (by decide +kernel) (by decide +kernel)
set_option maxRecDepth 20000 in
theorem gX4_searchHaul_X3_become : GoodIn wsX4_searchHaul (wsV RX4 39 RX3 yX3_become wsX3_become) := goodIn_app (goodIn_of _ (by decide +kernel)) ggX4_searchHaul_X3_become
set_option maxRecDepth 20000 in
theorem ggX4_searchHaul_X4_haulFrom : GoodIn wsX4_searchHaul wsX4_haulFrom := goodIn_r _ [26, 27, 1, 28, 29, 30, 31, 25, 32, 2, 3, 33, 34, 11, 12, 13, 35, 36, 37, 7, 38, 17, 15, 39, 40, 41, 42, 14, 43, 44, 45, 46, 20, 21, 19, 18, 47, 48, 49, 50, 51, 52, 53, 54, 55, 16, 56, 57, 58, 59, 60, 61, 62, 63, 64, 65, 66, 67, 68, 69, 70, 71, 72, 73, 74, 75, 76, 9, 77, 78, 79, 80, 81, 82, 83, 84, 85, 86, 87, 88, 89, 90, 91, 92, 93, 94, 95, 96, 97, 98, 22, 23, 24, 99, 100, 101, 102, 103, 104, 105, 106, 107, 108, 109, 110, 111, 112, 113, 114, 115, 116, 117, 118, 119, 120, 121, 122, 123] (by decide +kernel) (by decide +kernel)
set_option maxRecDepth 20000 in
theorem gX4_searchHaul_X4_haulFrom : GoodIn wsX4_searchHaul (wsV RX4 62 RX4 yX4_haulFrom wsX4_haulFrom) := goodIn_app (goodIn_of _ (by decide +kernel)) ggX4_searchHaul_X4_haulFrom
theorem dX4_searchHaul_0 : decode cX4_searchHaul 0 = .ok (.aload_n 0, 1) := by decide +kernel
theorem dX4_searchHaul_1 : decode cX4_searchHaul 1 = .ok (.getfield 12, 3) := by decide +kernel
theorem dX4_searchHaul_4 : decode cX4_searchHaul 4 = .ok (.aload_n 1, 1) := by decide +kernel
theorem dX4_searchHaul_5 : decode cX4_searchHaul 5 = .ok (.invokevirtual 39, 3) := by decide +kernel
theorem dX4_searchHaul_8 : decode cX4_searchHaul 8 = .ok (.aload_n 0, 1) := by decide +kernel
theorem dX4_searchHaul_9 : decode cX4_searchHaul 9 = .ok (.iconst (-1), 1) := by decide +kernel
theorem dX4_searchHaul_10 : decode cX4_searchHaul 10 = .ok (.putfield 25, 3) := by decide +kernel
theorem dX4_searchHaul_13 : decode cX4_searchHaul 13 = .ok (.aload_n 0, 1) := by decide +kernel
theorem dX4_searchHaul_14 : decode cX4_searchHaul 14 = .ok (.iconst (-1), 1) := by decide +kernel
theorem dX4_searchHaul_15 : decode cX4_searchHaul 15 = .ok (.putfield 29, 3) := by decide +kernel
theorem dX4_searchHaul_18 : decode cX4_searchHaul 18 = .ok (.aload_n 0, 1) := by decide +kernel
theorem dX4_searchHaul_19 : decode cX4_searchHaul 19 = .ok (.iconst 0, 1) := by decide +kernel
theorem dX4_searchHaul_20 : decode cX4_searchHaul 20 = .ok (.iload_n 2, 1) := by decide +kernel
theorem dX4_searchHaul_21 : decode cX4_searchHaul 21 = .ok (.invokevirtual 62, 3) := by decide +kernel
theorem dX4_searchHaul_24 : decode cX4_searchHaul 24 = .ok (.return_, 1) := by decide +kernel
set_option maxRecDepth 20000 in
theorem ggX4_haulFrom_X4_weighPath : GoodIn wsX4_haulFrom wsX4_weighPath := goodIn_r _ [8, 2, 9, 10, 1, 11, 12, 13, 14, 15, 16, 17, 18, 19, 20, 21, 22, 23, 24, 25, 26, 27, 97, 98, 99, 100, 101, 102, 103, 104, 105, 106, 107, 108, 109, 110, 111] (by decide +kernel) (by decide +kernel)
set_option maxRecDepth 20000 in
theorem gX4_haulFrom_X4_weighPath : GoodIn wsX4_haulFrom (wsV RX4 66 RX4 yX4_weighPath wsX4_weighPath) := goodIn_app (goodIn_of _ (by decide +kernel)) ggX4_haulFrom_X4_weighPath
set_option maxRecDepth 20000 in
theorem ggX4_haulFrom_X3_gripAhead : GoodIn wsX4_haulFrom wsX3_gripAhead := goodIn_r _ [31, 32, 33, 34, 35, 103, 104, 105, 106, 107, 108, 109, 110, 111] (by decide +kernel) (by decide +kernel)
set_option maxRecDepth 20000 in
theorem gX4_haulFrom_X3_gripAhead : GoodIn wsX4_haulFrom (wsV RX4 51 RX3 yX3_gripAhead wsX3_gripAhead) := goodIn_app (goodIn_of _ (by decide +kernel)) ggX4_haulFrom_X3_gripAhead
set_option maxRecDepth 20000 in
theorem ggX4_haulFrom_X3_playAt : GoodIn wsX4_haulFrom wsX3_playAt := goodIn_r _ [39, 33, 40, 41, 42, 43, 19, 44, 21, 22, 45, 46, 47, 48, 49, 50, 51, 52, 53, 54, 55, 56, 57, 58, 59, 60, 61, 62, 63, 64, 65, 66, 67, 68, 69, 70, 71, 27, 72, 73, 74, 75, 76, 77, 78, 79, 80, 17, 18, 20, 81, 82, 83, 84, 85, 86, 87, 88, 89, 103, 104, 105, 106, 107, 108, 109, 110, 111, 112, 113, 114, 115, 116, 117] (by decide +kernel) (by decide +kernel)
set_option maxRecDepth 20000 in
theorem gX4_haulFrom_X3_playAt : GoodIn wsX4_haulFrom (wsV RX4 55 RX3 yX3_playAt wsX3_playAt) := goodIn_app (goodIn_of _ (by decide +kernel)) ggX4_haulFrom_X3_playAt
set_option maxRecDepth 20000 in
theorem ggX4_haulFrom_X4_haulFrom : GoodIn wsX4_haulFrom wsX4_haulFrom := goodIn_r _ [0, 1, 2, 3, 4, 5, 6, 7, 8, 9, 10, 11, 12, 13, 14, 15, 16, 17, 18, 19, 20, 21, 22, 23, 24, 25, 26, 27, 28, 29, 30, 31, 32, 33, 34, 35, 36, 37, 38, 39, 40, 41, 42, 43, 44, 45, 46, 47, 48, 49, 50, 51, 52, 53, 54, 55, 56, 57, 58, 59, 60, 61, 62, 63, 64, 65, 66, 67, 68, 69, 70, 71, 72, 73, 74, 75, 76, 77, 78, 79, 80, 81, 82, 83, 84, 85, 86, 87, 88, 89, 90, 91, 92, 93, 94, 95, 96, 97, 98, 99, 100, 101, 102, 103, 104, 105, 106, 107, 108, 109, 110, 111, 112, 113, 114, 115, 116, 117] (by decide +kernel) (by decide +kernel)
set_option maxRecDepth 20000 in
theorem gX4_haulFrom_X4_haulFrom : GoodIn wsX4_haulFrom (wsV RX4 62 RX4 yX4_haulFrom wsX4_haulFrom) := goodIn_app (goodIn_of _ (by decide +kernel)) ggX4_haulFrom_X4_haulFrom
set_option maxRecDepth 20000 in
theorem ggX4_haulFrom_X2_giveBack : GoodIn wsX4_haulFrom wsX2_giveBack := goodIn_r _ [96, 52, 51, 54, 53, 56, 55, 57, 58, 59, 60, 61, 62, 112, 113, 114, 115, 116, 117, 103, 104, 105, 106, 107, 108, 109, 110, 111] (by decide +kernel) (by decide +kernel)
set_option maxRecDepth 20000 in
theorem gX4_haulFrom_X2_giveBack : GoodIn wsX4_haulFrom (wsV RX4 59 RX2 yX2_giveBack wsX2_giveBack) := goodIn_app (goodIn_of _ (by decide +kernel)) ggX4_haulFrom_X2_giveBack
theorem dX4_haulFrom_0 : decode cX4_haulFrom 0 = .ok (.iload_n 1, 1) := by decide +kernel
theorem dX4_haulFrom_1 : decode cX4_haulFrom 1 = .ok (.iload_n 2, 1) := by decide +kernel
theorem dX4_haulFrom_2 : decode cX4_haulFrom 2 = .ok (.if_icmp .lt 9, 3) := by decide +kernel
theorem dX4_haulFrom_5 : decode cX4_haulFrom 5 = .ok (.aload_n 0, 1) := by decide +kernel
theorem dX4_haulFrom_6 : decode cX4_haulFrom 6 = .ok (.iload_n 2, 1) := by decide +kernel
theorem dX4_haulFrom_7 : decode cX4_haulFrom 7 = .ok (.invokevirtual 66, 3) := by decide +kernel
theorem dX4_haulFrom_10 : decode cX4_haulFrom 10 = .ok (.return_, 1) := by decide +kernel
theorem dX4_haulFrom_11 : decode cX4_haulFrom 11 = .ok (.iconst 1, 1) := by decide +kernel
theorem dX4_haulFrom_12 : decode cX4_haulFrom 12 = .ok (.istore_n 3, 1) := by decide +kernel
theorem dX4_haulFrom_13 : decode cX4_haulFrom 13 = .ok (.iload_n 3, 1) := by decide +kernel
theorem dX4_haulFrom_14 : decode cX4_haulFrom 14 = .ok (.iconst 5, 1) := by decide +kernel
theorem dX4_haulFrom_15 : decode cX4_haulFrom 15 = .ok (.if_icmp .gt 60, 3) := by decide +kernel
theorem dX4_haulFrom_18 : decode cX4_haulFrom 18 = .ok (.aload_n 0, 1) := by decide +kernel
theorem dX4_haulFrom_19 : decode cX4_haulFrom 19 = .ok (.getfield 18, 3) := by decide +kernel
theorem dX4_haulFrom_22 : decode cX4_haulFrom 22 = .ok (.iload_n 1, 1) := by decide +kernel
theorem dX4_haulFrom_23 : decode cX4_haulFrom 23 = .ok (.iload_n 3, 1) := by decide +kernel
theorem dX4_haulFrom_24 : decode cX4_haulFrom 24 = .ok (.iastore, 1) := by decide +kernel
theorem dX4_haulFrom_25 : decode cX4_haulFrom 25 = .ok (.aload_n 0, 1) := by decide +kernel
theorem dX4_haulFrom_26 : decode cX4_haulFrom 26 = .ok (.getfield 12, 3) := by decide +kernel
theorem dX4_haulFrom_29 : decode cX4_haulFrom 29 = .ok (.iload_n 3, 1) := by decide +kernel
theorem dX4_haulFrom_30 : decode cX4_haulFrom 30 = .ok (.aload_n 0, 1) := by decide +kernel
theorem dX4_haulFrom_31 : decode cX4_haulFrom 31 = .ok (.getfield 12, 3) := by decide +kernel
theorem dX4_haulFrom_34 : decode cX4_haulFrom 34 = .ok (.iconst 0, 1) := by decide +kernel
theorem dX4_haulFrom_35 : decode cX4_haulFrom 35 = .ok (.invokevirtual 51, 3) := by decide +kernel
theorem dX4_haulFrom_38 : decode cX4_haulFrom 38 = .ok (.aload_n 0, 1) := by decide +kernel
theorem dX4_haulFrom_39 : decode cX4_haulFrom 39 = .ok (.getfield 34, 3) := by decide +kernel
theorem dX4_haulFrom_42 : decode cX4_haulFrom 42 = .ok (.iload_n 1, 1) := by decide +kernel
theorem dX4_haulFrom_43 : decode cX4_haulFrom 43 = .ok (.aaload, 1) := by decide +kernel
theorem dX4_haulFrom_44 : decode cX4_haulFrom 44 = .ok (.invokevirtual 55, 3) := by decide +kernel
theorem dX4_haulFrom_47 : decode cX4_haulFrom 47 = .ok (.pop, 1) := by decide +kernel
theorem dX4_haulFrom_48 : decode cX4_haulFrom 48 = .ok (.aload_n 0, 1) := by decide +kernel
theorem dX4_haulFrom_49 : decode cX4_haulFrom 49 = .ok (.iload_n 1, 1) := by decide +kernel
theorem dX4_haulFrom_50 : decode cX4_haulFrom 50 = .ok (.iconst 1, 1) := by decide +kernel
theorem dX4_haulFrom_51 : decode cX4_haulFrom 51 = .ok (.iadd, 1) := by decide +kernel
theorem dX4_haulFrom_52 : decode cX4_haulFrom 52 = .ok (.iload_n 2, 1) := by decide +kernel
theorem dX4_haulFrom_53 : decode cX4_haulFrom 53 = .ok (.invokevirtual 62, 3) := by decide +kernel
theorem dX4_haulFrom_56 : decode cX4_haulFrom 56 = .ok (.aload_n 0, 1) := by decide +kernel
theorem dX4_haulFrom_57 : decode cX4_haulFrom 57 = .ok (.getfield 34, 3) := by decide +kernel
theorem dX4_haulFrom_60 : decode cX4_haulFrom 60 = .ok (.iload_n 1, 1) := by decide +kernel
theorem dX4_haulFrom_61 : decode cX4_haulFrom 61 = .ok (.aaload, 1) := by decide +kernel
theorem dX4_haulFrom_62 : decode cX4_haulFrom 62 = .ok (.aload_n 0, 1) := by decide +kernel
theorem dX4_haulFrom_63 : decode cX4_haulFrom 63 = .ok (.getfield 12, 3) := by decide +kernel
theorem dX4_haulFrom_66 : decode cX4_haulFrom 66 = .ok (.invokevirtual 59, 3) := by decide +kernel
theorem dX4_haulFrom_69 : decode cX4_haulFrom 69 = .ok (.iinc 3 1, 3) := by decide +kernel
theorem dX4_haulFrom_72 : decode cX4_haulFrom 72 = .ok (.goto (-59), 3) := by decide +kernel
theorem dX4_haulFrom_75 : decode cX4_haulFrom 75 = .ok (.return_, 1) := by decide +kernel
set_option maxRecDepth 20000 in
theorem ggX4_weighPath_X3_howMany : GoodIn wsX4_weighPath wsX3_howMany := goodIn_r _ [14, 15, 16, 28, 29, 30, 31, 32, 33, 34, 35, 36] (by decide +kernel) (by decide +kernel)
set_option maxRecDepth 20000 in
theorem gX4_weighPath_X3_howMany : GoodIn wsX4_weighPath (wsV RX4 70 RX3 yX3_howMany wsX3_howMany) := goodIn_app (goodIn_of _ (by decide +kernel)) ggX4_weighPath_X3_howMany
set_option maxRecDepth 20000 in
theorem ggX4_weighPath_X3_wonWeight : GoodIn wsX4_weighPath wsX3_wonWeight := goodIn_r _ [20, 15, 16, 21, 28, 29, 30, 31, 32, 33, 34, 35, 36] (by decide +kernel) (by decide +kernel)
set_option maxRecDepth 20000 in
theorem gX4_weighPath_X3_wonWeight : GoodIn wsX4_weighPath (wsV RX4 73 RX3 yX3_wonWeight wsX3_wonWeight) := goodIn_app (goodIn_of _ (by decide +kernel)) ggX4_weighPath_X3_wonWeight
theorem dX4_weighPath_0 : decode cX4_weighPath 0 = .ok (.aload_n 0, 1) := by decide +kernel
theorem dX4_weighPath_1 : decode cX4_weighPath 1 = .ok (.getfield 12, 3) := by decide +kernel
theorem dX4_weighPath_4 : decode cX4_weighPath 4 = .ok (.iconst 0, 1) := by decide +kernel
theorem dX4_weighPath_5 : decode cX4_weighPath 5 = .ok (.invokevirtual 70, 3) := by decide +kernel
theorem dX4_weighPath_8 : decode cX4_weighPath 8 = .ok (.istore_n 2, 1) := by decide +kernel
theorem dX4_weighPath_9 : decode cX4_weighPath 9 = .ok (.aload_n 0, 1) := by decide +kernel
theorem dX4_weighPath_10 : decode cX4_weighPath 10 = .ok (.getfield 12, 3) := by decide +kernel
theorem dX4_weighPath_13 : decode cX4_weighPath 13 = .ok (.invokevirtual 73, 3) := by decide +kernel
theorem dX4_weighPath_16 : decode cX4_weighPath 16 = .ok (.istore_n 3, 1) := by decide +kernel
theorem dX4_weighPath_17 : decode cX4_weighPath 17 = .ok (.iload_n 2, 1) := by decide +kernel
theorem dX4_weighPath_18 : decode cX4_weighPath 18 = .ok (.aload_n 0, 1) := by decide +kernel
theorem dX4_weighPath_19 : decode cX4_weighPath 19 = .ok (.getfield 25, 3) := by decide +kernel
theorem dX4_weighPath_22 : decode cX4_weighPath 22 = .ok (.if_icmp .gt 19, 3) := by decide +kernel
theorem dX4_weighPath_25 : decode cX4_weighPath 25 = .ok (.iload_n 2, 1) := by decide +kernel
theorem dX4_weighPath_26 : decode cX4_weighPath 26 = .ok (.aload_n 0, 1) := by decide +kernel
theorem dX4_weighPath_27 : decode cX4_weighPath 27 = .ok (.getfield 25, 3) := by decide +kernel
theorem dX4_weighPath_30 : decode cX4_weighPath 30 = .ok (.if_icmp .ne 35, 3) := by decide +kernel
theorem dX4_weighPath_33 : decode cX4_weighPath 33 = .ok (.iload_n 3, 1) := by decide +kernel
theorem dX4_weighPath_34 : decode cX4_weighPath 34 = .ok (.aload_n 0, 1) := by decide +kernel
theorem dX4_weighPath_35 : decode cX4_weighPath 35 = .ok (.getfield 29, 3) := by decide +kernel
theorem dX4_weighPath_38 : decode cX4_weighPath 38 = .ok (.if_icmp .le 27, 3) := by decide +kernel
theorem dX4_weighPath_41 : decode cX4_weighPath 41 = .ok (.aload_n 0, 1) := by decide +kernel
theorem dX4_weighPath_42 : decode cX4_weighPath 42 = .ok (.iload_n 2, 1) := by decide +kernel
theorem dX4_weighPath_43 : decode cX4_weighPath 43 = .ok (.putfield 25, 3) := by decide +kernel
theorem dX4_weighPath_46 : decode cX4_weighPath 46 = .ok (.aload_n 0, 1) := by decide +kernel
theorem dX4_weighPath_47 : decode cX4_weighPath 47 = .ok (.iload_n 3, 1) := by decide +kernel
theorem dX4_weighPath_48 : decode cX4_weighPath 48 = .ok (.putfield 29, 3) := by decide +kernel
theorem dX4_weighPath_51 : decode cX4_weighPath 51 = .ok (.aload_n 0, 1) := by decide +kernel
theorem dX4_weighPath_52 : decode cX4_weighPath 52 = .ok (.getfield 18, 3) := by decide +kernel
theorem dX4_weighPath_55 : decode cX4_weighPath 55 = .ok (.iconst 0, 1) := by decide +kernel
theorem dX4_weighPath_56 : decode cX4_weighPath 56 = .ok (.aload_n 0, 1) := by decide +kernel
theorem dX4_weighPath_57 : decode cX4_weighPath 57 = .ok (.getfield 22, 3) := by decide +kernel
theorem dX4_weighPath_60 : decode cX4_weighPath 60 = .ok (.iconst 0, 1) := by decide +kernel
theorem dX4_weighPath_61 : decode cX4_weighPath 61 = .ok (.iload_n 1, 1) := by decide +kernel
theorem dX4_weighPath_62 : decode cX4_weighPath 62 = .ok (.invokestatic 77, 3) := by decide +kernel
theorem dX4_weighPath_65 : decode cX4_weighPath 65 = .ok (.return_, 1) := by decide +kernel
set_option maxRecDepth 20000 in
theorem ggX4_fitting_X3_become : GoodIn wsX4_fitting wsX3_become := goodIn_r _ [6, 7, 8, 9, 10, 11, 12, 13, 14, 15, 16, 17, 18, 19, 101, 102, 103, 104, 105, 106, 107, 108, 109] (by decide +kernel) (by decide +kernel)
set_option maxRecDepth 20000 in
theorem gX4_fitting_X3_become : GoodIn wsX4_fitting (wsV RX4 39 RX3 yX3_become wsX3_become) := goodIn_app (goodIn_of _ (by decide +kernel)) ggX4_fitting_X3_become
set_option maxRecDepth 20000 in
theorem ggX4_fitting_X4_suppose : GoodIn wsX4_fitting wsX4_suppose := goodIn_r _ [24, 1, 25, 26, 27, 28, 95, 96, 97, 98, 99, 100, 101, 102, 103, 104, 105, 106, 107, 108, 109] (by decide +kernel) (by decide +kernel)
set_option maxRecDepth 20000 in
theorem gX4_fitting_X4_suppose : GoodIn wsX4_fitting (wsV RX4 83 RX4 yX4_suppose wsX4_suppose) := goodIn_app (goodIn_of _ (by decide +kernel)) ggX4_fitting_X4_suppose
set_option maxRecDepth 20000 in
theorem ggX4_fitting_X4_roundGoes : GoodIn wsX4_fitting wsX4_roundGoes := goodIn_r _ [32, 1, 33, 34, 35, 36, 37, 38, 5, 39, 18, 19, 17, 16, 40, 41, 42, 43, 44, 45, 46, 47, 48, 15, 13, 14, 49, 50, 51, 52, 53, 54, 55, 56, 57, 58, 59, 60, 61, 62, 63, 64, 65, 66, 67, 68, 69, 7, 70, 71, 72, 73, 12, 74, 75, 76, 77, 78, 79, 80, 81, 82, 83, 84, 85, 86, 87, 88, 89, 90, 91, 92, 93, 94, 95, 96, 97, 98, 99, 100, 101, 102, 103, 104, 105, 106, 107, 108, 109, 110, 111, 112, 113, 114, 115, 116, 117, 118, 119] (by decide +kernel) (by decide +kernel)
set_option maxRecDepth 20000 in
theorem gX4_fitting_X4_roundGoes : GoodIn wsX4_fitting (wsV RX4 87 RX4 yX4_roundGoes wsX4_roundGoes) := goodIn_app (goodIn_of _ (by decide +kernel)) ggX4_fitting_X4_roundGoes
theorem dX4_fitting_0 : decode cX4_fitting 0 = .ok (.iload 6, 2) := by decide +kernel
theorem dX4_fitting_2 : decode cX4_fitting 2 = .ok (.ifCond .eq 9, 3) := by decide +kernel
theorem dX4_fitting_5 : decode cX4_fitting 5 = .ok (.iload 6, 2) := by decide +kernel
theorem dX4_fitting_7 : decode cX4_fitting 7 = .ok (.iconst 1, 1) := by decide +kernel
theorem dX4_fitting_8 : decode cX4_fitting 8 = .ok (.if_icmp .ne 7, 3) := by decide +kernel
theorem dX4_fitting_11 : decode cX4_fitting 11 = .ok (.iconst 1, 1) := by decide +kernel
theorem dX4_fitting_12 : decode cX4_fitting 12 = .ok (.goto 4, 3) := by decide +kernel
theorem dX4_fitting_15 : decode cX4_fitting 15 = .ok (.iconst 0, 1) := by decide +kernel
theorem dX4_fitting_16 : decode cX4_fitting 16 = .ok (.istore 7, 2) := by decide +kernel
theorem dX4_fitting_18 : decode cX4_fitting 18 = .ok (.iload 6, 2) := by decide +kernel
theorem dX4_fitting_20 : decode cX4_fitting 20 = .ok (.ifCond .ne 7, 3) := by decide +kernel
theorem dX4_fitting_23 : decode cX4_fitting 23 = .ok (.iconst 5, 1) := by decide +kernel
theorem dX4_fitting_24 : decode cX4_fitting 24 = .ok (.goto 16, 3) := by decide +kernel
theorem dX4_fitting_27 : decode cX4_fitting 27 = .ok (.iload 6, 2) := by decide +kernel
theorem dX4_fitting_29 : decode cX4_fitting 29 = .ok (.iconst 1, 1) := by decide +kernel
theorem dX4_fitting_30 : decode cX4_fitting 30 = .ok (.if_icmp .ne 8, 3) := by decide +kernel
theorem dX4_fitting_33 : decode cX4_fitting 33 = .ok (.bipush 9, 2) := by decide +kernel
theorem dX4_fitting_35 : decode cX4_fitting 35 = .ok (.goto 5, 3) := by decide +kernel
theorem dX4_fitting_38 : decode cX4_fitting 38 = .ok (.bipush 9, 2) := by decide +kernel
theorem dX4_fitting_40 : decode cX4_fitting 40 = .ok (.istore 8, 2) := by decide +kernel
theorem dX4_fitting_42 : decode cX4_fitting 42 = .ok (.iconst 0, 1) := by decide +kernel
theorem dX4_fitting_43 : decode cX4_fitting 43 = .ok (.istore 9, 2) := by decide +kernel
theorem dX4_fitting_45 : decode cX4_fitting 45 = .ok (.iload 7, 2) := by decide +kernel
theorem dX4_fitting_47 : decode cX4_fitting 47 = .ok (.istore 10, 2) := by decide +kernel
theorem dX4_fitting_49 : decode cX4_fitting 49 = .ok (.iload 10, 2) := by decide +kernel
theorem dX4_fitting_51 : decode cX4_fitting 51 = .ok (.iload 8, 2) := by decide +kernel
theorem dX4_fitting_53 : decode cX4_fitting 53 = .ok (.if_icmp .gt 48, 3) := by decide +kernel
theorem dX4_fitting_56 : decode cX4_fitting 56 = .ok (.aload_n 0, 1) := by decide +kernel
theorem dX4_fitting_57 : decode cX4_fitting 57 = .ok (.getfield 12, 3) := by decide +kernel
theorem dX4_fitting_60 : decode cX4_fitting 60 = .ok (.aload_n 1, 1) := by decide +kernel
theorem dX4_fitting_61 : decode cX4_fitting 61 = .ok (.invokevirtual 39, 3) := by decide +kernel
theorem dX4_fitting_64 : decode cX4_fitting 64 = .ok (.aload_n 0, 1) := by decide +kernel
theorem dX4_fitting_65 : decode cX4_fitting 65 = .ok (.iload_n 2, 1) := by decide +kernel
theorem dX4_fitting_66 : decode cX4_fitting 66 = .ok (.iload 6, 2) := by decide +kernel
theorem dX4_fitting_68 : decode cX4_fitting 68 = .ok (.iload 10, 2) := by decide +kernel
theorem dX4_fitting_70 : decode cX4_fitting 70 = .ok (.invokevirtual 83, 3) := by decide +kernel
theorem dX4_fitting_73 : decode cX4_fitting 73 = .ok (.aload_n 0, 1) := by decide +kernel
theorem dX4_fitting_74 : decode cX4_fitting 74 = .ok (.iload_n 2, 1) := by decide +kernel
theorem dX4_fitting_75 : decode cX4_fitting 75 = .ok (.aload_n 3, 1) := by decide +kernel
theorem dX4_fitting_76 : decode cX4_fitting 76 = .ok (.iload 4, 2) := by decide +kernel
theorem dX4_fitting_78 : decode cX4_fitting 78 = .ok (.iload 5, 2) := by decide +kernel
theorem dX4_fitting_80 : decode cX4_fitting 80 = .ok (.invokevirtual 87, 3) := by decide +kernel
theorem dX4_fitting_83 : decode cX4_fitting 83 = .ok (.ifCond .eq 12, 3) := by decide +kernel
theorem dX4_fitting_86 : decode cX4_fitting 86 = .ok (.iload 9, 2) := by decide +kernel
theorem dX4_fitting_88 : decode cX4_fitting 88 = .ok (.iconst 1, 1) := by decide +kernel
theorem dX4_fitting_89 : decode cX4_fitting 89 = .ok (.iload 10, 2) := by decide +kernel
theorem dX4_fitting_91 : decode cX4_fitting 91 = .ok (.ishl, 1) := by decide +kernel
theorem dX4_fitting_92 : decode cX4_fitting 92 = .ok (.ior, 1) := by decide +kernel
theorem dX4_fitting_93 : decode cX4_fitting 93 = .ok (.istore 9, 2) := by decide +kernel
theorem dX4_fitting_95 : decode cX4_fitting 95 = .ok (.iinc 10 1, 3) := by decide +kernel
theorem dX4_fitting_98 : decode cX4_fitting 98 = .ok (.goto (-49), 3) := by decide +kernel
theorem dX4_fitting_101 : decode cX4_fitting 101 = .ok (.iload 9, 2) := by decide +kernel
theorem dX4_fitting_103 : decode cX4_fitting 103 = .ok (.ireturn, 1) := by decide +kernel
theorem dX4_suppose_0 : decode cX4_suppose 0 = .ok (.iload_n 2, 1) := by decide +kernel
theorem dX4_suppose_1 : decode cX4_suppose 1 = .ok (.tableswitch 64 0 2 #[27, 40, 53], 27) := by decide +kernel
theorem dX4_suppose_28 : decode cX4_suppose 28 = .ok (.aload_n 0, 1) := by decide +kernel
theorem dX4_suppose_29 : decode cX4_suppose 29 = .ok (.getfield 12, 3) := by decide +kernel
theorem dX4_suppose_32 : decode cX4_suppose 32 = .ok (.getfield 91, 3) := by decide +kernel
theorem dX4_suppose_35 : decode cX4_suppose 35 = .ok (.iload_n 1, 1) := by decide +kernel
theorem dX4_suppose_36 : decode cX4_suppose 36 = .ok (.iload_n 3, 1) := by decide +kernel
theorem dX4_suppose_37 : decode cX4_suppose 37 = .ok (.iastore, 1) := by decide +kernel
theorem dX4_suppose_38 : decode cX4_suppose 38 = .ok (.goto 35, 3) := by decide +kernel
theorem dX4_suppose_41 : decode cX4_suppose 41 = .ok (.aload_n 0, 1) := by decide +kernel
theorem dX4_suppose_42 : decode cX4_suppose 42 = .ok (.getfield 12, 3) := by decide +kernel
theorem dX4_suppose_45 : decode cX4_suppose 45 = .ok (.getfield 94, 3) := by decide +kernel
theorem dX4_suppose_48 : decode cX4_suppose 48 = .ok (.iload_n 1, 1) := by decide +kernel
theorem dX4_suppose_49 : decode cX4_suppose 49 = .ok (.iload_n 3, 1) := by decide +kernel
theorem dX4_suppose_50 : decode cX4_suppose 50 = .ok (.iastore, 1) := by decide +kernel
theorem dX4_suppose_51 : decode cX4_suppose 51 = .ok (.goto 22, 3) := by decide +kernel
theorem dX4_suppose_54 : decode cX4_suppose 54 = .ok (.aload_n 0, 1) := by decide +kernel
theorem dX4_suppose_55 : decode cX4_suppose 55 = .ok (.getfield 12, 3) := by decide +kernel
theorem dX4_suppose_58 : decode cX4_suppose 58 = .ok (.iload_n 3, 1) := by decide +kernel
theorem dX4_suppose_59 : decode cX4_suppose 59 = .ok (.putfield 97, 3) := by decide +kernel
theorem dX4_suppose_62 : decode cX4_suppose 62 = .ok (.goto 11, 3) := by decide +kernel
theorem dX4_suppose_65 : decode cX4_suppose 65 = .ok (.aload_n 0, 1) := by decide +kernel
theorem dX4_suppose_66 : decode cX4_suppose 66 = .ok (.getfield 12, 3) := by decide +kernel
theorem dX4_suppose_69 : decode cX4_suppose 69 = .ok (.iload_n 3, 1) := by decide +kernel
theorem dX4_suppose_70 : decode cX4_suppose 70 = .ok (.putfield 100, 3) := by decide +kernel
theorem dX4_suppose_73 : decode cX4_suppose 73 = .ok (.return_, 1) := by decide +kernel
set_option maxRecDepth 20000 in
theorem ggX4_roundGoes_X3_gripAhead : GoodIn wsX4_roundGoes wsX3_gripAhead := goodIn_r _ [9, 10, 11, 12, 13, 80, 81, 82, 83, 84, 85, 86, 87, 88] (by decide +kernel) (by decide +kernel)
set_option maxRecDepth 20000 in
theorem gX4_roundGoes_X3_gripAhead : GoodIn wsX4_roundGoes (wsV RX4 51 RX3 yX3_gripAhead wsX3_gripAhead) := goodIn_app (goodIn_of _ (by decide +kernel)) ggX4_roundGoes_X3_gripAhead
set_option maxRecDepth 20000 in
theorem ggX4_roundGoes_X3_playAt : GoodIn wsX4_roundGoes wsX3_playAt := goodIn_r _ [17, 11, 18, 19, 20, 21, 8, 22, 23, 24, 25, 26, 27, 28, 29, 30, 31, 32, 33, 34, 35, 36, 37, 38, 39, 40, 41, 42, 43, 44, 45, 46, 47, 48, 49, 50, 51, 52, 53, 54, 55, 56, 57, 58, 59, 60, 61, 62, 63, 64, 65, 66, 67, 68, 69, 70, 71, 72, 73, 80, 81, 82, 83, 84, 85, 86, 87, 88, 93, 94, 95, 96, 97, 98] (by decide +kernel) (by decide +kernel)
set_option maxRecDepth 20000 in
theorem gX4_roundGoes_X3_playAt : GoodIn wsX4_roundGoes (wsV RX4 55 RX3 yX3_playAt wsX3_playAt) := goodIn_app (goodIn_of _ (by decide +kernel)) ggX4_roundGoes_X3_playAt
theorem dX4_roundGoes_0 : decode cX4_roundGoes 0 = .ok (.iconst 0, 1) := by decide +kernel
theorem dX4_roundGoes_1 : decode cX4_roundGoes 1 = .ok (.istore 5, 2) := by decide +kernel
theorem dX4_roundGoes_3 : decode cX4_roundGoes 3 = .ok (.iload 5, 2) := by decide +kernel
theorem dX4_roundGoes_5 : decode cX4_roundGoes 5 = .ok (.iload 4, 2) := by decide +kernel
theorem dX4_roundGoes_7 : decode cX4_roundGoes 7 = .ok (.if_icmp .ge 60, 3) := by decide +kernel
theorem dX4_roundGoes_10 : decode cX4_roundGoes 10 = .ok (.aload_n 0, 1) := by decide +kernel
theorem dX4_roundGoes_11 : decode cX4_roundGoes 11 = .ok (.getfield 12, 3) := by decide +kernel
theorem dX4_roundGoes_14 : decode cX4_roundGoes 14 = .ok (.iload 5, 2) := by decide +kernel
theorem dX4_roundGoes_16 : decode cX4_roundGoes 16 = .ok (.iconst 5, 1) := by decide +kernel
theorem dX4_roundGoes_17 : decode cX4_roundGoes 17 = .ok (.irem, 1) := by decide +kernel
theorem dX4_roundGoes_18 : decode cX4_roundGoes 18 = .ok (.iconst 1, 1) := by decide +kernel
theorem dX4_roundGoes_19 : decode cX4_roundGoes 19 = .ok (.iadd, 1) := by decide +kernel
theorem dX4_roundGoes_20 : decode cX4_roundGoes 20 = .ok (.aload_n 0, 1) := by decide +kernel
theorem dX4_roundGoes_21 : decode cX4_roundGoes 21 = .ok (.getfield 12, 3) := by decide +kernel
theorem dX4_roundGoes_24 : decode cX4_roundGoes 24 = .ok (.iconst 0, 1) := by decide +kernel
theorem dX4_roundGoes_25 : decode cX4_roundGoes 25 = .ok (.invokevirtual 51, 3) := by decide +kernel
theorem dX4_roundGoes_28 : decode cX4_roundGoes 28 = .ok (.aload_n 0, 1) := by decide +kernel
theorem dX4_roundGoes_29 : decode cX4_roundGoes 29 = .ok (.getfield 34, 3) := by decide +kernel
theorem dX4_roundGoes_32 : decode cX4_roundGoes 32 = .ok (.iconst 0, 1) := by decide +kernel
theorem dX4_roundGoes_33 : decode cX4_roundGoes 33 = .ok (.aaload, 1) := by decide +kernel
theorem dX4_roundGoes_34 : decode cX4_roundGoes 34 = .ok (.invokevirtual 55, 3) := by decide +kernel
theorem dX4_roundGoes_37 : decode cX4_roundGoes 37 = .ok (.pop, 1) := by decide +kernel
theorem dX4_roundGoes_38 : decode cX4_roundGoes 38 = .ok (.aload_n 0, 1) := by decide +kernel
theorem dX4_roundGoes_39 : decode cX4_roundGoes 39 = .ok (.getfield 12, 3) := by decide +kernel
theorem dX4_roundGoes_42 : decode cX4_roundGoes 42 = .ok (.getfield 48, 3) := by decide +kernel
theorem dX4_roundGoes_45 : decode cX4_roundGoes 45 = .ok (.iload_n 1, 1) := by decide +kernel
theorem dX4_roundGoes_46 : decode cX4_roundGoes 46 = .ok (.iaload, 1) := by decide +kernel
theorem dX4_roundGoes_47 : decode cX4_roundGoes 47 = .ok (.aload_n 2, 1) := by decide +kernel
theorem dX4_roundGoes_48 : decode cX4_roundGoes 48 = .ok (.getfield 103, 3) := by decide +kernel
theorem dX4_roundGoes_51 : decode cX4_roundGoes 51 = .ok (.iload_n 3, 1) := by decide +kernel
theorem dX4_roundGoes_52 : decode cX4_roundGoes 52 = .ok (.iload 5, 2) := by decide +kernel
theorem dX4_roundGoes_54 : decode cX4_roundGoes 54 = .ok (.iadd, 1) := by decide +kernel
theorem dX4_roundGoes_55 : decode cX4_roundGoes 55 = .ok (.iaload, 1) := by decide +kernel
theorem dX4_roundGoes_56 : decode cX4_roundGoes 56 = .ok (.if_icmp .eq 5, 3) := by decide +kernel
theorem dX4_roundGoes_59 : decode cX4_roundGoes 59 = .ok (.iconst 0, 1) := by decide +kernel
theorem dX4_roundGoes_60 : decode cX4_roundGoes 60 = .ok (.ireturn, 1) := by decide +kernel
theorem dX4_roundGoes_61 : decode cX4_roundGoes 61 = .ok (.iinc 5 1, 3) := by decide +kernel
theorem dX4_roundGoes_64 : decode cX4_roundGoes 64 = .ok (.goto (-61), 3) := by decide +kernel
theorem dX4_roundGoes_67 : decode cX4_roundGoes 67 = .ok (.iconst 1, 1) := by decide +kernel
theorem dX4_roundGoes_68 : decode cX4_roundGoes 68 = .ok (.ireturn, 1) := by decide +kernel
set_option maxRecDepth 20000 in
theorem ggX4_waysToWin_X3_become : GoodIn wsX4_waysToWin wsX3_become := goodIn_r _ [6, 7, 8, 9, 10, 11, 12, 13, 14, 15, 16, 17, 18, 19, 96, 97, 98, 99, 100, 101, 102, 103, 104] (by decide +kernel) (by decide +kernel)
set_option maxRecDepth 20000 in
theorem gX4_waysToWin_X3_become : GoodIn wsX4_waysToWin (wsV RX4 39 RX3 yX3_become wsX3_become) := goodIn_app (goodIn_of _ (by decide +kernel)) ggX4_waysToWin_X3_become
set_option maxRecDepth 20000 in
theorem ggX4_waysToWin_X4_waysFrom : GoodIn wsX4_waysToWin wsX4_waysFrom := goodIn_r _ [24, 1, 25, 26, 27, 28, 29, 30, 31, 32, 33, 34, 5, 35, 19, 36, 37, 38, 39, 40, 15, 13, 14, 41, 42, 43, 44, 45, 46, 47, 48, 49, 50, 51, 52, 53, 54, 55, 56, 57, 58, 59, 60, 61, 7, 62, 63, 64, 65, 12, 66, 67, 68, 69, 70, 71, 72, 73, 74, 75, 76, 77, 78, 79, 80, 81, 82, 83, 84, 85, 20, 21, 22, 23, 86, 87, 88, 89, 90, 91, 92, 93, 94, 95, 96, 97, 98, 99, 100, 101, 102, 103, 104, 105, 106, 107, 108, 109, 110] (by decide +kernel) (by decide +kernel)
set_option maxRecDepth 20000 in
theorem gX4_waysToWin_X4_waysFrom : GoodIn wsX4_waysToWin (wsV RX4 108 RX4 yX4_waysFrom wsX4_waysFrom) := goodIn_app (goodIn_of _ (by decide +kernel)) ggX4_waysToWin_X4_waysFrom
theorem dX4_waysToWin_0 : decode cX4_waysToWin 0 = .ok (.aload_n 0, 1) := by decide +kernel
theorem dX4_waysToWin_1 : decode cX4_waysToWin 1 = .ok (.getfield 12, 3) := by decide +kernel
theorem dX4_waysToWin_4 : decode cX4_waysToWin 4 = .ok (.aload_n 1, 1) := by decide +kernel
theorem dX4_waysToWin_5 : decode cX4_waysToWin 5 = .ok (.invokevirtual 39, 3) := by decide +kernel
theorem dX4_waysToWin_8 : decode cX4_waysToWin 8 = .ok (.aload_n 0, 1) := by decide +kernel
theorem dX4_waysToWin_9 : decode cX4_waysToWin 9 = .ok (.iload_n 2, 1) := by decide +kernel
theorem dX4_waysToWin_10 : decode cX4_waysToWin 10 = .ok (.iload_n 3, 1) := by decide +kernel
theorem dX4_waysToWin_11 : decode cX4_waysToWin 11 = .ok (.iload 4, 2) := by decide +kernel
theorem dX4_waysToWin_13 : decode cX4_waysToWin 13 = .ok (.iload 5, 2) := by decide +kernel
theorem dX4_waysToWin_15 : decode cX4_waysToWin 15 = .ok (.invokevirtual 108, 3) := by decide +kernel
theorem dX4_waysToWin_18 : decode cX4_waysToWin 18 = .ok (.ireturn, 1) := by decide +kernel
set_option maxRecDepth 20000 in
theorem ggX4_waysFrom_X7_power : GoodIn wsX4_waysFrom wsX7_power := goodIn_r _ [8] (by decide +kernel) (by decide +kernel)
set_option maxRecDepth 20000 in
theorem gX4_waysFrom_X7_power_n112 : GoodIn wsX4_waysFrom (wsX7_power) := ggX4_waysFrom_X7_power
set_option maxRecDepth 20000 in
theorem ggX4_waysFrom_X3_playAt : GoodIn wsX4_waysFrom wsX3_playAt := goodIn_r _ [13, 14, 15, 16, 17, 18, 12, 19, 20, 21, 22, 23, 24, 25, 26, 27, 28, 29, 30, 31, 32, 33, 34, 35, 36, 37, 38, 39, 40, 41, 42, 43, 44, 45, 46, 47, 48, 49, 50, 7, 51, 52, 53, 54, 55, 56, 57, 58, 59, 60, 61, 62, 63, 64, 65, 66, 67, 68, 69, 84, 85, 86, 87, 88, 89, 90, 91, 92, 93, 94, 95, 96, 97, 98] (by decide +kernel) (by decide +kernel)
set_option maxRecDepth 20000 in
theorem gX4_waysFrom_X3_playAt : GoodIn wsX4_waysFrom (wsV RX4 55 RX3 yX3_playAt wsX3_playAt) := goodIn_app (goodIn_of _ (by decide +kernel)) ggX4_waysFrom_X3_playAt
set_option maxRecDepth 20000 in
theorem ggX4_waysFrom_X4_waysFrom : GoodIn wsX4_waysFrom wsX4_waysFrom := goodIn_r _ [0, 1, 2, 3, 4, 5, 6, 7, 8, 9, 10, 11, 12, 13, 14, 15, 16, 17, 18, 19, 20, 21, 22, 23, 24, 25, 26, 27, 28, 29, 30, 31, 32, 33, 34, 35, 36, 37, 38, 39, 40, 41, 42, 43, 44, 45, 46, 47, 48, 49, 50, 51, 52, 53, 54, 55, 56, 57, 58, 59, 60, 61, 62, 63, 64, 65, 66, 67, 68, 69, 70, 71, 72, 73, 74, 75, 76, 77, 78, 79, 80, 81, 82, 83, 84, 85, 86, 87, 88, 89, 90, 91, 92, 93, 94, 95, 96, 97, 98] (by decide +kernel) (by decide +kernel)
set_option maxRecDepth 20000 in
theorem gX4_waysFrom_X4_waysFrom : GoodIn wsX4_waysFrom (wsV RX4 108 RX4 yX4_waysFrom wsX4_waysFrom) := goodIn_app (goodIn_of _ (by decide +kernel)) ggX4_waysFrom_X4_waysFrom
set_option maxRecDepth 20000 in
theorem ggX4_waysFrom_X2_giveBack : GoodIn wsX4_waysFrom wsX2_giveBack := goodIn_r _ [77, 29, 28, 31, 30, 33, 32, 34, 35, 36, 37, 38, 39, 93, 94, 95, 96, 97, 98, 84, 85, 86, 87, 88, 89, 90, 91, 92] (by decide +kernel) (by decide +kernel)
set_option maxRecDepth 20000 in
theorem gX4_waysFrom_X2_giveBack : GoodIn wsX4_waysFrom (wsV RX4 59 RX2 yX2_giveBack wsX2_giveBack) := goodIn_app (goodIn_of _ (by decide +kernel)) ggX4_waysFrom_X2_giveBack
theorem dX4_waysFrom_0 : decode cX4_waysFrom 0 = .ok (.aload_n 0, 1) := by decide +kernel
theorem dX4_waysFrom_1 : decode cX4_waysFrom 1 = .ok (.getfield 12, 3) := by decide +kernel
theorem dX4_waysFrom_4 : decode cX4_waysFrom 4 = .ok (.getfield 48, 3) := by decide +kernel
theorem dX4_waysFrom_7 : decode cX4_waysFrom 7 = .ok (.iload_n 1, 1) := by decide +kernel
theorem dX4_waysFrom_8 : decode cX4_waysFrom 8 = .ok (.iaload, 1) := by decide +kernel
theorem dX4_waysFrom_9 : decode cX4_waysFrom 9 = .ok (.ifCond .ne 10, 3) := by decide +kernel
theorem dX4_waysFrom_12 : decode cX4_waysFrom 12 = .ok (.bipush 10, 2) := by decide +kernel
theorem dX4_waysFrom_14 : decode cX4_waysFrom 14 = .ok (.iload_n 3, 1) := by decide +kernel
theorem dX4_waysFrom_15 : decode cX4_waysFrom 15 = .ok (.invokestatic 112, 3) := by decide +kernel
theorem dX4_waysFrom_18 : decode cX4_waysFrom 18 = .ok (.ireturn, 1) := by decide +kernel
theorem dX4_waysFrom_19 : decode cX4_waysFrom 19 = .ok (.iload_n 3, 1) := by decide +kernel
theorem dX4_waysFrom_20 : decode cX4_waysFrom 20 = .ok (.ifCond .gt 5, 3) := by decide +kernel
theorem dX4_waysFrom_23 : decode cX4_waysFrom 23 = .ok (.iconst 0, 1) := by decide +kernel
theorem dX4_waysFrom_24 : decode cX4_waysFrom 24 = .ok (.ireturn, 1) := by decide +kernel
theorem dX4_waysFrom_25 : decode cX4_waysFrom 25 = .ok (.iconst 0, 1) := by decide +kernel
theorem dX4_waysFrom_26 : decode cX4_waysFrom 26 = .ok (.istore 5, 2) := by decide +kernel
theorem dX4_waysFrom_28 : decode cX4_waysFrom 28 = .ok (.iconst 0, 1) := by decide +kernel
theorem dX4_waysFrom_29 : decode cX4_waysFrom 29 = .ok (.istore 6, 2) := by decide +kernel
theorem dX4_waysFrom_31 : decode cX4_waysFrom 31 = .ok (.iload 6, 2) := by decide +kernel
theorem dX4_waysFrom_33 : decode cX4_waysFrom 33 = .ok (.iconst 1, 1) := by decide +kernel
theorem dX4_waysFrom_34 : decode cX4_waysFrom 34 = .ok (.if_icmp .gt 101, 3) := by decide +kernel
theorem dX4_waysFrom_37 : decode cX4_waysFrom 37 = .ok (.iload 6, 2) := by decide +kernel
theorem dX4_waysFrom_39 : decode cX4_waysFrom 39 = .ok (.iconst 1, 1) := by decide +kernel
theorem dX4_waysFrom_40 : decode cX4_waysFrom 40 = .ok (.if_icmp .ne 8, 3) := by decide +kernel
theorem dX4_waysFrom_43 : decode cX4_waysFrom 43 = .ok (.iload 4, 2) := by decide +kernel
theorem dX4_waysFrom_45 : decode cX4_waysFrom 45 = .ok (.goto 8, 3) := by decide +kernel
theorem dX4_waysFrom_48 : decode cX4_waysFrom 48 = .ok (.bipush 10, 2) := by decide +kernel
theorem dX4_waysFrom_50 : decode cX4_waysFrom 50 = .ok (.iload 4, 2) := by decide +kernel
theorem dX4_waysFrom_52 : decode cX4_waysFrom 52 = .ok (.isub, 1) := by decide +kernel
theorem dX4_waysFrom_53 : decode cX4_waysFrom 53 = .ok (.istore 7, 2) := by decide +kernel
theorem dX4_waysFrom_55 : decode cX4_waysFrom 55 = .ok (.aload_n 0, 1) := by decide +kernel
theorem dX4_waysFrom_56 : decode cX4_waysFrom 56 = .ok (.getfield 12, 3) := by decide +kernel
theorem dX4_waysFrom_59 : decode cX4_waysFrom 59 = .ok (.iload_n 2, 1) := by decide +kernel
theorem dX4_waysFrom_60 : decode cX4_waysFrom 60 = .ok (.iload 6, 2) := by decide +kernel
theorem dX4_waysFrom_62 : decode cX4_waysFrom 62 = .ok (.iconst 1, 1) := by decide +kernel
theorem dX4_waysFrom_63 : decode cX4_waysFrom 63 = .ok (.if_icmp .ne 13, 3) := by decide +kernel
theorem dX4_waysFrom_66 : decode cX4_waysFrom 66 = .ok (.aload_n 0, 1) := by decide +kernel
theorem dX4_waysFrom_67 : decode cX4_waysFrom 67 = .ok (.getfield 12, 3) := by decide +kernel
theorem dX4_waysFrom_70 : decode cX4_waysFrom 70 = .ok (.getfield 100, 3) := by decide +kernel
theorem dX4_waysFrom_73 : decode cX4_waysFrom 73 = .ok (.goto 10, 3) := by decide +kernel
theorem dX4_waysFrom_76 : decode cX4_waysFrom 76 = .ok (.aload_n 0, 1) := by decide +kernel
theorem dX4_waysFrom_77 : decode cX4_waysFrom 77 = .ok (.getfield 12, 3) := by decide +kernel
theorem dX4_waysFrom_80 : decode cX4_waysFrom 80 = .ok (.getfield 97, 3) := by decide +kernel
theorem dX4_waysFrom_83 : decode cX4_waysFrom 83 = .ok (.aload_n 0, 1) := by decide +kernel
theorem dX4_waysFrom_84 : decode cX4_waysFrom 84 = .ok (.getfield 34, 3) := by decide +kernel
theorem dX4_waysFrom_87 : decode cX4_waysFrom 87 = .ok (.iload_n 3, 1) := by decide +kernel
theorem dX4_waysFrom_88 : decode cX4_waysFrom 88 = .ok (.iconst 1, 1) := by decide +kernel
theorem dX4_waysFrom_89 : decode cX4_waysFrom 89 = .ok (.isub, 1) := by decide +kernel
theorem dX4_waysFrom_90 : decode cX4_waysFrom 90 = .ok (.aaload, 1) := by decide +kernel
theorem dX4_waysFrom_91 : decode cX4_waysFrom 91 = .ok (.invokevirtual 55, 3) := by decide +kernel
theorem dX4_waysFrom_94 : decode cX4_waysFrom 94 = .ok (.pop, 1) := by decide +kernel
theorem dX4_waysFrom_95 : decode cX4_waysFrom 95 = .ok (.iload 5, 2) := by decide +kernel
theorem dX4_waysFrom_97 : decode cX4_waysFrom 97 = .ok (.iload 7, 2) := by decide +kernel
theorem dX4_waysFrom_99 : decode cX4_waysFrom 99 = .ok (.aload_n 0, 1) := by decide +kernel
theorem dX4_waysFrom_100 : decode cX4_waysFrom 100 = .ok (.iload_n 1, 1) := by decide +kernel
theorem dX4_waysFrom_101 : decode cX4_waysFrom 101 = .ok (.iload_n 2, 1) := by decide +kernel
theorem dX4_waysFrom_102 : decode cX4_waysFrom 102 = .ok (.iload_n 3, 1) := by decide +kernel
theorem dX4_waysFrom_103 : decode cX4_waysFrom 103 = .ok (.iconst 1, 1) := by decide +kernel
theorem dX4_waysFrom_104 : decode cX4_waysFrom 104 = .ok (.isub, 1) := by decide +kernel
theorem dX4_waysFrom_105 : decode cX4_waysFrom 105 = .ok (.iload 4, 2) := by decide +kernel
theorem dX4_waysFrom_107 : decode cX4_waysFrom 107 = .ok (.invokevirtual 108, 3) := by decide +kernel
theorem dX4_waysFrom_110 : decode cX4_waysFrom 110 = .ok (.imul, 1) := by decide +kernel
theorem dX4_waysFrom_111 : decode cX4_waysFrom 111 = .ok (.iadd, 1) := by decide +kernel
theorem dX4_waysFrom_112 : decode cX4_waysFrom 112 = .ok (.istore 5, 2) := by decide +kernel
theorem dX4_waysFrom_114 : decode cX4_waysFrom 114 = .ok (.aload_n 0, 1) := by decide +kernel
theorem dX4_waysFrom_115 : decode cX4_waysFrom 115 = .ok (.getfield 34, 3) := by decide +kernel
theorem dX4_waysFrom_118 : decode cX4_waysFrom 118 = .ok (.iload_n 3, 1) := by decide +kernel
theorem dX4_waysFrom_119 : decode cX4_waysFrom 119 = .ok (.iconst 1, 1) := by decide +kernel
theorem dX4_waysFrom_120 : decode cX4_waysFrom 120 = .ok (.isub, 1) := by decide +kernel
theorem dX4_waysFrom_121 : decode cX4_waysFrom 121 = .ok (.aaload, 1) := by decide +kernel
theorem dX4_waysFrom_122 : decode cX4_waysFrom 122 = .ok (.aload_n 0, 1) := by decide +kernel
theorem dX4_waysFrom_123 : decode cX4_waysFrom 123 = .ok (.getfield 12, 3) := by decide +kernel
theorem dX4_waysFrom_126 : decode cX4_waysFrom 126 = .ok (.invokevirtual 59, 3) := by decide +kernel
theorem dX4_waysFrom_129 : decode cX4_waysFrom 129 = .ok (.iinc 6 1, 3) := by decide +kernel
theorem dX4_waysFrom_132 : decode cX4_waysFrom 132 = .ok (.goto (-101), 3) := by decide +kernel
theorem dX4_waysFrom_135 : decode cX4_waysFrom 135 = .ok (.iload 5, 2) := by decide +kernel
theorem dX4_waysFrom_137 : decode cX4_waysFrom 137 = .ok (.ireturn, 1) := by decide +kernel
set_option maxRecDepth 20000 in
theorem ggX4_winsByDraws_X3_become : GoodIn wsX4_winsByDraws wsX3_become := goodIn_r _ [17, 18, 19, 20, 21, 22, 23, 24, 25, 26, 27, 28, 29, 30, 97, 98, 99, 100, 101, 102, 103, 104, 105] (by decide +kernel) (by decide +kernel)
set_option maxRecDepth 20000 in
theorem gX4_winsByDraws_X3_become : GoodIn wsX4_winsByDraws (wsV RX4 39 RX3 yX3_become wsX3_become) := goodIn_app (goodIn_of _ (by decide +kernel)) ggX4_winsByDraws_X3_become
set_option maxRecDepth 20000 in
theorem ggX4_winsByDraws_X7_isColumn : GoodIn wsX4_winsByDraws wsX7_isColumn := goodIn_r _ [33, 34, 35, 32, 36] (by decide +kernel) (by decide +kernel)
set_option maxRecDepth 20000 in
theorem gX4_winsByDraws_X7_isColumn_n128 : GoodIn wsX4_winsByDraws (wsX7_isColumn) := ggX4_winsByDraws_X7_isColumn
set_option maxRecDepth 20000 in
theorem ggX4_winsByDraws_X3_lay : GoodIn wsX4_winsByDraws wsX3_lay := goodIn_r _ [40, 25, 24, 31, 32, 33, 34, 35, 36, 41, 42, 43, 16, 44, 26, 97, 98, 99, 100, 101, 102, 103, 104, 105] (by decide +kernel) (by decide +kernel)
set_option maxRecDepth 20000 in
theorem gX4_winsByDraws_X3_lay : GoodIn wsX4_winsByDraws (wsV RX4 134 RX3 yX3_lay wsX3_lay) := goodIn_app (goodIn_of _ (by decide +kernel)) ggX4_winsByDraws_X3_lay
set_option maxRecDepth 20000 in
theorem ggX4_winsByDraws_X3_gripAhead : GoodIn wsX4_winsByDraws wsX3_gripAhead := goodIn_r _ [48, 29, 30, 28, 27, 97, 98, 99, 100, 101, 102, 103, 104, 105] (by decide +kernel) (by decide +kernel)
set_option maxRecDepth 20000 in
theorem gX4_winsByDraws_X3_gripAhead : GoodIn wsX4_winsByDraws (wsV RX4 51 RX3 yX3_gripAhead wsX3_gripAhead) := goodIn_app (goodIn_of _ (by decide +kernel)) ggX4_winsByDraws_X3_gripAhead
set_option maxRecDepth 20000 in
theorem ggX4_winsByDraws_X3_playAt : GoodIn wsX4_winsByDraws wsX3_playAt := goodIn_r _ [52, 30, 53, 54, 55, 56, 16, 57, 26, 24, 25, 58, 59, 60, 61, 62, 63, 64, 65, 66, 67, 68, 69, 70, 71, 72, 73, 74, 75, 76, 77, 78, 18, 79, 80, 81, 82, 23, 83, 32, 84, 85, 86, 87, 88, 89, 41, 42, 43, 44, 90, 38, 39, 40, 31, 33, 34, 35, 36, 97, 98, 99, 100, 101, 102, 103, 104, 105, 106, 107, 108, 109, 110, 111] (by decide +kernel) (by decide +kernel)
set_option maxRecDepth 20000 in
theorem gX4_winsByDraws_X3_playAt : GoodIn wsX4_winsByDraws (wsV RX4 55 RX3 yX3_playAt wsX3_playAt) := goodIn_app (goodIn_of _ (by decide +kernel)) ggX4_winsByDraws_X3_playAt
theorem dX4_winsByDraws_0 : decode cX4_winsByDraws 0 = .ok (.aload_n 0, 1) := by decide +kernel
theorem dX4_winsByDraws_1 : decode cX4_winsByDraws 1 = .ok (.getfield 12, 3) := by decide +kernel
theorem dX4_winsByDraws_4 : decode cX4_winsByDraws 4 = .ok (.aload_n 1, 1) := by decide +kernel
theorem dX4_winsByDraws_5 : decode cX4_winsByDraws 5 = .ok (.invokevirtual 39, 3) := by decide +kernel
theorem dX4_winsByDraws_8 : decode cX4_winsByDraws 8 = .ok (.iconst 0, 1) := by decide +kernel
theorem dX4_winsByDraws_9 : decode cX4_winsByDraws 9 = .ok (.istore 4, 2) := by decide +kernel
theorem dX4_winsByDraws_11 : decode cX4_winsByDraws 11 = .ok (.iload_n 3, 1) := by decide +kernel
theorem dX4_winsByDraws_12 : decode cX4_winsByDraws 12 = .ok (.i2l, 1) := by decide +kernel
theorem dX4_winsByDraws_13 : decode cX4_winsByDraws 13 = .ok (.lstore 5, 2) := by decide +kernel
theorem dX4_winsByDraws_15 : decode cX4_winsByDraws 15 = .ok (.iconst 0, 1) := by decide +kernel
theorem dX4_winsByDraws_16 : decode cX4_winsByDraws 16 = .ok (.istore 7, 2) := by decide +kernel
theorem dX4_winsByDraws_18 : decode cX4_winsByDraws 18 = .ok (.iload 7, 2) := by decide +kernel
theorem dX4_winsByDraws_20 : decode cX4_winsByDraws 20 = .ok (.iload_n 2, 1) := by decide +kernel
theorem dX4_winsByDraws_21 : decode cX4_winsByDraws 21 = .ok (.if_icmp .ge 117, 3) := by decide +kernel
theorem dX4_winsByDraws_24 : decode cX4_winsByDraws 24 = .ok (.lload 5, 2) := by decide +kernel
theorem dX4_winsByDraws_26 : decode cX4_winsByDraws 26 = .ok (.ldc2_w 116, 3) := by decide +kernel
theorem dX4_winsByDraws_29 : decode cX4_winsByDraws 29 = .ok (.lmul, 1) := by decide +kernel
theorem dX4_winsByDraws_30 : decode cX4_winsByDraws 30 = .ok (.ldc2_w 118, 3) := by decide +kernel
theorem dX4_winsByDraws_33 : decode cX4_winsByDraws 33 = .ok (.lrem, 1) := by decide +kernel
theorem dX4_winsByDraws_34 : decode cX4_winsByDraws 34 = .ok (.lstore 5, 2) := by decide +kernel
theorem dX4_winsByDraws_36 : decode cX4_winsByDraws 36 = .ok (.lload 5, 2) := by decide +kernel
theorem dX4_winsByDraws_38 : decode cX4_winsByDraws 38 = .ok (.iconst 1, 1) := by decide +kernel
theorem dX4_winsByDraws_39 : decode cX4_winsByDraws 39 = .ok (.aload_n 0, 1) := by decide +kernel
theorem dX4_winsByDraws_40 : decode cX4_winsByDraws 40 = .ok (.getfield 12, 3) := by decide +kernel
theorem dX4_winsByDraws_43 : decode cX4_winsByDraws 43 = .ok (.getfield 120, 3) := by decide +kernel
theorem dX4_winsByDraws_46 : decode cX4_winsByDraws 46 = .ok (.invokestatic 123, 3) := by decide +kernel
theorem dX4_winsByDraws_49 : decode cX4_winsByDraws 49 = .ok (.i2l, 1) := by decide +kernel
theorem dX4_winsByDraws_50 : decode cX4_winsByDraws 50 = .ok (.lrem, 1) := by decide +kernel
theorem dX4_winsByDraws_51 : decode cX4_winsByDraws 51 = .ok (.l2i, 1) := by decide +kernel
theorem dX4_winsByDraws_52 : decode cX4_winsByDraws 52 = .ok (.istore 8, 2) := by decide +kernel
theorem dX4_winsByDraws_54 : decode cX4_winsByDraws 54 = .ok (.aload_n 0, 1) := by decide +kernel
theorem dX4_winsByDraws_55 : decode cX4_winsByDraws 55 = .ok (.getfield 12, 3) := by decide +kernel
theorem dX4_winsByDraws_58 : decode cX4_winsByDraws 58 = .ok (.getfield 48, 3) := by decide +kernel
theorem dX4_winsByDraws_61 : decode cX4_winsByDraws 61 = .ok (.iload 8, 2) := by decide +kernel
theorem dX4_winsByDraws_63 : decode cX4_winsByDraws 63 = .ok (.iaload, 1) := by decide +kernel
theorem dX4_winsByDraws_64 : decode cX4_winsByDraws 64 = .ok (.invokestatic 128, 3) := by decide +kernel
theorem dX4_winsByDraws_67 : decode cX4_winsByDraws 67 = .ok (.ifCond .ne 21, 3) := by decide +kernel
theorem dX4_winsByDraws_70 : decode cX4_winsByDraws 70 = .ok (.aload_n 0, 1) := by decide +kernel
theorem dX4_winsByDraws_71 : decode cX4_winsByDraws 71 = .ok (.getfield 12, 3) := by decide +kernel
theorem dX4_winsByDraws_74 : decode cX4_winsByDraws 74 = .ok (.iload 8, 2) := by decide +kernel
theorem dX4_winsByDraws_76 : decode cX4_winsByDraws 76 = .ok (.lload 5, 2) := by decide +kernel
theorem dX4_winsByDraws_78 : decode cX4_winsByDraws 78 = .ok (.ldc2_w 132, 3) := by decide +kernel
theorem dX4_winsByDraws_81 : decode cX4_winsByDraws 81 = .ok (.lrem, 1) := by decide +kernel
theorem dX4_winsByDraws_82 : decode cX4_winsByDraws 82 = .ok (.l2i, 1) := by decide +kernel
theorem dX4_winsByDraws_83 : decode cX4_winsByDraws 83 = .ok (.iconst 1, 1) := by decide +kernel
theorem dX4_winsByDraws_84 : decode cX4_winsByDraws 84 = .ok (.iadd, 1) := by decide +kernel
theorem dX4_winsByDraws_85 : decode cX4_winsByDraws 85 = .ok (.invokevirtual 134, 3) := by decide +kernel
theorem dX4_winsByDraws_88 : decode cX4_winsByDraws 88 = .ok (.lload 5, 2) := by decide +kernel
theorem dX4_winsByDraws_90 : decode cX4_winsByDraws 90 = .ok (.ldc2_w 137, 3) := by decide +kernel
theorem dX4_winsByDraws_93 : decode cX4_winsByDraws 93 = .ok (.ldiv, 1) := by decide +kernel
theorem dX4_winsByDraws_94 : decode cX4_winsByDraws 94 = .ok (.ldc2_w 132, 3) := by decide +kernel
theorem dX4_winsByDraws_97 : decode cX4_winsByDraws 97 = .ok (.lrem, 1) := by decide +kernel
theorem dX4_winsByDraws_98 : decode cX4_winsByDraws 98 = .ok (.l2i, 1) := by decide +kernel
theorem dX4_winsByDraws_99 : decode cX4_winsByDraws 99 = .ok (.iconst 1, 1) := by decide +kernel
theorem dX4_winsByDraws_100 : decode cX4_winsByDraws 100 = .ok (.iadd, 1) := by decide +kernel
theorem dX4_winsByDraws_101 : decode cX4_winsByDraws 101 = .ok (.istore 9, 2) := by decide +kernel
theorem dX4_winsByDraws_103 : decode cX4_winsByDraws 103 = .ok (.aload_n 0, 1) := by decide +kernel
theorem dX4_winsByDraws_104 : decode cX4_winsByDraws 104 = .ok (.getfield 12, 3) := by decide +kernel
theorem dX4_winsByDraws_107 : decode cX4_winsByDraws 107 = .ok (.iload 9, 2) := by decide +kernel
theorem dX4_winsByDraws_109 : decode cX4_winsByDraws 109 = .ok (.aload_n 0, 1) := by decide +kernel
theorem dX4_winsByDraws_110 : decode cX4_winsByDraws 110 = .ok (.getfield 12, 3) := by decide +kernel
theorem dX4_winsByDraws_113 : decode cX4_winsByDraws 113 = .ok (.iconst 0, 1) := by decide +kernel
theorem dX4_winsByDraws_114 : decode cX4_winsByDraws 114 = .ok (.invokevirtual 51, 3) := by decide +kernel
theorem dX4_winsByDraws_117 : decode cX4_winsByDraws 117 = .ok (.aload_n 0, 1) := by decide +kernel
theorem dX4_winsByDraws_118 : decode cX4_winsByDraws 118 = .ok (.getfield 34, 3) := by decide +kernel
theorem dX4_winsByDraws_121 : decode cX4_winsByDraws 121 = .ok (.iconst 0, 1) := by decide +kernel
theorem dX4_winsByDraws_122 : decode cX4_winsByDraws 122 = .ok (.aaload, 1) := by decide +kernel
theorem dX4_winsByDraws_123 : decode cX4_winsByDraws 123 = .ok (.invokevirtual 55, 3) := by decide +kernel
theorem dX4_winsByDraws_126 : decode cX4_winsByDraws 126 = .ok (.ifCond .ne 6, 3) := by decide +kernel
theorem dX4_winsByDraws_129 : decode cX4_winsByDraws 129 = .ok (.iinc 4 1, 3) := by decide +kernel
theorem dX4_winsByDraws_132 : decode cX4_winsByDraws 132 = .ok (.iinc 7 1, 3) := by decide +kernel
theorem dX4_winsByDraws_135 : decode cX4_winsByDraws 135 = .ok (.goto (-117), 3) := by decide +kernel
theorem dX4_winsByDraws_138 : decode cX4_winsByDraws 138 = .ok (.iload 4, 2) := by decide +kernel
theorem dX4_winsByDraws_140 : decode cX4_winsByDraws 140 = .ok (.ireturn, 1) := by decide +kernel
set_option maxRecDepth 20000 in
theorem ggX5_init_X3_init : GoodIn wsX5_init wsX3_init := goodIn_r _ [17, 18, 2, 3, 4, 19, 20, 21, 22, 23, 24, 25, 26, 27, 36, 37, 38, 39, 40, 41, 42, 43, 44] (by decide +kernel) (by decide +kernel)
set_option maxRecDepth 20000 in
theorem gX5_init_X3_init_n17 : GoodIn wsX5_init (wsX3_init) := ggX5_init_X3_init
theorem dX5_init_0 : decode cX5_init 0 = .ok (.aload_n 0, 1) := by decide +kernel
theorem dX5_init_1 : decode cX5_init 1 = .ok (.invokespecial 3, 3) := by decide +kernel
theorem dX5_init_4 : decode cX5_init 4 = .ok (.aload_n 0, 1) := by decide +kernel
theorem dX5_init_5 : decode cX5_init 5 = .ok (.bipush 70, 2) := by decide +kernel
theorem dX5_init_7 : decode cX5_init 7 = .ok (.newarray .int, 2) := by decide +kernel
theorem dX5_init_9 : decode cX5_init 9 = .ok (.putfield 9, 3) := by decide +kernel
theorem dX5_init_12 : decode cX5_init 12 = .ok (.aload_n 0, 1) := by decide +kernel
theorem dX5_init_13 : decode cX5_init 13 = .ok (.new 15, 3) := by decide +kernel
theorem dX5_init_16 : decode cX5_init 16 = .ok (.dup, 1) := by decide +kernel
theorem dX5_init_17 : decode cX5_init 17 = .ok (.invokespecial 17, 3) := by decide +kernel
theorem dX5_init_20 : decode cX5_init 20 = .ok (.putfield 18, 3) := by decide +kernel
theorem dX5_init_23 : decode cX5_init 23 = .ok (.aload_n 0, 1) := by decide +kernel
theorem dX5_init_24 : decode cX5_init 24 = .ok (.iconst 0, 1) := by decide +kernel
theorem dX5_init_25 : decode cX5_init 25 = .ok (.putfield 22, 3) := by decide +kernel
theorem dX5_init_28 : decode cX5_init 28 = .ok (.aload_n 0, 1) := by decide +kernel
theorem dX5_init_29 : decode cX5_init 29 = .ok (.iconst 0, 1) := by decide +kernel
theorem dX5_init_30 : decode cX5_init 30 = .ok (.putfield 26, 3) := by decide +kernel
theorem dX5_init_33 : decode cX5_init 33 = .ok (.aload_n 0, 1) := by decide +kernel
theorem dX5_init_34 : decode cX5_init 34 = .ok (.iconst 0, 1) := by decide +kernel
theorem dX5_init_35 : decode cX5_init 35 = .ok (.putfield 29, 3) := by decide +kernel
theorem dX5_init_38 : decode cX5_init 38 = .ok (.aload_n 0, 1) := by decide +kernel
theorem dX5_init_39 : decode cX5_init 39 = .ok (.sipush 257, 3) := by decide +kernel
theorem dX5_init_42 : decode cX5_init 42 = .ok (.putfield 32, 3) := by decide +kernel
theorem dX5_init_45 : decode cX5_init 45 = .ok (.aload_n 0, 1) := by decide +kernel
theorem dX5_init_46 : decode cX5_init 46 = .ok (.iconst 0, 1) := by decide +kernel
theorem dX5_init_47 : decode cX5_init 47 = .ok (.putfield 35, 3) := by decide +kernel
theorem dX5_init_50 : decode cX5_init 50 = .ok (.aload_n 0, 1) := by decide +kernel
theorem dX5_init_51 : decode cX5_init 51 = .ok (.iconst 0, 1) := by decide +kernel
theorem dX5_init_52 : decode cX5_init 52 = .ok (.putfield 38, 3) := by decide +kernel
theorem dX5_init_55 : decode cX5_init 55 = .ok (.return_, 1) := by decide +kernel
theorem dX5_append_0 : decode cX5_append 0 = .ok (.aload_n 0, 1) := by decide +kernel
theorem dX5_append_1 : decode cX5_append 1 = .ok (.getfield 9, 3) := by decide +kernel
theorem dX5_append_4 : decode cX5_append 4 = .ok (.aload_n 0, 1) := by decide +kernel
theorem dX5_append_5 : decode cX5_append 5 = .ok (.getfield 22, 3) := by decide +kernel
theorem dX5_append_8 : decode cX5_append 8 = .ok (.iload_n 1, 1) := by decide +kernel
theorem dX5_append_9 : decode cX5_append 9 = .ok (.iastore, 1) := by decide +kernel
theorem dX5_append_10 : decode cX5_append 10 = .ok (.aload_n 0, 1) := by decide +kernel
theorem dX5_append_11 : decode cX5_append 11 = .ok (.dup, 1) := by decide +kernel
theorem dX5_append_12 : decode cX5_append 12 = .ok (.getfield 22, 3) := by decide +kernel
theorem dX5_append_15 : decode cX5_append 15 = .ok (.iconst 1, 1) := by decide +kernel
theorem dX5_append_16 : decode cX5_append 16 = .ok (.iadd, 1) := by decide +kernel
theorem dX5_append_17 : decode cX5_append 17 = .ok (.putfield 22, 3) := by decide +kernel
theorem dX5_append_20 : decode cX5_append 20 = .ok (.aload_n 0, 1) := by decide +kernel
theorem dX5_append_21 : decode cX5_append 21 = .ok (.getfield 22, 3) := by decide +kernel
theorem dX5_append_24 : decode cX5_append 24 = .ok (.ireturn, 1) := by decide +kernel
set_option maxRecDepth 20000 in
theorem ggX5_readTape_X5_advance : GoodIn wsX5_readTape wsX5_advance := goodIn_r _ [9, 2, 10, 4, 3, 11, 12, 13, 8, 14, 15, 16, 17, 18, 19, 20, 21, 22, 73, 74, 75, 76, 77, 78, 79, 80] (by decide +kernel) (by decide +kernel)
set_option maxRecDepth 20000 in
theorem gX5_readTape_X5_advance : GoodIn wsX5_readTape (wsV RX5 41 RX5 yX5_advance wsX5_advance) := goodIn_app (goodIn_of _ (by decide +kernel)) ggX5_readTape_X5_advance
set_option maxRecDepth 20000 in
theorem ggX5_readTape_X5_readLaw : GoodIn wsX5_readTape wsX5_readLaw := goodIn_r _ [26, 27, 28, 29, 30, 8, 31, 1, 3, 5, 6, 7, 9, 2, 10, 4, 11, 12, 13, 14, 15, 16, 17, 18, 19, 20, 21, 22, 32, 33, 34, 35, 36, 37, 38, 39, 40, 41, 42, 43, 44, 45, 73, 74, 75, 76, 77, 78, 79, 80, 81, 82, 83, 84, 85, 86, 87, 88, 89] (by decide +kernel) (by decide +kernel)
set_option maxRecDepth 20000 in
theorem gX5_readTape_X5_readLaw : GoodIn wsX5_readTape (wsV RX5 44 RX5 yX5_readLaw wsX5_readLaw) := goodIn_app (goodIn_of _ (by decide +kernel)) ggX5_readTape_X5_readLaw
set_option maxRecDepth 20000 in
theorem ggX5_readTape_X5_readToy : GoodIn wsX5_readTape wsX5_readToy := goodIn_r _ [49, 3, 1, 27, 50, 51, 52, 8, 53, 28, 29, 30, 31, 5, 6, 7, 9, 2, 10, 4, 11, 12, 13, 14, 15, 16, 17, 18, 19, 20, 21, 22, 32, 33, 34, 35, 54, 55, 56, 39, 57, 58, 41, 59, 60, 61, 62, 63, 64, 65, 66, 67, 68, 69, 70, 71, 72, 73, 74, 75, 76, 77, 78, 79, 80, 81, 82, 83, 84, 85, 86, 87, 88, 89] (by decide +kernel) (by decide +kernel)
set_option maxRecDepth 20000 in
theorem gX5_readTape_X5_readToy : GoodIn wsX5_readTape (wsV RX5 47 RX5 yX5_readToy wsX5_readToy) := goodIn_app (goodIn_of _ (by decide +kernel)) ggX5_readTape_X5_readToy
theorem dX5_readTape_0 : decode cX5_readTape 0 = .ok (.aload_n 0, 1) := by decide +kernel
theorem dX5_readTape_1 : decode cX5_readTape 1 = .ok (.iconst 0, 1) := by decide +kernel
theorem dX5_readTape_2 : decode cX5_readTape 2 = .ok (.putfield 26, 3) := by decide +kernel
theorem dX5_readTape_5 : decode cX5_readTape 5 = .ok (.aload_n 0, 1) := by decide +kernel
theorem dX5_readTape_6 : decode cX5_readTape 6 = .ok (.iconst 0, 1) := by decide +kernel
theorem dX5_readTape_7 : decode cX5_readTape 7 = .ok (.putfield 35, 3) := by decide +kernel
theorem dX5_readTape_10 : decode cX5_readTape 10 = .ok (.aload_n 0, 1) := by decide +kernel
theorem dX5_readTape_11 : decode cX5_readTape 11 = .ok (.invokevirtual 41, 3) := by decide +kernel
theorem dX5_readTape_14 : decode cX5_readTape 14 = .ok (.aload_n 0, 1) := by decide +kernel
theorem dX5_readTape_15 : decode cX5_readTape 15 = .ok (.invokevirtual 44, 3) := by decide +kernel
theorem dX5_readTape_18 : decode cX5_readTape 18 = .ok (.iconst 1, 1) := by decide +kernel
theorem dX5_readTape_19 : decode cX5_readTape 19 = .ok (.istore_n 1, 1) := by decide +kernel
theorem dX5_readTape_20 : decode cX5_readTape 20 = .ok (.iconst 0, 1) := by decide +kernel
theorem dX5_readTape_21 : decode cX5_readTape 21 = .ok (.istore_n 2, 1) := by decide +kernel
theorem dX5_readTape_22 : decode cX5_readTape 22 = .ok (.iload_n 2, 1) := by decide +kernel
theorem dX5_readTape_23 : decode cX5_readTape 23 = .ok (.bipush 7, 2) := by decide +kernel
theorem dX5_readTape_25 : decode cX5_readTape 25 = .ok (.if_icmp .gt 40, 3) := by decide +kernel
theorem dX5_readTape_28 : decode cX5_readTape 28 = .ok (.aload_n 0, 1) := by decide +kernel
theorem dX5_readTape_29 : decode cX5_readTape 29 = .ok (.getfield 26, 3) := by decide +kernel
theorem dX5_readTape_32 : decode cX5_readTape 32 = .ok (.ifCond .ne 33, 3) := by decide +kernel
theorem dX5_readTape_35 : decode cX5_readTape 35 = .ok (.iload_n 1, 1) := by decide +kernel
theorem dX5_readTape_36 : decode cX5_readTape 36 = .ok (.ifCond .eq 29, 3) := by decide +kernel
theorem dX5_readTape_39 : decode cX5_readTape 39 = .ok (.aload_n 0, 1) := by decide +kernel
theorem dX5_readTape_40 : decode cX5_readTape 40 = .ok (.invokevirtual 47, 3) := by decide +kernel
theorem dX5_readTape_43 : decode cX5_readTape 43 = .ok (.aload_n 0, 1) := by decide +kernel
theorem dX5_readTape_44 : decode cX5_readTape 44 = .ok (.getfield 32, 3) := by decide +kernel
theorem dX5_readTape_47 : decode cX5_readTape 47 = .ok (.sipush 257, 3) := by decide +kernel
theorem dX5_readTape_50 : decode cX5_readTape 50 = .ok (.if_icmp .eq 7, 3) := by decide +kernel
theorem dX5_readTape_53 : decode cX5_readTape 53 = .ok (.iconst 1, 1) := by decide +kernel
theorem dX5_readTape_54 : decode cX5_readTape 54 = .ok (.goto 4, 3) := by decide +kernel
theorem dX5_readTape_57 : decode cX5_readTape 57 = .ok (.iconst 0, 1) := by decide +kernel
theorem dX5_readTape_58 : decode cX5_readTape 58 = .ok (.istore_n 1, 1) := by decide +kernel
theorem dX5_readTape_59 : decode cX5_readTape 59 = .ok (.iinc 2 1, 3) := by decide +kernel
theorem dX5_readTape_62 : decode cX5_readTape 62 = .ok (.goto (-40), 3) := by decide +kernel
theorem dX5_readTape_65 : decode cX5_readTape 65 = .ok (.aload_n 0, 1) := by decide +kernel
theorem dX5_readTape_66 : decode cX5_readTape 66 = .ok (.iconst 0, 1) := by decide +kernel
theorem dX5_readTape_67 : decode cX5_readTape 67 = .ok (.putfield 22, 3) := by decide +kernel
theorem dX5_readTape_70 : decode cX5_readTape 70 = .ok (.aload_n 0, 1) := by decide +kernel
theorem dX5_readTape_71 : decode cX5_readTape 71 = .ok (.getfield 26, 3) := by decide +kernel
theorem dX5_readTape_74 : decode cX5_readTape 74 = .ok (.ifCond .ne 7, 3) := by decide +kernel
theorem dX5_readTape_77 : decode cX5_readTape 77 = .ok (.iconst 1, 1) := by decide +kernel
theorem dX5_readTape_78 : decode cX5_readTape 78 = .ok (.goto 4, 3) := by decide +kernel
theorem dX5_readTape_81 : decode cX5_readTape 81 = .ok (.iconst 0, 1) := by decide +kernel
theorem dX5_readTape_82 : decode cX5_readTape 82 = .ok (.ireturn, 1) := by decide +kernel
set_option maxRecDepth 20000 in
theorem ggX5_readLaw_X5_expect : GoodIn wsX5_readLaw wsX5_expect := goodIn_r _ [6, 7, 8, 9, 10, 11, 5, 12, 13, 14, 15, 16, 17, 18, 19, 20, 21, 22, 23, 24, 25, 26, 27, 42, 43, 44, 45, 46, 47, 48, 49] (by decide +kernel) (by decide +kernel)
set_option maxRecDepth 20000 in
theorem gX5_readLaw_X5_expect : GoodIn wsX5_readLaw (wsV RX5 50 RX5 yX5_expect wsX5_expect) := goodIn_app (goodIn_of _ (by decide +kernel)) ggX5_readLaw_X5_expect
set_option maxRecDepth 20000 in
theorem ggX5_readLaw_X5_expectNumber : GoodIn wsX5_readLaw wsX5_expectNumber := goodIn_r _ [31, 7, 8, 24, 25, 26, 27, 9, 10, 11, 5, 12, 13, 14, 15, 16, 17, 18, 19, 20, 21, 22, 23, 42, 43, 44, 45, 46, 47, 48, 49] (by decide +kernel) (by decide +kernel)
set_option maxRecDepth 20000 in
theorem gX5_readLaw_X5_expectNumber : GoodIn wsX5_readLaw (wsV RX5 54 RX5 yX5_expectNumber wsX5_expectNumber) := goodIn_app (goodIn_of _ (by decide +kernel)) ggX5_readLaw_X5_expectNumber
set_option maxRecDepth 20000 in
theorem ggX5_readLaw_X3_begin : GoodIn wsX5_readLaw wsX3_begin := goodIn_r _ [36, 37, 38, 39, 40, 41, 50, 51, 52, 53, 54, 55, 56, 57, 58] (by decide +kernel) (by decide +kernel)
set_option maxRecDepth 20000 in
theorem gX5_readLaw_X3_begin : GoodIn wsX5_readLaw (wsV RX5 58 RX3 yX3_begin wsX3_begin) := goodIn_app (goodIn_of _ (by decide +kernel)) ggX5_readLaw_X3_begin
theorem dX5_readLaw_0 : decode cX5_readLaw 0 = .ok (.aload_n 0, 1) := by decide +kernel
theorem dX5_readLaw_1 : decode cX5_readLaw 1 = .ok (.bipush 103, 2) := by decide +kernel
theorem dX5_readLaw_3 : decode cX5_readLaw 3 = .ok (.invokevirtual 50, 3) := by decide +kernel
theorem dX5_readLaw_6 : decode cX5_readLaw 6 = .ok (.aload_n 0, 1) := by decide +kernel
theorem dX5_readLaw_7 : decode cX5_readLaw 7 = .ok (.iconst 0, 1) := by decide +kernel
theorem dX5_readLaw_8 : decode cX5_readLaw 8 = .ok (.bipush 9, 2) := by decide +kernel
theorem dX5_readLaw_10 : decode cX5_readLaw 10 = .ok (.invokevirtual 54, 3) := by decide +kernel
theorem dX5_readLaw_13 : decode cX5_readLaw 13 = .ok (.istore_n 1, 1) := by decide +kernel
theorem dX5_readLaw_14 : decode cX5_readLaw 14 = .ok (.aload_n 0, 1) := by decide +kernel
theorem dX5_readLaw_15 : decode cX5_readLaw 15 = .ok (.bipush 44, 2) := by decide +kernel
theorem dX5_readLaw_17 : decode cX5_readLaw 17 = .ok (.invokevirtual 50, 3) := by decide +kernel
theorem dX5_readLaw_20 : decode cX5_readLaw 20 = .ok (.aload_n 0, 1) := by decide +kernel
theorem dX5_readLaw_21 : decode cX5_readLaw 21 = .ok (.iconst 0, 1) := by decide +kernel
theorem dX5_readLaw_22 : decode cX5_readLaw 22 = .ok (.bipush 9, 2) := by decide +kernel
theorem dX5_readLaw_24 : decode cX5_readLaw 24 = .ok (.invokevirtual 54, 3) := by decide +kernel
theorem dX5_readLaw_27 : decode cX5_readLaw 27 = .ok (.istore_n 2, 1) := by decide +kernel
theorem dX5_readLaw_28 : decode cX5_readLaw 28 = .ok (.aload_n 0, 1) := by decide +kernel
theorem dX5_readLaw_29 : decode cX5_readLaw 29 = .ok (.bipush 44, 2) := by decide +kernel
theorem dX5_readLaw_31 : decode cX5_readLaw 31 = .ok (.invokevirtual 50, 3) := by decide +kernel
theorem dX5_readLaw_34 : decode cX5_readLaw 34 = .ok (.aload_n 0, 1) := by decide +kernel
theorem dX5_readLaw_35 : decode cX5_readLaw 35 = .ok (.iconst 1, 1) := by decide +kernel
theorem dX5_readLaw_36 : decode cX5_readLaw 36 = .ok (.bipush 9, 2) := by decide +kernel
theorem dX5_readLaw_38 : decode cX5_readLaw 38 = .ok (.invokevirtual 54, 3) := by decide +kernel
theorem dX5_readLaw_41 : decode cX5_readLaw 41 = .ok (.istore_n 3, 1) := by decide +kernel
theorem dX5_readLaw_42 : decode cX5_readLaw 42 = .ok (.aload_n 0, 1) := by decide +kernel
theorem dX5_readLaw_43 : decode cX5_readLaw 43 = .ok (.bipush 59, 2) := by decide +kernel
theorem dX5_readLaw_45 : decode cX5_readLaw 45 = .ok (.invokevirtual 50, 3) := by decide +kernel
theorem dX5_readLaw_48 : decode cX5_readLaw 48 = .ok (.aload_n 0, 1) := by decide +kernel
theorem dX5_readLaw_49 : decode cX5_readLaw 49 = .ok (.getfield 18, 3) := by decide +kernel
theorem dX5_readLaw_52 : decode cX5_readLaw 52 = .ok (.iload_n 1, 1) := by decide +kernel
theorem dX5_readLaw_53 : decode cX5_readLaw 53 = .ok (.iload_n 2, 1) := by decide +kernel
theorem dX5_readLaw_54 : decode cX5_readLaw 54 = .ok (.iload_n 3, 1) := by decide +kernel
theorem dX5_readLaw_55 : decode cX5_readLaw 55 = .ok (.invokevirtual 58, 3) := by decide +kernel
theorem dX5_readLaw_58 : decode cX5_readLaw 58 = .ok (.return_, 1) := by decide +kernel
set_option maxRecDepth 20000 in
theorem ggX5_readToy_X5_kindOf : GoodIn wsX5_readToy wsX5_kindOf := goodIn_r _ [8] (by decide +kernel) (by decide +kernel)
set_option maxRecDepth 20000 in
theorem gX5_readToy_X5_kindOf : GoodIn wsX5_readToy (va_wsS RX5 62 yX5_kindOf wsX5_kindOf) := goodIn_app (goodIn_of _ (by decide +kernel)) ggX5_readToy_X5_kindOf
set_option maxRecDepth 20000 in
theorem ggX5_readToy_X5_expect : GoodIn wsX5_readToy wsX5_expect := goodIn_r _ [12, 2, 1, 13, 14, 15, 7, 16, 17, 18, 19, 20, 21, 22, 23, 24, 25, 26, 27, 28, 29, 30, 31, 57, 58, 59, 60, 61, 62, 63, 64] (by decide +kernel) (by decide +kernel)
set_option maxRecDepth 20000 in
theorem gX5_readToy_X5_expect : GoodIn wsX5_readToy (wsV RX5 50 RX5 yX5_expect wsX5_expect) := goodIn_app (goodIn_of _ (by decide +kernel)) ggX5_readToy_X5_expect
set_option maxRecDepth 20000 in
theorem ggX5_readToy_X5_expectNumber : GoodIn wsX5_readToy wsX5_expectNumber := goodIn_r _ [35, 2, 1, 28, 29, 30, 31, 13, 14, 15, 7, 16, 17, 18, 19, 20, 21, 22, 23, 24, 25, 26, 27, 57, 58, 59, 60, 61, 62, 63, 64] (by decide +kernel) (by decide +kernel)
set_option maxRecDepth 20000 in
theorem gX5_readToy_X5_expectNumber : GoodIn wsX5_readToy (wsV RX5 54 RX5 yX5_expectNumber wsX5_expectNumber) := goodIn_app (goodIn_of _ (by decide +kernel)) ggX5_readToy_X5_expectNumber
set_option maxRecDepth 20000 in
theorem ggX5_readToy_X3_add : GoodIn wsX5_readToy wsX3_add := goodIn_r _ [40, 41, 42, 43, 44, 45, 46, 39, 47, 48, 49, 50, 30, 51, 52, 29, 31, 53, 54, 55, 56, 65, 66, 67, 68, 69, 70, 71, 72, 73] (by decide +kernel) (by decide +kernel)
set_option maxRecDepth 20000 in
theorem gX5_readToy_X3_add : GoodIn wsX5_readToy (wsV RX5 69 RX3 yX3_add wsX3_add) := goodIn_app (goodIn_of _ (by decide +kernel)) ggX5_readToy_X3_add
theorem dX5_readToy_0 : decode cX5_readToy 0 = .ok (.aload_n 0, 1) := by decide +kernel
theorem dX5_readToy_1 : decode cX5_readToy 1 = .ok (.getfield 32, 3) := by decide +kernel
theorem dX5_readToy_4 : decode cX5_readToy 4 = .ok (.invokestatic 62, 3) := by decide +kernel
theorem dX5_readToy_7 : decode cX5_readToy 7 = .ok (.istore_n 1, 1) := by decide +kernel
theorem dX5_readToy_8 : decode cX5_readToy 8 = .ok (.aload_n 0, 1) := by decide +kernel
theorem dX5_readToy_9 : decode cX5_readToy 9 = .ok (.getfield 26, 3) := by decide +kernel
theorem dX5_readToy_12 : decode cX5_readToy 12 = .ok (.ifCond .ne 24, 3) := by decide +kernel
theorem dX5_readToy_15 : decode cX5_readToy 15 = .ok (.iload_n 1, 1) := by decide +kernel
theorem dX5_readToy_16 : decode cX5_readToy 16 = .ok (.ifCond .eq 20, 3) := by decide +kernel
theorem dX5_readToy_19 : decode cX5_readToy 19 = .ok (.aload_n 0, 1) := by decide +kernel
theorem dX5_readToy_20 : decode cX5_readToy 20 = .ok (.getfield 18, 3) := by decide +kernel
theorem dX5_readToy_23 : decode cX5_readToy 23 = .ok (.getfield 66, 3) := by decide +kernel
theorem dX5_readToy_26 : decode cX5_readToy 26 = .ok (.bipush 7, 2) := by decide +kernel
theorem dX5_readToy_28 : decode cX5_readToy 28 = .ok (.if_icmp .lt 8, 3) := by decide +kernel
theorem dX5_readToy_31 : decode cX5_readToy 31 = .ok (.aload_n 0, 1) := by decide +kernel
theorem dX5_readToy_32 : decode cX5_readToy 32 = .ok (.iconst 3, 1) := by decide +kernel
theorem dX5_readToy_33 : decode cX5_readToy 33 = .ok (.putfield 26, 3) := by decide +kernel
theorem dX5_readToy_36 : decode cX5_readToy 36 = .ok (.aload_n 0, 1) := by decide +kernel
theorem dX5_readToy_37 : decode cX5_readToy 37 = .ok (.iload_n 1, 1) := by decide +kernel
theorem dX5_readToy_38 : decode cX5_readToy 38 = .ok (.ifCond .ne 9, 3) := by decide +kernel
theorem dX5_readToy_41 : decode cX5_readToy 41 = .ok (.sipush 258, 3) := by decide +kernel
theorem dX5_readToy_44 : decode cX5_readToy 44 = .ok (.goto 7, 3) := by decide +kernel
theorem dX5_readToy_47 : decode cX5_readToy 47 = .ok (.aload_n 0, 1) := by decide +kernel
theorem dX5_readToy_48 : decode cX5_readToy 48 = .ok (.getfield 32, 3) := by decide +kernel
theorem dX5_readToy_51 : decode cX5_readToy 51 = .ok (.invokevirtual 50, 3) := by decide +kernel
theorem dX5_readToy_54 : decode cX5_readToy 54 = .ok (.aload_n 0, 1) := by decide +kernel
theorem dX5_readToy_55 : decode cX5_readToy 55 = .ok (.iconst 1, 1) := by decide +kernel
theorem dX5_readToy_56 : decode cX5_readToy 56 = .ok (.bipush 9, 2) := by decide +kernel
theorem dX5_readToy_58 : decode cX5_readToy 58 = .ok (.invokevirtual 54, 3) := by decide +kernel
theorem dX5_readToy_61 : decode cX5_readToy 61 = .ok (.istore_n 2, 1) := by decide +kernel
theorem dX5_readToy_62 : decode cX5_readToy 62 = .ok (.aload_n 0, 1) := by decide +kernel
theorem dX5_readToy_63 : decode cX5_readToy 63 = .ok (.bipush 44, 2) := by decide +kernel
theorem dX5_readToy_65 : decode cX5_readToy 65 = .ok (.invokevirtual 50, 3) := by decide +kernel
theorem dX5_readToy_68 : decode cX5_readToy 68 = .ok (.aload_n 0, 1) := by decide +kernel
theorem dX5_readToy_69 : decode cX5_readToy 69 = .ok (.iconst 1, 1) := by decide +kernel
theorem dX5_readToy_70 : decode cX5_readToy 70 = .ok (.iconst 5, 1) := by decide +kernel
theorem dX5_readToy_71 : decode cX5_readToy 71 = .ok (.invokevirtual 54, 3) := by decide +kernel
theorem dX5_readToy_74 : decode cX5_readToy 74 = .ok (.istore_n 3, 1) := by decide +kernel
theorem dX5_readToy_75 : decode cX5_readToy 75 = .ok (.aload_n 0, 1) := by decide +kernel
theorem dX5_readToy_76 : decode cX5_readToy 76 = .ok (.bipush 59, 2) := by decide +kernel
theorem dX5_readToy_78 : decode cX5_readToy 78 = .ok (.invokevirtual 50, 3) := by decide +kernel
theorem dX5_readToy_81 : decode cX5_readToy 81 = .ok (.aload_n 0, 1) := by decide +kernel
theorem dX5_readToy_82 : decode cX5_readToy 82 = .ok (.getfield 26, 3) := by decide +kernel
theorem dX5_readToy_85 : decode cX5_readToy 85 = .ok (.ifCond .ne 13, 3) := by decide +kernel
theorem dX5_readToy_88 : decode cX5_readToy 88 = .ok (.aload_n 0, 1) := by decide +kernel
theorem dX5_readToy_89 : decode cX5_readToy 89 = .ok (.getfield 18, 3) := by decide +kernel
theorem dX5_readToy_92 : decode cX5_readToy 92 = .ok (.iload_n 1, 1) := by decide +kernel
theorem dX5_readToy_93 : decode cX5_readToy 93 = .ok (.iload_n 2, 1) := by decide +kernel
theorem dX5_readToy_94 : decode cX5_readToy 94 = .ok (.iload_n 3, 1) := by decide +kernel
theorem dX5_readToy_95 : decode cX5_readToy 95 = .ok (.invokevirtual 69, 3) := by decide +kernel
theorem dX5_readToy_98 : decode cX5_readToy 98 = .ok (.return_, 1) := by decide +kernel
set_option maxRecDepth 20000 in
theorem ggX5_expect_X5_advance : GoodIn wsX5_expect wsX5_advance := goodIn_r _ [7, 8, 9, 10, 2, 11, 12, 13, 6, 14, 15, 16, 17, 18, 19, 20, 21, 22, 23, 24, 25, 26, 27, 28, 29, 30] (by decide +kernel) (by decide +kernel)
set_option maxRecDepth 20000 in
theorem gX5_expect_X5_advance : GoodIn wsX5_expect (wsV RX5 41 RX5 yX5_advance wsX5_advance) := goodIn_app (goodIn_of _ (by decide +kernel)) ggX5_expect_X5_advance
theorem dX5_expect_0 : decode cX5_expect 0 = .ok (.aload_n 0, 1) := by decide +kernel
theorem dX5_expect_1 : decode cX5_expect 1 = .ok (.getfield 26, 3) := by decide +kernel
theorem dX5_expect_4 : decode cX5_expect 4 = .ok (.ifCond .eq 4, 3) := by decide +kernel
theorem dX5_expect_7 : decode cX5_expect 7 = .ok (.return_, 1) := by decide +kernel
theorem dX5_expect_8 : decode cX5_expect 8 = .ok (.aload_n 0, 1) := by decide +kernel
theorem dX5_expect_9 : decode cX5_expect 9 = .ok (.getfield 32, 3) := by decide +kernel
theorem dX5_expect_12 : decode cX5_expect 12 = .ok (.iload_n 1, 1) := by decide +kernel
theorem dX5_expect_13 : decode cX5_expect 13 = .ok (.if_icmp .ne 10, 3) := by decide +kernel
theorem dX5_expect_16 : decode cX5_expect 16 = .ok (.iload_n 1, 1) := by decide +kernel
theorem dX5_expect_17 : decode cX5_expect 17 = .ok (.sipush 258, 3) := by decide +kernel
theorem dX5_expect_20 : decode cX5_expect 20 = .ok (.if_icmp .ne 9, 3) := by decide +kernel
theorem dX5_expect_23 : decode cX5_expect 23 = .ok (.aload_n 0, 1) := by decide +kernel
theorem dX5_expect_24 : decode cX5_expect 24 = .ok (.iconst 1, 1) := by decide +kernel
theorem dX5_expect_25 : decode cX5_expect 25 = .ok (.putfield 26, 3) := by decide +kernel
theorem dX5_expect_28 : decode cX5_expect 28 = .ok (.return_, 1) := by decide +kernel
theorem dX5_expect_29 : decode cX5_expect 29 = .ok (.aload_n 0, 1) := by decide +kernel
theorem dX5_expect_30 : decode cX5_expect 30 = .ok (.invokevirtual 41, 3) := by decide +kernel
theorem dX5_expect_33 : decode cX5_expect 33 = .ok (.return_, 1) := by decide +kernel
set_option maxRecDepth 20000 in
theorem ggX5_expectNumber_X7_within : GoodIn wsX5_expectNumber wsX7_within := goodIn_r _ [6] (by decide +kernel) (by decide +kernel)
set_option maxRecDepth 20000 in
theorem gX5_expectNumber_X7_within_n72 : GoodIn wsX5_expectNumber (wsX7_within) := ggX5_expectNumber_X7_within
set_option maxRecDepth 20000 in
theorem ggX5_expectNumber_X5_advance : GoodIn wsX5_expectNumber wsX5_advance := goodIn_r _ [11, 12, 13, 14, 2, 15, 16, 17, 10, 18, 19, 20, 21, 22, 3, 4, 5, 6, 23, 24, 25, 26, 27, 28, 29, 30] (by decide +kernel) (by decide +kernel)
set_option maxRecDepth 20000 in
theorem gX5_expectNumber_X5_advance : GoodIn wsX5_expectNumber (wsV RX5 41 RX5 yX5_advance wsX5_advance) := goodIn_app (goodIn_of _ (by decide +kernel)) ggX5_expectNumber_X5_advance
theorem dX5_expectNumber_0 : decode cX5_expectNumber 0 = .ok (.aload_n 0, 1) := by decide +kernel
theorem dX5_expectNumber_1 : decode cX5_expectNumber 1 = .ok (.getfield 26, 3) := by decide +kernel
theorem dX5_expectNumber_4 : decode cX5_expectNumber 4 = .ok (.ifCond .eq 5, 3) := by decide +kernel
theorem dX5_expectNumber_7 : decode cX5_expectNumber 7 = .ok (.iconst 0, 1) := by decide +kernel
theorem dX5_expectNumber_8 : decode cX5_expectNumber 8 = .ok (.ireturn, 1) := by decide +kernel
theorem dX5_expectNumber_9 : decode cX5_expectNumber 9 = .ok (.aload_n 0, 1) := by decide +kernel
theorem dX5_expectNumber_10 : decode cX5_expectNumber 10 = .ok (.getfield 32, 3) := by decide +kernel
theorem dX5_expectNumber_13 : decode cX5_expectNumber 13 = .ok (.sipush 256, 3) := by decide +kernel
theorem dX5_expectNumber_16 : decode cX5_expectNumber 16 = .ok (.if_icmp .eq 10, 3) := by decide +kernel
theorem dX5_expectNumber_19 : decode cX5_expectNumber 19 = .ok (.aload_n 0, 1) := by decide +kernel
theorem dX5_expectNumber_20 : decode cX5_expectNumber 20 = .ok (.iconst 1, 1) := by decide +kernel
theorem dX5_expectNumber_21 : decode cX5_expectNumber 21 = .ok (.putfield 26, 3) := by decide +kernel
theorem dX5_expectNumber_24 : decode cX5_expectNumber 24 = .ok (.iconst 0, 1) := by decide +kernel
theorem dX5_expectNumber_25 : decode cX5_expectNumber 25 = .ok (.ireturn, 1) := by decide +kernel
theorem dX5_expectNumber_26 : decode cX5_expectNumber 26 = .ok (.aload_n 0, 1) := by decide +kernel
theorem dX5_expectNumber_27 : decode cX5_expectNumber 27 = .ok (.getfield 38, 3) := by decide +kernel
theorem dX5_expectNumber_30 : decode cX5_expectNumber 30 = .ok (.iload_n 1, 1) := by decide +kernel
theorem dX5_expectNumber_31 : decode cX5_expectNumber 31 = .ok (.iload_n 2, 1) := by decide +kernel
theorem dX5_expectNumber_32 : decode cX5_expectNumber 32 = .ok (.invokestatic 72, 3) := by decide +kernel
theorem dX5_expectNumber_35 : decode cX5_expectNumber 35 = .ok (.ifCond .ne 10, 3) := by decide +kernel
theorem dX5_expectNumber_38 : decode cX5_expectNumber 38 = .ok (.aload_n 0, 1) := by decide +kernel
theorem dX5_expectNumber_39 : decode cX5_expectNumber 39 = .ok (.iconst 2, 1) := by decide +kernel
theorem dX5_expectNumber_40 : decode cX5_expectNumber 40 = .ok (.putfield 26, 3) := by decide +kernel
theorem dX5_expectNumber_43 : decode cX5_expectNumber 43 = .ok (.iconst 0, 1) := by decide +kernel
theorem dX5_expectNumber_44 : decode cX5_expectNumber 44 = .ok (.ireturn, 1) := by decide +kernel
theorem dX5_expectNumber_45 : decode cX5_expectNumber 45 = .ok (.aload_n 0, 1) := by decide +kernel
theorem dX5_expectNumber_46 : decode cX5_expectNumber 46 = .ok (.getfield 38, 3) := by decide +kernel
theorem dX5_expectNumber_49 : decode cX5_expectNumber 49 = .ok (.istore_n 3, 1) := by decide +kernel
theorem dX5_expectNumber_50 : decode cX5_expectNumber 50 = .ok (.aload_n 0, 1) := by decide +kernel
theorem dX5_expectNumber_51 : decode cX5_expectNumber 51 = .ok (.invokevirtual 41, 3) := by decide +kernel
theorem dX5_expectNumber_54 : decode cX5_expectNumber 54 = .ok (.iload_n 3, 1) := by decide +kernel
theorem dX5_expectNumber_55 : decode cX5_expectNumber 55 = .ok (.ireturn, 1) := by decide +kernel
set_option maxRecDepth 20000 in
theorem ggX5_advance_X5_isFigure : GoodIn wsX5_advance wsX5_isFigure := goodIn_r _ [9] (by decide +kernel) (by decide +kernel)
set_option maxRecDepth 20000 in
theorem gX5_advance_X5_isFigure : GoodIn wsX5_advance (va_wsS RX5 76 yX5_isFigure wsX5_isFigure) := goodIn_app (goodIn_of _ (by decide +kernel)) ggX5_advance_X5_isFigure
set_option maxRecDepth 20000 in
theorem ggX5_advance_X5_advanceNumber : GoodIn wsX5_advance wsX5_advanceNumber := goodIn_r _ [13, 14, 2, 1, 3, 5, 4, 6, 7, 8, 9, 18, 19, 20, 21, 22, 23, 24, 25] (by decide +kernel) (by decide +kernel)
set_option maxRecDepth 20000 in
theorem gX5_advance_X5_advanceNumber : GoodIn wsX5_advance (wsV RX5 80 RX5 yX5_advanceNumber wsX5_advanceNumber) := goodIn_app (goodIn_of _ (by decide +kernel)) ggX5_advance_X5_advanceNumber
set_option maxRecDepth 20000 in
theorem ggX5_advance_X7_within : GoodIn wsX5_advance wsX7_within := goodIn_r _ [17] (by decide +kernel) (by decide +kernel)
set_option maxRecDepth 20000 in
theorem gX5_advance_X7_within_n72 : GoodIn wsX5_advance (wsX7_within) := ggX5_advance_X7_within
theorem dX5_advance_0 : decode cX5_advance 0 = .ok (.aload_n 0, 1) := by decide +kernel
theorem dX5_advance_1 : decode cX5_advance 1 = .ok (.aload_n 0, 1) := by decide +kernel
theorem dX5_advance_2 : decode cX5_advance 2 = .ok (.getfield 35, 3) := by decide +kernel
theorem dX5_advance_5 : decode cX5_advance 5 = .ok (.putfield 29, 3) := by decide +kernel
theorem dX5_advance_8 : decode cX5_advance 8 = .ok (.aload_n 0, 1) := by decide +kernel
theorem dX5_advance_9 : decode cX5_advance 9 = .ok (.getfield 29, 3) := by decide +kernel
theorem dX5_advance_12 : decode cX5_advance 12 = .ok (.aload_n 0, 1) := by decide +kernel
theorem dX5_advance_13 : decode cX5_advance 13 = .ok (.getfield 22, 3) := by decide +kernel
theorem dX5_advance_16 : decode cX5_advance 16 = .ok (.if_icmp .lt 11, 3) := by decide +kernel
theorem dX5_advance_19 : decode cX5_advance 19 = .ok (.aload_n 0, 1) := by decide +kernel
theorem dX5_advance_20 : decode cX5_advance 20 = .ok (.sipush 257, 3) := by decide +kernel
theorem dX5_advance_23 : decode cX5_advance 23 = .ok (.putfield 32, 3) := by decide +kernel
theorem dX5_advance_26 : decode cX5_advance 26 = .ok (.return_, 1) := by decide +kernel
theorem dX5_advance_27 : decode cX5_advance 27 = .ok (.aload_n 0, 1) := by decide +kernel
theorem dX5_advance_28 : decode cX5_advance 28 = .ok (.getfield 9, 3) := by decide +kernel
theorem dX5_advance_31 : decode cX5_advance 31 = .ok (.aload_n 0, 1) := by decide +kernel
theorem dX5_advance_32 : decode cX5_advance 32 = .ok (.getfield 29, 3) := by decide +kernel
theorem dX5_advance_35 : decode cX5_advance 35 = .ok (.iaload, 1) := by decide +kernel
theorem dX5_advance_36 : decode cX5_advance 36 = .ok (.istore_n 1, 1) := by decide +kernel
theorem dX5_advance_37 : decode cX5_advance 37 = .ok (.iload_n 1, 1) := by decide +kernel
theorem dX5_advance_38 : decode cX5_advance 38 = .ok (.invokestatic 76, 3) := by decide +kernel
theorem dX5_advance_41 : decode cX5_advance 41 = .ok (.ifCond .eq 8, 3) := by decide +kernel
theorem dX5_advance_44 : decode cX5_advance 44 = .ok (.aload_n 0, 1) := by decide +kernel
theorem dX5_advance_45 : decode cX5_advance 45 = .ok (.invokevirtual 80, 3) := by decide +kernel
theorem dX5_advance_48 : decode cX5_advance 48 = .ok (.return_, 1) := by decide +kernel
theorem dX5_advance_49 : decode cX5_advance 49 = .ok (.iload_n 1, 1) := by decide +kernel
theorem dX5_advance_50 : decode cX5_advance 50 = .ok (.bipush 97, 2) := by decide +kernel
theorem dX5_advance_52 : decode cX5_advance 52 = .ok (.bipush 122, 2) := by decide +kernel
theorem dX5_advance_54 : decode cX5_advance 54 = .ok (.invokestatic 72, 3) := by decide +kernel
theorem dX5_advance_57 : decode cX5_advance 57 = .ok (.ifCond .ne 15, 3) := by decide +kernel
theorem dX5_advance_60 : decode cX5_advance 60 = .ok (.iload_n 1, 1) := by decide +kernel
theorem dX5_advance_61 : decode cX5_advance 61 = .ok (.bipush 44, 2) := by decide +kernel
theorem dX5_advance_63 : decode cX5_advance 63 = .ok (.if_icmp .eq 9, 3) := by decide +kernel
theorem dX5_advance_66 : decode cX5_advance 66 = .ok (.iload_n 1, 1) := by decide +kernel
theorem dX5_advance_67 : decode cX5_advance 67 = .ok (.bipush 59, 2) := by decide +kernel
theorem dX5_advance_69 : decode cX5_advance 69 = .ok (.if_icmp .ne 7, 3) := by decide +kernel
theorem dX5_advance_72 : decode cX5_advance 72 = .ok (.iconst 1, 1) := by decide +kernel
theorem dX5_advance_73 : decode cX5_advance 73 = .ok (.goto 4, 3) := by decide +kernel
theorem dX5_advance_76 : decode cX5_advance 76 = .ok (.iconst 0, 1) := by decide +kernel
theorem dX5_advance_77 : decode cX5_advance 77 = .ok (.istore_n 2, 1) := by decide +kernel
theorem dX5_advance_78 : decode cX5_advance 78 = .ok (.aload_n 0, 1) := by decide +kernel
theorem dX5_advance_79 : decode cX5_advance 79 = .ok (.iload_n 2, 1) := by decide +kernel
theorem dX5_advance_80 : decode cX5_advance 80 = .ok (.ifCond .eq 7, 3) := by decide +kernel
theorem dX5_advance_83 : decode cX5_advance 83 = .ok (.iload_n 1, 1) := by decide +kernel
theorem dX5_advance_84 : decode cX5_advance 84 = .ok (.goto 6, 3) := by decide +kernel
theorem dX5_advance_87 : decode cX5_advance 87 = .ok (.sipush 258, 3) := by decide +kernel
theorem dX5_advance_90 : decode cX5_advance 90 = .ok (.putfield 32, 3) := by decide +kernel
theorem dX5_advance_93 : decode cX5_advance 93 = .ok (.aload_n 0, 1) := by decide +kernel
theorem dX5_advance_94 : decode cX5_advance 94 = .ok (.aload_n 0, 1) := by decide +kernel
theorem dX5_advance_95 : decode cX5_advance 95 = .ok (.getfield 29, 3) := by decide +kernel
theorem dX5_advance_98 : decode cX5_advance 98 = .ok (.iconst 1, 1) := by decide +kernel
theorem dX5_advance_99 : decode cX5_advance 99 = .ok (.iadd, 1) := by decide +kernel
theorem dX5_advance_100 : decode cX5_advance 100 = .ok (.putfield 35, 3) := by decide +kernel
theorem dX5_advance_103 : decode cX5_advance 103 = .ok (.return_, 1) := by decide +kernel
set_option maxRecDepth 20000 in
theorem ggX5_advanceNumber_X5_isFigure : GoodIn wsX5_advanceNumber wsX5_isFigure := goodIn_r _ [10] (by decide +kernel) (by decide +kernel)
set_option maxRecDepth 20000 in
theorem gX5_advanceNumber_X5_isFigure : GoodIn wsX5_advanceNumber (va_wsS RX5 76 yX5_isFigure wsX5_isFigure) := goodIn_app (goodIn_of _ (by decide +kernel)) ggX5_advanceNumber_X5_isFigure
theorem dX5_advanceNumber_0 : decode cX5_advanceNumber 0 = .ok (.aload_n 0, 1) := by decide +kernel
theorem dX5_advanceNumber_1 : decode cX5_advanceNumber 1 = .ok (.iconst 0, 1) := by decide +kernel
theorem dX5_advanceNumber_2 : decode cX5_advanceNumber 2 = .ok (.putfield 38, 3) := by decide +kernel
theorem dX5_advanceNumber_5 : decode cX5_advanceNumber 5 = .ok (.aload_n 0, 1) := by decide +kernel
theorem dX5_advanceNumber_6 : decode cX5_advanceNumber 6 = .ok (.aload_n 0, 1) := by decide +kernel
theorem dX5_advanceNumber_7 : decode cX5_advanceNumber 7 = .ok (.getfield 29, 3) := by decide +kernel
theorem dX5_advanceNumber_10 : decode cX5_advanceNumber 10 = .ok (.putfield 35, 3) := by decide +kernel
theorem dX5_advanceNumber_13 : decode cX5_advanceNumber 13 = .ok (.aload_n 0, 1) := by decide +kernel
theorem dX5_advanceNumber_14 : decode cX5_advanceNumber 14 = .ok (.getfield 35, 3) := by decide +kernel
theorem dX5_advanceNumber_17 : decode cX5_advanceNumber 17 = .ok (.aload_n 0, 1) := by decide +kernel
theorem dX5_advanceNumber_18 : decode cX5_advanceNumber 18 = .ok (.getfield 22, 3) := by decide +kernel
theorem dX5_advanceNumber_21 : decode cX5_advanceNumber 21 = .ok (.if_icmp .ge 68, 3) := by decide +kernel
theorem dX5_advanceNumber_24 : decode cX5_advanceNumber 24 = .ok (.aload_n 0, 1) := by decide +kernel
theorem dX5_advanceNumber_25 : decode cX5_advanceNumber 25 = .ok (.getfield 35, 3) := by decide +kernel
theorem dX5_advanceNumber_28 : decode cX5_advanceNumber 28 = .ok (.aload_n 0, 1) := by decide +kernel
theorem dX5_advanceNumber_29 : decode cX5_advanceNumber 29 = .ok (.getfield 29, 3) := by decide +kernel
theorem dX5_advanceNumber_32 : decode cX5_advanceNumber 32 = .ok (.iconst 3, 1) := by decide +kernel
theorem dX5_advanceNumber_33 : decode cX5_advanceNumber 33 = .ok (.iadd, 1) := by decide +kernel
theorem dX5_advanceNumber_34 : decode cX5_advanceNumber 34 = .ok (.if_icmp .ge 55, 3) := by decide +kernel
theorem dX5_advanceNumber_37 : decode cX5_advanceNumber 37 = .ok (.aload_n 0, 1) := by decide +kernel
theorem dX5_advanceNumber_38 : decode cX5_advanceNumber 38 = .ok (.getfield 9, 3) := by decide +kernel
theorem dX5_advanceNumber_41 : decode cX5_advanceNumber 41 = .ok (.aload_n 0, 1) := by decide +kernel
theorem dX5_advanceNumber_42 : decode cX5_advanceNumber 42 = .ok (.getfield 35, 3) := by decide +kernel
theorem dX5_advanceNumber_45 : decode cX5_advanceNumber 45 = .ok (.iaload, 1) := by decide +kernel
theorem dX5_advanceNumber_46 : decode cX5_advanceNumber 46 = .ok (.invokestatic 76, 3) := by decide +kernel
theorem dX5_advanceNumber_49 : decode cX5_advanceNumber 49 = .ok (.ifCond .eq 40, 3) := by decide +kernel
theorem dX5_advanceNumber_52 : decode cX5_advanceNumber 52 = .ok (.aload_n 0, 1) := by decide +kernel
theorem dX5_advanceNumber_53 : decode cX5_advanceNumber 53 = .ok (.aload_n 0, 1) := by decide +kernel
theorem dX5_advanceNumber_54 : decode cX5_advanceNumber 54 = .ok (.getfield 38, 3) := by decide +kernel
theorem dX5_advanceNumber_57 : decode cX5_advanceNumber 57 = .ok (.bipush 10, 2) := by decide +kernel
theorem dX5_advanceNumber_59 : decode cX5_advanceNumber 59 = .ok (.imul, 1) := by decide +kernel
theorem dX5_advanceNumber_60 : decode cX5_advanceNumber 60 = .ok (.aload_n 0, 1) := by decide +kernel
theorem dX5_advanceNumber_61 : decode cX5_advanceNumber 61 = .ok (.getfield 9, 3) := by decide +kernel
theorem dX5_advanceNumber_64 : decode cX5_advanceNumber 64 = .ok (.aload_n 0, 1) := by decide +kernel
theorem dX5_advanceNumber_65 : decode cX5_advanceNumber 65 = .ok (.getfield 35, 3) := by decide +kernel
theorem dX5_advanceNumber_68 : decode cX5_advanceNumber 68 = .ok (.iaload, 1) := by decide +kernel
theorem dX5_advanceNumber_69 : decode cX5_advanceNumber 69 = .ok (.iadd, 1) := by decide +kernel
theorem dX5_advanceNumber_70 : decode cX5_advanceNumber 70 = .ok (.bipush 48, 2) := by decide +kernel
theorem dX5_advanceNumber_72 : decode cX5_advanceNumber 72 = .ok (.isub, 1) := by decide +kernel
theorem dX5_advanceNumber_73 : decode cX5_advanceNumber 73 = .ok (.putfield 38, 3) := by decide +kernel
theorem dX5_advanceNumber_76 : decode cX5_advanceNumber 76 = .ok (.aload_n 0, 1) := by decide +kernel
theorem dX5_advanceNumber_77 : decode cX5_advanceNumber 77 = .ok (.dup, 1) := by decide +kernel
theorem dX5_advanceNumber_78 : decode cX5_advanceNumber 78 = .ok (.getfield 35, 3) := by decide +kernel
theorem dX5_advanceNumber_81 : decode cX5_advanceNumber 81 = .ok (.iconst 1, 1) := by decide +kernel
theorem dX5_advanceNumber_82 : decode cX5_advanceNumber 82 = .ok (.iadd, 1) := by decide +kernel
theorem dX5_advanceNumber_83 : decode cX5_advanceNumber 83 = .ok (.putfield 35, 3) := by decide +kernel
theorem dX5_advanceNumber_86 : decode cX5_advanceNumber 86 = .ok (.goto (-73), 3) := by decide +kernel
theorem dX5_advanceNumber_89 : decode cX5_advanceNumber 89 = .ok (.aload_n 0, 1) := by decide +kernel
theorem dX5_advanceNumber_90 : decode cX5_advanceNumber 90 = .ok (.aload_n 0, 1) := by decide +kernel
theorem dX5_advanceNumber_91 : decode cX5_advanceNumber 91 = .ok (.getfield 35, 3) := by decide +kernel
theorem dX5_advanceNumber_94 : decode cX5_advanceNumber 94 = .ok (.aload_n 0, 1) := by decide +kernel
theorem dX5_advanceNumber_95 : decode cX5_advanceNumber 95 = .ok (.getfield 29, 3) := by decide +kernel
theorem dX5_advanceNumber_98 : decode cX5_advanceNumber 98 = .ok (.isub, 1) := by decide +kernel
theorem dX5_advanceNumber_99 : decode cX5_advanceNumber 99 = .ok (.iconst 2, 1) := by decide +kernel
theorem dX5_advanceNumber_100 : decode cX5_advanceNumber 100 = .ok (.if_icmp .gt 9, 3) := by decide +kernel
theorem dX5_advanceNumber_103 : decode cX5_advanceNumber 103 = .ok (.sipush 256, 3) := by decide +kernel
theorem dX5_advanceNumber_106 : decode cX5_advanceNumber 106 = .ok (.goto 6, 3) := by decide +kernel
theorem dX5_advanceNumber_109 : decode cX5_advanceNumber 109 = .ok (.sipush 258, 3) := by decide +kernel
theorem dX5_advanceNumber_112 : decode cX5_advanceNumber 112 = .ok (.putfield 32, 3) := by decide +kernel
theorem dX5_advanceNumber_115 : decode cX5_advanceNumber 115 = .ok (.return_, 1) := by decide +kernel
theorem dX5_isFigure_0 : decode cX5_isFigure 0 = .ok (.iload_n 0, 1) := by decide +kernel
theorem dX5_isFigure_1 : decode cX5_isFigure 1 = .ok (.bipush 48, 2) := by decide +kernel
theorem dX5_isFigure_3 : decode cX5_isFigure 3 = .ok (.if_icmp .lt 13, 3) := by decide +kernel
theorem dX5_isFigure_6 : decode cX5_isFigure 6 = .ok (.iload_n 0, 1) := by decide +kernel
theorem dX5_isFigure_7 : decode cX5_isFigure 7 = .ok (.bipush 57, 2) := by decide +kernel
theorem dX5_isFigure_9 : decode cX5_isFigure 9 = .ok (.if_icmp .gt 7, 3) := by decide +kernel
theorem dX5_isFigure_12 : decode cX5_isFigure 12 = .ok (.iconst 1, 1) := by decide +kernel
theorem dX5_isFigure_13 : decode cX5_isFigure 13 = .ok (.goto 4, 3) := by decide +kernel
theorem dX5_isFigure_16 : decode cX5_isFigure 16 = .ok (.iconst 0, 1) := by decide +kernel
theorem dX5_isFigure_17 : decode cX5_isFigure 17 = .ok (.ireturn, 1) := by decide +kernel
theorem dX5_kindOf_0 : decode cX5_kindOf 0 = .ok (.iload_n 0, 1) := by decide +kernel
theorem dX5_kindOf_1 : decode cX5_kindOf 1 = .ok (.lookupswitch 61 #[(98, 51), (101, 59), (108, 55), (111, 57), (115, 53)], 51) := by decide +kernel
theorem dX5_kindOf_52 : decode cX5_kindOf 52 = .ok (.iconst 1, 1) := by decide +kernel
theorem dX5_kindOf_53 : decode cX5_kindOf 53 = .ok (.ireturn, 1) := by decide +kernel
theorem dX5_kindOf_54 : decode cX5_kindOf 54 = .ok (.iconst 2, 1) := by decide +kernel
theorem dX5_kindOf_55 : decode cX5_kindOf 55 = .ok (.ireturn, 1) := by decide +kernel
theorem dX5_kindOf_56 : decode cX5_kindOf 56 = .ok (.iconst 3, 1) := by decide +kernel
theorem dX5_kindOf_57 : decode cX5_kindOf 57 = .ok (.ireturn, 1) := by decide +kernel
theorem dX5_kindOf_58 : decode cX5_kindOf 58 = .ok (.iconst 4, 1) := by decide +kernel
theorem dX5_kindOf_59 : decode cX5_kindOf 59 = .ok (.ireturn, 1) := by decide +kernel
theorem dX5_kindOf_60 : decode cX5_kindOf 60 = .ok (.iconst 5, 1) := by decide +kernel
theorem dX5_kindOf_61 : decode cX5_kindOf 61 = .ok (.ireturn, 1) := by decide +kernel
theorem dX5_kindOf_62 : decode cX5_kindOf 62 = .ok (.iconst 0, 1) := by decide +kernel
theorem dX5_kindOf_63 : decode cX5_kindOf 63 = .ok (.ireturn, 1) := by decide +kernel
theorem dX6_init_0 : decode cX6_init 0 = .ok (.aload_n 0, 1) := by decide +kernel
theorem dX6_init_1 : decode cX6_init 1 = .ok (.invokespecial 3, 3) := by decide +kernel
theorem dX6_init_4 : decode cX6_init 4 = .ok (.aload_n 0, 1) := by decide +kernel
theorem dX6_init_5 : decode cX6_init 5 = .ok (.bipush 40, 2) := by decide +kernel
theorem dX6_init_7 : decode cX6_init 7 = .ok (.newarray .int, 2) := by decide +kernel
theorem dX6_init_9 : decode cX6_init 9 = .ok (.putfield 9, 3) := by decide +kernel
theorem dX6_init_12 : decode cX6_init 12 = .ok (.aload_n 0, 1) := by decide +kernel
theorem dX6_init_13 : decode cX6_init 13 = .ok (.iconst 1, 1) := by decide +kernel
theorem dX6_init_14 : decode cX6_init 14 = .ok (.putfield 15, 3) := by decide +kernel
theorem dX6_init_17 : decode cX6_init 17 = .ok (.aload_n 0, 1) := by decide +kernel
theorem dX6_init_18 : decode cX6_init 18 = .ok (.iconst 0, 1) := by decide +kernel
theorem dX6_init_19 : decode cX6_init 19 = .ok (.putfield 19, 3) := by decide +kernel
theorem dX6_init_22 : decode cX6_init 22 = .ok (.aload_n 0, 1) := by decide +kernel
theorem dX6_init_23 : decode cX6_init 23 = .ok (.iconst 0, 1) := by decide +kernel
theorem dX6_init_24 : decode cX6_init 24 = .ok (.putfield 23, 3) := by decide +kernel
theorem dX6_init_27 : decode cX6_init 27 = .ok (.return_, 1) := by decide +kernel
set_option maxRecDepth 20000 in
theorem ggX6_renew_J7_fill_53178 : GoodIn wsX6_renew wsJ7_fill_53178 := goodIn_r _ [8] (by decide +kernel) (by decide +kernel)
set_option maxRecDepth 20000 in
theorem gX6_renew_J7_fill_53178 : GoodIn wsX6_renew (va_wsS RX6 26 yJ7_fill_53178 wsJ7_fill_53178) := goodIn_app (goodIn_of _ (by decide +kernel)) ggX6_renew_J7_fill_53178
theorem dX6_renew_0 : decode cX6_renew 0 = .ok (.aload_n 0, 1) := by decide +kernel
theorem dX6_renew_1 : decode cX6_renew 1 = .ok (.getfield 9, 3) := by decide +kernel
theorem dX6_renew_4 : decode cX6_renew 4 = .ok (.iconst 0, 1) := by decide +kernel
theorem dX6_renew_5 : decode cX6_renew 5 = .ok (.invokestatic 26, 3) := by decide +kernel
theorem dX6_renew_8 : decode cX6_renew 8 = .ok (.aload_n 0, 1) := by decide +kernel
theorem dX6_renew_9 : decode cX6_renew 9 = .ok (.iconst 0, 1) := by decide +kernel
theorem dX6_renew_10 : decode cX6_renew 10 = .ok (.putfield 15, 3) := by decide +kernel
theorem dX6_renew_13 : decode cX6_renew 13 = .ok (.aload_n 0, 1) := by decide +kernel
theorem dX6_renew_14 : decode cX6_renew 14 = .ok (.iload_n 1, 1) := by decide +kernel
theorem dX6_renew_15 : decode cX6_renew 15 = .ok (.putfield 19, 3) := by decide +kernel
theorem dX6_renew_18 : decode cX6_renew 18 = .ok (.aload_n 0, 1) := by decide +kernel
theorem dX6_renew_19 : decode cX6_renew 19 = .ok (.iload_n 2, 1) := by decide +kernel
theorem dX6_renew_20 : decode cX6_renew 20 = .ok (.putfield 23, 3) := by decide +kernel
theorem dX6_renew_23 : decode cX6_renew 23 = .ok (.return_, 1) := by decide +kernel
set_option maxRecDepth 20000 in
theorem ggX6_spans_X7_within : GoodIn wsX6_spans wsX7_within := goodIn_r _ [4] (by decide +kernel) (by decide +kernel)
set_option maxRecDepth 20000 in
theorem gX6_spans_X7_within_n32 : GoodIn wsX6_spans (wsX7_within) := ggX6_spans_X7_within
theorem dX6_spans_0 : decode cX6_spans 0 = .ok (.iload_n 1, 1) := by decide +kernel
theorem dX6_spans_1 : decode cX6_spans 1 = .ok (.ifCond .lt 29, 3) := by decide +kernel
theorem dX6_spans_4 : decode cX6_spans 4 = .ok (.iload_n 2, 1) := by decide +kernel
theorem dX6_spans_5 : decode cX6_spans 5 = .ok (.iconst 0, 1) := by decide +kernel
theorem dX6_spans_6 : decode cX6_spans 6 = .ok (.aload_n 0, 1) := by decide +kernel
theorem dX6_spans_7 : decode cX6_spans 7 = .ok (.getfield 23, 3) := by decide +kernel
theorem dX6_spans_10 : decode cX6_spans 10 = .ok (.invokestatic 32, 3) := by decide +kernel
theorem dX6_spans_13 : decode cX6_spans 13 = .ok (.ifCond .eq 17, 3) := by decide +kernel
theorem dX6_spans_16 : decode cX6_spans 16 = .ok (.iload_n 1, 1) := by decide +kernel
theorem dX6_spans_17 : decode cX6_spans 17 = .ok (.aload_n 0, 1) := by decide +kernel
theorem dX6_spans_18 : decode cX6_spans 18 = .ok (.getfield 23, 3) := by decide +kernel
theorem dX6_spans_21 : decode cX6_spans 21 = .ok (.iload_n 2, 1) := by decide +kernel
theorem dX6_spans_22 : decode cX6_spans 22 = .ok (.isub, 1) := by decide +kernel
theorem dX6_spans_23 : decode cX6_spans 23 = .ok (.if_icmp .gt 7, 3) := by decide +kernel
theorem dX6_spans_26 : decode cX6_spans 26 = .ok (.iconst 1, 1) := by decide +kernel
theorem dX6_spans_27 : decode cX6_spans 27 = .ok (.goto 4, 3) := by decide +kernel
theorem dX6_spans_30 : decode cX6_spans 30 = .ok (.iconst 0, 1) := by decide +kernel
theorem dX6_spans_31 : decode cX6_spans 31 = .ok (.ireturn, 1) := by decide +kernel
theorem dX6_lowestBits_0 : decode cX6_lowestBits 0 = .ok (.aload_n 0, 1) := by decide +kernel
theorem dX6_lowestBits_1 : decode cX6_lowestBits 1 = .ok (.getfield 19, 3) := by decide +kernel
theorem dX6_lowestBits_4 : decode cX6_lowestBits 4 = .ok (.lookupswitch 34 #[(0, 28), (1, 31)], 28) := by decide +kernel
theorem dX6_lowestBits_32 : decode cX6_lowestBits 32 = .ok (.iload_n 1, 1) := by decide +kernel
theorem dX6_lowestBits_33 : decode cX6_lowestBits 33 = .ok (.i2b, 1) := by decide +kernel
theorem dX6_lowestBits_34 : decode cX6_lowestBits 34 = .ok (.ireturn, 1) := by decide +kernel
theorem dX6_lowestBits_35 : decode cX6_lowestBits 35 = .ok (.iload_n 1, 1) := by decide +kernel
theorem dX6_lowestBits_36 : decode cX6_lowestBits 36 = .ok (.i2s, 1) := by decide +kernel
theorem dX6_lowestBits_37 : decode cX6_lowestBits 37 = .ok (.ireturn, 1) := by decide +kernel
theorem dX6_lowestBits_38 : decode cX6_lowestBits 38 = .ok (.iload_n 1, 1) := by decide +kernel
theorem dX6_lowestBits_39 : decode cX6_lowestBits 39 = .ok (.ireturn, 1) := by decide +kernel
set_option maxRecDepth 20000 in
theorem ggX7_init_X5_init : GoodIn wsX7_init wsX5_init := goodIn_r _ [32, 33, 2, 3, 34, 35, 36, 11, 12, 37, 38, 39, 40, 41, 42, 43, 44, 45, 46, 47, 48, 49, 50, 51, 52, 53, 54, 55, 109, 110, 111, 112, 113, 114, 115, 116, 117, 118, 119, 120, 121, 122, 123, 124, 125] (by decide +kernel) (by decide +kernel)
set_option maxRecDepth 20000 in
theorem gX7_init_X5_init_n17 : GoodIn wsX7_init (wsX5_init) := ggX7_init_X5_init
set_option maxRecDepth 20000 in
theorem ggX7_init_X3_init : GoodIn wsX7_init wsX3_init := goodIn_r _ [45, 46, 2, 3, 34, 47, 48, 49, 50, 51, 52, 53, 54, 55, 117, 118, 119, 120, 121, 122, 123, 124, 125] (by decide +kernel) (by decide +kernel)
set_option maxRecDepth 20000 in
theorem gX7_init_X3_init_n24 : GoodIn wsX7_init (wsX3_init) := ggX7_init_X3_init
set_option maxRecDepth 20000 in
theorem ggX7_init_X0_init : GoodIn wsX7_init wsX0_init := goodIn_r _ [58, 59, 2, 3, 60, 61, 62, 63, 64, 65, 66, 67, 68, 69, 70, 71, 72, 73, 74, 75, 126, 127, 128, 141, 142, 143, 144, 145, 146] (by decide +kernel) (by decide +kernel)
set_option maxRecDepth 20000 in
theorem gX7_init_X0_init : GoodIn wsX7_init (wsX0_init) := ggX7_init_X0_init
set_option maxRecDepth 20000 in
theorem ggX7_init_X4_init : GoodIn wsX7_init wsX4_init := goodIn_r _ [78, 79, 2, 3, 80, 11, 12, 81, 34, 82, 83, 84, 85, 86, 87, 64, 65, 44, 45, 46, 47, 48, 49, 50, 51, 52, 53, 54, 55, 66, 67, 68, 69, 70, 71, 72, 73, 74, 75, 117, 118, 119, 120, 121, 122, 123, 124, 125, 129, 130, 131, 132, 133, 134, 141, 142, 143, 144, 145, 146] (by decide +kernel) (by decide +kernel)
set_option maxRecDepth 20000 in
theorem gX7_init_X4_init : GoodIn wsX7_init (wsX4_init) := ggX7_init_X4_init
set_option maxRecDepth 20000 in
theorem ggX7_init_X1_init : GoodIn wsX7_init wsX1_init := goodIn_r _ [89, 90, 2, 3, 34, 91, 92, 135, 136] (by decide +kernel) (by decide +kernel)
set_option maxRecDepth 20000 in
theorem gX7_init_X1_init_n49 : GoodIn wsX7_init (wsX1_init) := ggX7_init_X1_init
set_option maxRecDepth 20000 in
theorem ggX7_init_X6_init : GoodIn wsX7_init wsX6_init := goodIn_r _ [94, 95, 2, 3, 34, 96, 97, 98, 99, 137, 138, 139, 140] (by decide +kernel) (by decide +kernel)
set_option maxRecDepth 20000 in
theorem gX7_init_X6_init_n61 : GoodIn wsX7_init (wsX6_init) := ggX7_init_X6_init
theorem dX7_init_0 : decode cX7_init 0 = .ok (.aload_n 0, 1) := by decide +kernel
theorem dX7_init_1 : decode cX7_init 1 = .ok (.invokespecial 1, 3) := by decide +kernel
theorem dX7_init_4 : decode cX7_init 4 = .ok (.aload_n 0, 1) := by decide +kernel
theorem dX7_init_5 : decode cX7_init 5 = .ok (.bipush 8, 2) := by decide +kernel
theorem dX7_init_7 : decode cX7_init 7 = .ok (.anewarray 9, 3) := by decide +kernel
theorem dX7_init_10 : decode cX7_init 10 = .ok (.putfield 11, 3) := by decide +kernel
theorem dX7_init_13 : decode cX7_init 13 = .ok (.aload_n 0, 1) := by decide +kernel
theorem dX7_init_14 : decode cX7_init 14 = .ok (.new 15, 3) := by decide +kernel
theorem dX7_init_17 : decode cX7_init 17 = .ok (.dup, 1) := by decide +kernel
theorem dX7_init_18 : decode cX7_init 18 = .ok (.invokespecial 17, 3) := by decide +kernel
theorem dX7_init_21 : decode cX7_init 21 = .ok (.putfield 18, 3) := by decide +kernel
theorem dX7_init_24 : decode cX7_init 24 = .ok (.aload_n 0, 1) := by decide +kernel
theorem dX7_init_25 : decode cX7_init 25 = .ok (.new 22, 3) := by decide +kernel
theorem dX7_init_28 : decode cX7_init 28 = .ok (.dup, 1) := by decide +kernel
theorem dX7_init_29 : decode cX7_init 29 = .ok (.invokespecial 24, 3) := by decide +kernel
theorem dX7_init_32 : decode cX7_init 32 = .ok (.putfield 25, 3) := by decide +kernel
theorem dX7_init_35 : decode cX7_init 35 = .ok (.aload_n 0, 1) := by decide +kernel
theorem dX7_init_36 : decode cX7_init 36 = .ok (.new 29, 3) := by decide +kernel
theorem dX7_init_39 : decode cX7_init 39 = .ok (.dup, 1) := by decide +kernel
theorem dX7_init_40 : decode cX7_init 40 = .ok (.invokespecial 31, 3) := by decide +kernel
theorem dX7_init_43 : decode cX7_init 43 = .ok (.putfield 32, 3) := by decide +kernel
theorem dX7_init_46 : decode cX7_init 46 = .ok (.aload_n 0, 1) := by decide +kernel
theorem dX7_init_47 : decode cX7_init 47 = .ok (.iconst 2, 1) := by decide +kernel
theorem dX7_init_48 : decode cX7_init 48 = .ok (.anewarray 22, 3) := by decide +kernel
theorem dX7_init_51 : decode cX7_init 51 = .ok (.putfield 36, 3) := by decide +kernel
theorem dX7_init_54 : decode cX7_init 54 = .ok (.aload_n 0, 1) := by decide +kernel
theorem dX7_init_55 : decode cX7_init 55 = .ok (.new 40, 3) := by decide +kernel
theorem dX7_init_58 : decode cX7_init 58 = .ok (.dup, 1) := by decide +kernel
theorem dX7_init_59 : decode cX7_init 59 = .ok (.invokespecial 42, 3) := by decide +kernel
theorem dX7_init_62 : decode cX7_init 62 = .ok (.putfield 43, 3) := by decide +kernel
theorem dX7_init_65 : decode cX7_init 65 = .ok (.aload_n 0, 1) := by decide +kernel
theorem dX7_init_66 : decode cX7_init 66 = .ok (.new 47, 3) := by decide +kernel
theorem dX7_init_69 : decode cX7_init 69 = .ok (.dup, 1) := by decide +kernel
theorem dX7_init_70 : decode cX7_init 70 = .ok (.invokespecial 49, 3) := by decide +kernel
theorem dX7_init_73 : decode cX7_init 73 = .ok (.putfield 50, 3) := by decide +kernel
theorem dX7_init_76 : decode cX7_init 76 = .ok (.aload_n 0, 1) := by decide +kernel
theorem dX7_init_77 : decode cX7_init 77 = .ok (.iconst 0, 1) := by decide +kernel
theorem dX7_init_78 : decode cX7_init 78 = .ok (.putfield 54, 3) := by decide +kernel
theorem dX7_init_81 : decode cX7_init 81 = .ok (.aload_n 0, 1) := by decide +kernel
theorem dX7_init_82 : decode cX7_init 82 = .ok (.iconst 0, 1) := by decide +kernel
theorem dX7_init_83 : decode cX7_init 83 = .ok (.putfield 58, 3) := by decide +kernel
theorem dX7_init_86 : decode cX7_init 86 = .ok (.iconst 0, 1) := by decide +kernel
theorem dX7_init_87 : decode cX7_init 87 = .ok (.istore_n 1, 1) := by decide +kernel
theorem dX7_init_88 : decode cX7_init 88 = .ok (.iload_n 1, 1) := by decide +kernel
theorem dX7_init_89 : decode cX7_init 89 = .ok (.bipush 8, 2) := by decide +kernel
theorem dX7_init_91 : decode cX7_init 91 = .ok (.if_icmp .ge 22, 3) := by decide +kernel
theorem dX7_init_94 : decode cX7_init 94 = .ok (.aload_n 0, 1) := by decide +kernel
theorem dX7_init_95 : decode cX7_init 95 = .ok (.getfield 11, 3) := by decide +kernel
theorem dX7_init_98 : decode cX7_init 98 = .ok (.iload_n 1, 1) := by decide +kernel
theorem dX7_init_99 : decode cX7_init 99 = .ok (.new 9, 3) := by decide +kernel
theorem dX7_init_102 : decode cX7_init 102 = .ok (.dup, 1) := by decide +kernel
theorem dX7_init_103 : decode cX7_init 103 = .ok (.invokespecial 61, 3) := by decide +kernel
theorem dX7_init_106 : decode cX7_init 106 = .ok (.aastore, 1) := by decide +kernel
theorem dX7_init_107 : decode cX7_init 107 = .ok (.iinc 1 1, 3) := by decide +kernel
theorem dX7_init_110 : decode cX7_init 110 = .ok (.goto (-22), 3) := by decide +kernel
theorem dX7_init_113 : decode cX7_init 113 = .ok (.iconst 0, 1) := by decide +kernel
theorem dX7_init_114 : decode cX7_init 114 = .ok (.istore_n 1, 1) := by decide +kernel
theorem dX7_init_115 : decode cX7_init 115 = .ok (.iload_n 1, 1) := by decide +kernel
theorem dX7_init_116 : decode cX7_init 116 = .ok (.iconst 2, 1) := by decide +kernel
theorem dX7_init_117 : decode cX7_init 117 = .ok (.if_icmp .ge 22, 3) := by decide +kernel
theorem dX7_init_120 : decode cX7_init 120 = .ok (.aload_n 0, 1) := by decide +kernel
theorem dX7_init_121 : decode cX7_init 121 = .ok (.getfield 36, 3) := by decide +kernel
theorem dX7_init_124 : decode cX7_init 124 = .ok (.iload_n 1, 1) := by decide +kernel
theorem dX7_init_125 : decode cX7_init 125 = .ok (.new 22, 3) := by decide +kernel
theorem dX7_init_128 : decode cX7_init 128 = .ok (.dup, 1) := by decide +kernel
theorem dX7_init_129 : decode cX7_init 129 = .ok (.invokespecial 24, 3) := by decide +kernel
theorem dX7_init_132 : decode cX7_init 132 = .ok (.aastore, 1) := by decide +kernel
theorem dX7_init_133 : decode cX7_init 133 = .ok (.iinc 1 1, 3) := by decide +kernel
theorem dX7_init_136 : decode cX7_init 136 = .ok (.goto (-21), 3) := by decide +kernel
theorem dX7_init_139 : decode cX7_init 139 = .ok (.return_, 1) := by decide +kernel
set_option maxRecDepth 20000 in
theorem ggX7_row_X7_isRow : GoodIn wsX7_row wsX7_isRow := goodIn_r _ [6, 7, 8, 5, 9] (by decide +kernel) (by decide +kernel)
set_option maxRecDepth 20000 in
theorem gX7_row_X7_isRow : GoodIn wsX7_row (va_wsS RX7 62 yX7_isRow wsX7_isRow) := goodIn_app (goodIn_of _ (by decide +kernel)) ggX7_row_X7_isRow
set_option maxRecDepth 20000 in
theorem ggX7_row_X7_within : GoodIn wsX7_row wsX7_within := goodIn_r _ [9] (by decide +kernel) (by decide +kernel)
set_option maxRecDepth 20000 in
theorem gX7_row_X7_within : GoodIn wsX7_row (va_wsS RX7 66 yX7_within wsX7_within) := goodIn_app (goodIn_of _ (by decide +kernel)) ggX7_row_X7_within
set_option maxRecDepth 20000 in
theorem ggX7_row_X7_found : GoodIn wsX7_row wsX7_found := goodIn_r _ [13, 14, 15, 33, 34, 35, 36, 37, 38, 39, 40, 41] (by decide +kernel) (by decide +kernel)
set_option maxRecDepth 20000 in
theorem gX7_row_X7_found : GoodIn wsX7_row (wsV RX7 71 RX7 yX7_found wsX7_found) := goodIn_app (goodIn_of _ (by decide +kernel)) ggX7_row_X7_found
set_option maxRecDepth 20000 in
theorem ggX7_row_X6_renew : GoodIn wsX7_row wsX6_renew := goodIn_r _ [20, 21, 22, 23, 24, 25, 26, 27, 28, 42, 43, 44, 45] (by decide +kernel) (by decide +kernel)
set_option maxRecDepth 20000 in
theorem gX7_row_X6_renew : GoodIn wsX7_row (wsV RX7 75 RX6 yX6_renew wsX6_renew) := goodIn_app (goodIn_of _ (by decide +kernel)) ggX7_row_X6_renew
set_option maxRecDepth 20000 in
theorem ggX7_row_X7_fine : GoodIn wsX7_row wsX7_fine := goodIn_r _ [32, 14, 33, 34, 35, 36, 37, 38, 39, 40, 41] (by decide +kernel) (by decide +kernel)
set_option maxRecDepth 20000 in
theorem gX7_row_X7_fine : GoodIn wsX7_row (wsV RX7 79 RX7 yX7_fine wsX7_fine) := goodIn_app (goodIn_of _ (by decide +kernel)) ggX7_row_X7_fine
theorem dX7_row_0 : decode cX7_row 0 = .ok (.iload_n 1, 1) := by decide +kernel
theorem dX7_row_1 : decode cX7_row 1 = .ok (.invokestatic 62, 3) := by decide +kernel
theorem dX7_row_4 : decode cX7_row 4 = .ok (.ifCond .eq 18, 3) := by decide +kernel
theorem dX7_row_7 : decode cX7_row 7 = .ok (.iload_n 2, 1) := by decide +kernel
theorem dX7_row_8 : decode cX7_row 8 = .ok (.iconst 0, 1) := by decide +kernel
theorem dX7_row_9 : decode cX7_row 9 = .ok (.iconst 2, 1) := by decide +kernel
theorem dX7_row_10 : decode cX7_row 10 = .ok (.invokestatic 66, 3) := by decide +kernel
theorem dX7_row_13 : decode cX7_row 13 = .ok (.ifCond .eq 9, 3) := by decide +kernel
theorem dX7_row_16 : decode cX7_row 16 = .ok (.iload_n 3, 1) := by decide +kernel
theorem dX7_row_17 : decode cX7_row 17 = .ok (.bipush 40, 2) := by decide +kernel
theorem dX7_row_19 : decode cX7_row 19 = .ok (.if_icmp .le 6, 3) := by decide +kernel
theorem dX7_row_22 : decode cX7_row 22 = .ok (.ldc 70, 2) := by decide +kernel
theorem dX7_row_24 : decode cX7_row 24 = .ok (.ireturn, 1) := by decide +kernel
theorem dX7_row_25 : decode cX7_row 25 = .ok (.iload_n 3, 1) := by decide +kernel
theorem dX7_row_26 : decode cX7_row 26 = .ok (.ifCond .ge 9, 3) := by decide +kernel
theorem dX7_row_29 : decode cX7_row 29 = .ok (.aload_n 0, 1) := by decide +kernel
theorem dX7_row_30 : decode cX7_row 30 = .ok (.iconst 4, 1) := by decide +kernel
theorem dX7_row_31 : decode cX7_row 31 = .ok (.invokevirtual 71, 3) := by decide +kernel
theorem dX7_row_34 : decode cX7_row 34 = .ok (.ireturn, 1) := by decide +kernel
theorem dX7_row_35 : decode cX7_row 35 = .ok (.aload_n 0, 1) := by decide +kernel
theorem dX7_row_36 : decode cX7_row 36 = .ok (.getfield 11, 3) := by decide +kernel
theorem dX7_row_39 : decode cX7_row 39 = .ok (.iload_n 1, 1) := by decide +kernel
theorem dX7_row_40 : decode cX7_row 40 = .ok (.aaload, 1) := by decide +kernel
theorem dX7_row_41 : decode cX7_row 41 = .ok (.iload_n 2, 1) := by decide +kernel
theorem dX7_row_42 : decode cX7_row 42 = .ok (.iload_n 3, 1) := by decide +kernel
theorem dX7_row_43 : decode cX7_row 43 = .ok (.invokevirtual 75, 3) := by decide +kernel
theorem dX7_row_46 : decode cX7_row 46 = .ok (.aload_n 0, 1) := by decide +kernel
theorem dX7_row_47 : decode cX7_row 47 = .ok (.iload_n 3, 1) := by decide +kernel
theorem dX7_row_48 : decode cX7_row 48 = .ok (.invokevirtual 79, 3) := by decide +kernel
theorem dX7_row_51 : decode cX7_row 51 = .ok (.ireturn, 1) := by decide +kernel
set_option maxRecDepth 20000 in
theorem ggX7_set_X7_isRow : GoodIn wsX7_set wsX7_isRow := goodIn_r _ [8, 9, 10, 7, 11] (by decide +kernel) (by decide +kernel)
set_option maxRecDepth 20000 in
theorem gX7_set_X7_isRow : GoodIn wsX7_set (va_wsS RX7 62 yX7_isRow wsX7_isRow) := goodIn_app (goodIn_of _ (by decide +kernel)) ggX7_set_X7_isRow
set_option maxRecDepth 20000 in
theorem ggX7_set_X7_found : GoodIn wsX7_set wsX7_found := goodIn_r _ [15, 16, 17, 33, 34, 35, 36, 37, 38, 39, 40, 41] (by decide +kernel) (by decide +kernel)
set_option maxRecDepth 20000 in
theorem gX7_set_X7_found : GoodIn wsX7_set (wsV RX7 71 RX7 yX7_found wsX7_found) := goodIn_app (goodIn_of _ (by decide +kernel)) ggX7_set_X7_found
set_option maxRecDepth 20000 in
theorem ggX7_set_X6_spans : GoodIn wsX7_set wsX6_spans := goodIn_r _ [22, 23, 10, 7, 11, 42, 43, 44, 45] (by decide +kernel) (by decide +kernel)
set_option maxRecDepth 20000 in
theorem gX7_set_X6_spans : GoodIn wsX7_set (wsV RX7 86 RX6 yX6_spans wsX6_spans) := goodIn_app (goodIn_of _ (by decide +kernel)) ggX7_set_X6_spans
set_option maxRecDepth 20000 in
theorem ggX7_set_X6_lowestBits : GoodIn wsX7_set wsX6_lowestBits := goodIn_r _ [27, 28, 42, 43, 44, 45] (by decide +kernel) (by decide +kernel)
set_option maxRecDepth 20000 in
theorem gX7_set_X6_lowestBits : GoodIn wsX7_set (wsV RX7 94 RX6 yX6_lowestBits wsX6_lowestBits) := goodIn_app (goodIn_of _ (by decide +kernel)) ggX7_set_X6_lowestBits
set_option maxRecDepth 20000 in
theorem ggX7_set_X7_fine : GoodIn wsX7_set wsX7_fine := goodIn_r _ [32, 16, 33, 34, 35, 36, 37, 38, 39, 40, 41] (by decide +kernel) (by decide +kernel)
set_option maxRecDepth 20000 in
theorem gX7_set_X7_fine : GoodIn wsX7_set (wsV RX7 79 RX7 yX7_fine wsX7_fine) := goodIn_app (goodIn_of _ (by decide +kernel)) ggX7_set_X7_fine
theorem dX7_set_0 : decode cX7_set 0 = .ok (.iload_n 1, 1) := by decide +kernel
theorem dX7_set_1 : decode cX7_set 1 = .ok (.invokestatic 62, 3) := by decide +kernel
theorem dX7_set_4 : decode cX7_set 4 = .ok (.ifCond .ne 6, 3) := by decide +kernel
theorem dX7_set_7 : decode cX7_set 7 = .ok (.ldc 70, 2) := by decide +kernel
theorem dX7_set_9 : decode cX7_set 9 = .ok (.ireturn, 1) := by decide +kernel
theorem dX7_set_10 : decode cX7_set 10 = .ok (.aload_n 0, 1) := by decide +kernel
theorem dX7_set_11 : decode cX7_set 11 = .ok (.getfield 11, 3) := by decide +kernel
theorem dX7_set_14 : decode cX7_set 14 = .ok (.iload_n 1, 1) := by decide +kernel
theorem dX7_set_15 : decode cX7_set 15 = .ok (.aaload, 1) := by decide +kernel
theorem dX7_set_16 : decode cX7_set 16 = .ok (.astore 4, 2) := by decide +kernel
theorem dX7_set_18 : decode cX7_set 18 = .ok (.aload 4, 2) := by decide +kernel
theorem dX7_set_20 : decode cX7_set 20 = .ok (.getfield 82, 3) := by decide +kernel
theorem dX7_set_23 : decode cX7_set 23 = .ok (.ifCond .eq 9, 3) := by decide +kernel
theorem dX7_set_26 : decode cX7_set 26 = .ok (.aload_n 0, 1) := by decide +kernel
theorem dX7_set_27 : decode cX7_set 27 = .ok (.iconst 1, 1) := by decide +kernel
theorem dX7_set_28 : decode cX7_set 28 = .ok (.invokevirtual 71, 3) := by decide +kernel
theorem dX7_set_31 : decode cX7_set 31 = .ok (.ireturn, 1) := by decide +kernel
theorem dX7_set_32 : decode cX7_set 32 = .ok (.aload 4, 2) := by decide +kernel
theorem dX7_set_34 : decode cX7_set 34 = .ok (.iload_n 2, 1) := by decide +kernel
theorem dX7_set_35 : decode cX7_set 35 = .ok (.iconst 1, 1) := by decide +kernel
theorem dX7_set_36 : decode cX7_set 36 = .ok (.invokevirtual 86, 3) := by decide +kernel
theorem dX7_set_39 : decode cX7_set 39 = .ok (.ifCond .ne 9, 3) := by decide +kernel
theorem dX7_set_42 : decode cX7_set 42 = .ok (.aload_n 0, 1) := by decide +kernel
theorem dX7_set_43 : decode cX7_set 43 = .ok (.iconst 2, 1) := by decide +kernel
theorem dX7_set_44 : decode cX7_set 44 = .ok (.invokevirtual 71, 3) := by decide +kernel
theorem dX7_set_47 : decode cX7_set 47 = .ok (.ireturn, 1) := by decide +kernel
theorem dX7_set_48 : decode cX7_set 48 = .ok (.aload 4, 2) := by decide +kernel
theorem dX7_set_50 : decode cX7_set 50 = .ok (.getfield 90, 3) := by decide +kernel
theorem dX7_set_53 : decode cX7_set 53 = .ok (.iload_n 2, 1) := by decide +kernel
theorem dX7_set_54 : decode cX7_set 54 = .ok (.aload 4, 2) := by decide +kernel
theorem dX7_set_56 : decode cX7_set 56 = .ok (.iload_n 3, 1) := by decide +kernel
theorem dX7_set_57 : decode cX7_set 57 = .ok (.invokevirtual 94, 3) := by decide +kernel
theorem dX7_set_60 : decode cX7_set 60 = .ok (.iastore, 1) := by decide +kernel
theorem dX7_set_61 : decode cX7_set 61 = .ok (.aload_n 0, 1) := by decide +kernel
theorem dX7_set_62 : decode cX7_set 62 = .ok (.aload 4, 2) := by decide +kernel
theorem dX7_set_64 : decode cX7_set 64 = .ok (.getfield 90, 3) := by decide +kernel
theorem dX7_set_67 : decode cX7_set 67 = .ok (.iload_n 2, 1) := by decide +kernel
theorem dX7_set_68 : decode cX7_set 68 = .ok (.iaload, 1) := by decide +kernel
theorem dX7_set_69 : decode cX7_set 69 = .ok (.invokevirtual 79, 3) := by decide +kernel
theorem dX7_set_72 : decode cX7_set 72 = .ok (.ireturn, 1) := by decide +kernel
set_option maxRecDepth 20000 in
theorem ggX7_copy_X7_isRow : GoodIn wsX7_copy wsX7_isRow := goodIn_r _ [13, 14, 15, 12, 16] (by decide +kernel) (by decide +kernel)
set_option maxRecDepth 20000 in
theorem gX7_copy_X7_isRow : GoodIn wsX7_copy (va_wsS RX7 62 yX7_isRow wsX7_isRow) := goodIn_app (goodIn_of _ (by decide +kernel)) ggX7_copy_X7_isRow
set_option maxRecDepth 20000 in
theorem ggX7_copy_X7_found : GoodIn wsX7_copy wsX7_found := goodIn_r _ [20, 21, 22, 33, 34, 35, 36, 37, 38, 39, 40, 41] (by decide +kernel) (by decide +kernel)
set_option maxRecDepth 20000 in
theorem gX7_copy_X7_found : GoodIn wsX7_copy (wsV RX7 71 RX7 yX7_found wsX7_found) := goodIn_app (goodIn_of _ (by decide +kernel)) ggX7_copy_X7_found
set_option maxRecDepth 20000 in
theorem ggX7_copy_X6_spans : GoodIn wsX7_copy wsX6_spans := goodIn_r _ [27, 28, 15, 12, 16, 42, 43, 44, 45] (by decide +kernel) (by decide +kernel)
set_option maxRecDepth 20000 in
theorem gX7_copy_X6_spans : GoodIn wsX7_copy (wsV RX7 86 RX6 yX6_spans wsX6_spans) := goodIn_app (goodIn_of _ (by decide +kernel)) ggX7_copy_X6_spans
set_option maxRecDepth 20000 in
theorem ggX7_copy_X7_fine : GoodIn wsX7_copy wsX7_fine := goodIn_r _ [32, 21, 33, 34, 35, 36, 37, 38, 39, 40, 41] (by decide +kernel) (by decide +kernel)
set_option maxRecDepth 20000 in
theorem gX7_copy_X7_fine : GoodIn wsX7_copy (wsV RX7 79 RX7 yX7_fine wsX7_fine) := goodIn_app (goodIn_of _ (by decide +kernel)) ggX7_copy_X7_fine
theorem dX7_copy_0 : decode cX7_copy 0 = .ok (.iload_n 1, 1) := by decide +kernel
theorem dX7_copy_1 : decode cX7_copy 1 = .ok (.invokestatic 62, 3) := by decide +kernel
theorem dX7_copy_4 : decode cX7_copy 4 = .ok (.ifCond .eq 10, 3) := by decide +kernel
theorem dX7_copy_7 : decode cX7_copy 7 = .ok (.iload_n 3, 1) := by decide +kernel
theorem dX7_copy_8 : decode cX7_copy 8 = .ok (.invokestatic 62, 3) := by decide +kernel
theorem dX7_copy_11 : decode cX7_copy 11 = .ok (.ifCond .ne 6, 3) := by decide +kernel
theorem dX7_copy_14 : decode cX7_copy 14 = .ok (.ldc 70, 2) := by decide +kernel
theorem dX7_copy_16 : decode cX7_copy 16 = .ok (.ireturn, 1) := by decide +kernel
theorem dX7_copy_17 : decode cX7_copy 17 = .ok (.aload_n 0, 1) := by decide +kernel
theorem dX7_copy_18 : decode cX7_copy 18 = .ok (.getfield 11, 3) := by decide +kernel
theorem dX7_copy_21 : decode cX7_copy 21 = .ok (.iload_n 1, 1) := by decide +kernel
theorem dX7_copy_22 : decode cX7_copy 22 = .ok (.aaload, 1) := by decide +kernel
theorem dX7_copy_23 : decode cX7_copy 23 = .ok (.astore 6, 2) := by decide +kernel
theorem dX7_copy_25 : decode cX7_copy 25 = .ok (.aload_n 0, 1) := by decide +kernel
theorem dX7_copy_26 : decode cX7_copy 26 = .ok (.getfield 11, 3) := by decide +kernel
theorem dX7_copy_29 : decode cX7_copy 29 = .ok (.iload_n 3, 1) := by decide +kernel
theorem dX7_copy_30 : decode cX7_copy 30 = .ok (.aaload, 1) := by decide +kernel
theorem dX7_copy_31 : decode cX7_copy 31 = .ok (.astore 7, 2) := by decide +kernel
theorem dX7_copy_33 : decode cX7_copy 33 = .ok (.aload 6, 2) := by decide +kernel
theorem dX7_copy_35 : decode cX7_copy 35 = .ok (.getfield 82, 3) := by decide +kernel
theorem dX7_copy_38 : decode cX7_copy 38 = .ok (.ifCond .ne 11, 3) := by decide +kernel
theorem dX7_copy_41 : decode cX7_copy 41 = .ok (.aload 7, 2) := by decide +kernel
theorem dX7_copy_43 : decode cX7_copy 43 = .ok (.getfield 82, 3) := by decide +kernel
theorem dX7_copy_46 : decode cX7_copy 46 = .ok (.ifCond .eq 9, 3) := by decide +kernel
theorem dX7_copy_49 : decode cX7_copy 49 = .ok (.aload_n 0, 1) := by decide +kernel
theorem dX7_copy_50 : decode cX7_copy 50 = .ok (.iconst 1, 1) := by decide +kernel
theorem dX7_copy_51 : decode cX7_copy 51 = .ok (.invokevirtual 71, 3) := by decide +kernel
theorem dX7_copy_54 : decode cX7_copy 54 = .ok (.ireturn, 1) := by decide +kernel
theorem dX7_copy_55 : decode cX7_copy 55 = .ok (.aload 6, 2) := by decide +kernel
theorem dX7_copy_57 : decode cX7_copy 57 = .ok (.getfield 97, 3) := by decide +kernel
theorem dX7_copy_60 : decode cX7_copy 60 = .ok (.aload 7, 2) := by decide +kernel
theorem dX7_copy_62 : decode cX7_copy 62 = .ok (.getfield 97, 3) := by decide +kernel
theorem dX7_copy_65 : decode cX7_copy 65 = .ok (.if_icmp .eq 9, 3) := by decide +kernel
theorem dX7_copy_68 : decode cX7_copy 68 = .ok (.aload_n 0, 1) := by decide +kernel
theorem dX7_copy_69 : decode cX7_copy 69 = .ok (.iconst 5, 1) := by decide +kernel
theorem dX7_copy_70 : decode cX7_copy 70 = .ok (.invokevirtual 71, 3) := by decide +kernel
theorem dX7_copy_73 : decode cX7_copy 73 = .ok (.ireturn, 1) := by decide +kernel
theorem dX7_copy_74 : decode cX7_copy 74 = .ok (.aload 6, 2) := by decide +kernel
theorem dX7_copy_76 : decode cX7_copy 76 = .ok (.iload_n 2, 1) := by decide +kernel
theorem dX7_copy_77 : decode cX7_copy 77 = .ok (.iload 5, 2) := by decide +kernel
theorem dX7_copy_79 : decode cX7_copy 79 = .ok (.invokevirtual 86, 3) := by decide +kernel
theorem dX7_copy_82 : decode cX7_copy 82 = .ok (.ifCond .eq 15, 3) := by decide +kernel
theorem dX7_copy_85 : decode cX7_copy 85 = .ok (.aload 7, 2) := by decide +kernel
theorem dX7_copy_87 : decode cX7_copy 87 = .ok (.iload 4, 2) := by decide +kernel
theorem dX7_copy_89 : decode cX7_copy 89 = .ok (.iload 5, 2) := by decide +kernel
theorem dX7_copy_91 : decode cX7_copy 91 = .ok (.invokevirtual 86, 3) := by decide +kernel
theorem dX7_copy_94 : decode cX7_copy 94 = .ok (.ifCond .ne 9, 3) := by decide +kernel
theorem dX7_copy_97 : decode cX7_copy 97 = .ok (.aload_n 0, 1) := by decide +kernel
theorem dX7_copy_98 : decode cX7_copy 98 = .ok (.iconst 2, 1) := by decide +kernel
theorem dX7_copy_99 : decode cX7_copy 99 = .ok (.invokevirtual 71, 3) := by decide +kernel
theorem dX7_copy_102 : decode cX7_copy 102 = .ok (.ireturn, 1) := by decide +kernel
theorem dX7_copy_103 : decode cX7_copy 103 = .ok (.aload 6, 2) := by decide +kernel
theorem dX7_copy_105 : decode cX7_copy 105 = .ok (.getfield 90, 3) := by decide +kernel
theorem dX7_copy_108 : decode cX7_copy 108 = .ok (.iload_n 2, 1) := by decide +kernel
theorem dX7_copy_109 : decode cX7_copy 109 = .ok (.aload 7, 2) := by decide +kernel
theorem dX7_copy_111 : decode cX7_copy 111 = .ok (.getfield 90, 3) := by decide +kernel
theorem dX7_copy_114 : decode cX7_copy 114 = .ok (.iload 4, 2) := by decide +kernel
theorem dX7_copy_116 : decode cX7_copy 116 = .ok (.iload 5, 2) := by decide +kernel
theorem dX7_copy_118 : decode cX7_copy 118 = .ok (.invokestatic 100, 3) := by decide +kernel
theorem dX7_copy_121 : decode cX7_copy 121 = .ok (.aload_n 0, 1) := by decide +kernel
theorem dX7_copy_122 : decode cX7_copy 122 = .ok (.iload 5, 2) := by decide +kernel
theorem dX7_copy_124 : decode cX7_copy 124 = .ok (.invokevirtual 79, 3) := by decide +kernel
theorem dX7_copy_127 : decode cX7_copy 127 = .ok (.ireturn, 1) := by decide +kernel
set_option maxRecDepth 20000 in
theorem ggX7_drop_X7_isRow : GoodIn wsX7_drop wsX7_isRow := goodIn_r _ [8, 9, 10, 7, 11] (by decide +kernel) (by decide +kernel)
set_option maxRecDepth 20000 in
theorem gX7_drop_X7_isRow : GoodIn wsX7_drop (va_wsS RX7 62 yX7_isRow wsX7_isRow) := goodIn_app (goodIn_of _ (by decide +kernel)) ggX7_drop_X7_isRow
set_option maxRecDepth 20000 in
theorem ggX7_drop_X7_found : GoodIn wsX7_drop wsX7_found := goodIn_r _ [15, 16, 17, 22, 23, 24, 25, 26, 27, 28, 29, 30] (by decide +kernel) (by decide +kernel)
set_option maxRecDepth 20000 in
theorem gX7_drop_X7_found : GoodIn wsX7_drop (wsV RX7 71 RX7 yX7_found wsX7_found) := goodIn_app (goodIn_of _ (by decide +kernel)) ggX7_drop_X7_found
set_option maxRecDepth 20000 in
theorem ggX7_drop_X7_fine : GoodIn wsX7_drop wsX7_fine := goodIn_r _ [21, 16, 22, 23, 24, 25, 26, 27, 28, 29, 30] (by decide +kernel) (by decide +kernel)
set_option maxRecDepth 20000 in
theorem gX7_drop_X7_fine : GoodIn wsX7_drop (wsV RX7 79 RX7 yX7_fine wsX7_fine) := goodIn_app (goodIn_of _ (by decide +kernel)) ggX7_drop_X7_fine
theorem dX7_drop_0 : decode cX7_drop 0 = .ok (.iload_n 1, 1) := by decide +kernel
theorem dX7_drop_1 : decode cX7_drop 1 = .ok (.invokestatic 62, 3) := by decide +kernel
theorem dX7_drop_4 : decode cX7_drop 4 = .ok (.ifCond .ne 6, 3) := by decide +kernel
theorem dX7_drop_7 : decode cX7_drop 7 = .ok (.ldc 70, 2) := by decide +kernel
theorem dX7_drop_9 : decode cX7_drop 9 = .ok (.ireturn, 1) := by decide +kernel
theorem dX7_drop_10 : decode cX7_drop 10 = .ok (.aload_n 0, 1) := by decide +kernel
theorem dX7_drop_11 : decode cX7_drop 11 = .ok (.getfield 11, 3) := by decide +kernel
theorem dX7_drop_14 : decode cX7_drop 14 = .ok (.iload_n 1, 1) := by decide +kernel
theorem dX7_drop_15 : decode cX7_drop 15 = .ok (.aaload, 1) := by decide +kernel
theorem dX7_drop_16 : decode cX7_drop 16 = .ok (.getfield 82, 3) := by decide +kernel
theorem dX7_drop_19 : decode cX7_drop 19 = .ok (.ifCond .eq 9, 3) := by decide +kernel
theorem dX7_drop_22 : decode cX7_drop 22 = .ok (.aload_n 0, 1) := by decide +kernel
theorem dX7_drop_23 : decode cX7_drop 23 = .ok (.iconst 1, 1) := by decide +kernel
theorem dX7_drop_24 : decode cX7_drop 24 = .ok (.invokevirtual 71, 3) := by decide +kernel
theorem dX7_drop_27 : decode cX7_drop 27 = .ok (.ireturn, 1) := by decide +kernel
theorem dX7_drop_28 : decode cX7_drop 28 = .ok (.aload_n 0, 1) := by decide +kernel
theorem dX7_drop_29 : decode cX7_drop 29 = .ok (.getfield 11, 3) := by decide +kernel
theorem dX7_drop_32 : decode cX7_drop 32 = .ok (.iload_n 1, 1) := by decide +kernel
theorem dX7_drop_33 : decode cX7_drop 33 = .ok (.aaload, 1) := by decide +kernel
theorem dX7_drop_34 : decode cX7_drop 34 = .ok (.iconst 1, 1) := by decide +kernel
theorem dX7_drop_35 : decode cX7_drop 35 = .ok (.putfield 82, 3) := by decide +kernel
theorem dX7_drop_38 : decode cX7_drop 38 = .ok (.aload_n 0, 1) := by decide +kernel
theorem dX7_drop_39 : decode cX7_drop 39 = .ok (.aload_n 0, 1) := by decide +kernel
theorem dX7_drop_40 : decode cX7_drop 40 = .ok (.getfield 11, 3) := by decide +kernel
theorem dX7_drop_43 : decode cX7_drop 43 = .ok (.iload_n 1, 1) := by decide +kernel
theorem dX7_drop_44 : decode cX7_drop 44 = .ok (.aaload, 1) := by decide +kernel
theorem dX7_drop_45 : decode cX7_drop 45 = .ok (.getfield 106, 3) := by decide +kernel
theorem dX7_drop_48 : decode cX7_drop 48 = .ok (.invokevirtual 79, 3) := by decide +kernel
theorem dX7_drop_51 : decode cX7_drop 51 = .ok (.ireturn, 1) := by decide +kernel
set_option maxRecDepth 20000 in
theorem ggX7_feed_X7_within : GoodIn wsX7_feed wsX7_within := goodIn_r _ [8] (by decide +kernel) (by decide +kernel)
set_option maxRecDepth 20000 in
theorem gX7_feed_X7_within : GoodIn wsX7_feed (va_wsS RX7 66 yX7_within wsX7_within) := goodIn_app (goodIn_of _ (by decide +kernel)) ggX7_feed_X7_within
set_option maxRecDepth 20000 in
theorem ggX7_feed_X5_append : GoodIn wsX7_feed wsX5_append := goodIn_r _ [13, 14, 15, 25, 26, 27, 28, 29, 30, 31, 32] (by decide +kernel) (by decide +kernel)
set_option maxRecDepth 20000 in
theorem gX7_feed_X5_append : GoodIn wsX7_feed (wsV RX7 113 RX5 yX5_append wsX5_append) := goodIn_app (goodIn_of _ (by decide +kernel)) ggX7_feed_X5_append
theorem dX7_feed_0 : decode cX7_feed 0 = .ok (.iload_n 1, 1) := by decide +kernel
theorem dX7_feed_1 : decode cX7_feed 1 = .ok (.iconst 0, 1) := by decide +kernel
theorem dX7_feed_2 : decode cX7_feed 2 = .ok (.sipush 255, 3) := by decide +kernel
theorem dX7_feed_5 : decode cX7_feed 5 = .ok (.invokestatic 66, 3) := by decide +kernel
theorem dX7_feed_8 : decode cX7_feed 8 = .ok (.ifCond .ne 6, 3) := by decide +kernel
theorem dX7_feed_11 : decode cX7_feed 11 = .ok (.ldc 70, 2) := by decide +kernel
theorem dX7_feed_13 : decode cX7_feed 13 = .ok (.ireturn, 1) := by decide +kernel
theorem dX7_feed_14 : decode cX7_feed 14 = .ok (.aload_n 0, 1) := by decide +kernel
theorem dX7_feed_15 : decode cX7_feed 15 = .ok (.getfield 18, 3) := by decide +kernel
theorem dX7_feed_18 : decode cX7_feed 18 = .ok (.getfield 109, 3) := by decide +kernel
theorem dX7_feed_21 : decode cX7_feed 21 = .ok (.bipush 70, 2) := by decide +kernel
theorem dX7_feed_23 : decode cX7_feed 23 = .ok (.if_icmp .lt 6, 3) := by decide +kernel
theorem dX7_feed_26 : decode cX7_feed 26 = .ok (.ldc 112, 2) := by decide +kernel
theorem dX7_feed_28 : decode cX7_feed 28 = .ok (.ireturn, 1) := by decide +kernel
theorem dX7_feed_29 : decode cX7_feed 29 = .ok (.aload_n 0, 1) := by decide +kernel
theorem dX7_feed_30 : decode cX7_feed 30 = .ok (.getfield 18, 3) := by decide +kernel
theorem dX7_feed_33 : decode cX7_feed 33 = .ok (.iload_n 1, 1) := by decide +kernel
theorem dX7_feed_34 : decode cX7_feed 34 = .ok (.invokevirtual 113, 3) := by decide +kernel
theorem dX7_feed_37 : decode cX7_feed 37 = .ok (.ireturn, 1) := by decide +kernel
set_option maxRecDepth 20000 in
theorem ggX7_glass_X5_readTape : GoodIn wsX7_glass wsX5_readTape := goodIn_r _ [14, 15, 16, 17, 18, 19, 20, 21, 13, 22, 23, 24, 25, 26, 27, 28, 29, 30, 31, 32, 33, 34, 35, 36, 37, 38, 39, 40, 41, 42, 43, 44, 45, 46, 47, 48, 49, 50, 51, 52, 53, 54, 55, 56, 57, 58, 59, 60, 61, 62, 63, 64, 65, 66, 67, 68, 69, 70, 71, 72, 73, 74, 75, 76, 77, 78, 79, 80, 81, 82, 83, 84, 85, 109, 110, 111, 112, 113, 114, 115, 116, 117, 118, 119, 120, 121, 122, 123, 124, 125] (by decide +kernel) (by decide +kernel)
set_option maxRecDepth 20000 in
theorem gX7_glass_X5_readTape : GoodIn wsX7_glass (wsV RX7 116 RX5 yX5_readTape wsX5_readTape) := goodIn_app (goodIn_of _ (by decide +kernel)) ggX7_glass_X5_readTape
set_option maxRecDepth 20000 in
theorem ggX7_glass_X3_become : GoodIn wsX7_glass wsX3_become := goodIn_r _ [89, 71, 90, 91, 92, 93, 72, 78, 77, 54, 56, 57, 58, 55, 117, 118, 119, 120, 121, 122, 123, 124, 125] (by decide +kernel) (by decide +kernel)
set_option maxRecDepth 20000 in
theorem gX7_glass_X3_become : GoodIn wsX7_glass (wsV RX7 130 RX3 yX3_become wsX3_become) := goodIn_app (goodIn_of _ (by decide +kernel)) ggX7_glass_X3_become
set_option maxRecDepth 20000 in
theorem ggX7_glass_X0_forget : GoodIn wsX7_glass wsX0_forget := goodIn_r _ [98, 99, 126, 127, 128] (by decide +kernel) (by decide +kernel)
set_option maxRecDepth 20000 in
theorem gX7_glass_X0_forget : GoodIn wsX7_glass (wsV RX7 134 RX0 yX0_forget wsX0_forget) := goodIn_app (goodIn_of _ (by decide +kernel)) ggX7_glass_X0_forget
theorem dX7_glass_0 : decode cX7_glass 0 = .ok (.aload_n 0, 1) := by decide +kernel
theorem dX7_glass_1 : decode cX7_glass 1 = .ok (.getfield 18, 3) := by decide +kernel
theorem dX7_glass_4 : decode cX7_glass 4 = .ok (.invokevirtual 116, 3) := by decide +kernel
theorem dX7_glass_7 : decode cX7_glass 7 = .ok (.istore_n 1, 1) := by decide +kernel
theorem dX7_glass_8 : decode cX7_glass 8 = .ok (.iload_n 1, 1) := by decide +kernel
theorem dX7_glass_9 : decode cX7_glass 9 = .ok (.ifCond .ne 25, 3) := by decide +kernel
theorem dX7_glass_12 : decode cX7_glass 12 = .ok (.aload_n 0, 1) := by decide +kernel
theorem dX7_glass_13 : decode cX7_glass 13 = .ok (.aload_n 0, 1) := by decide +kernel
theorem dX7_glass_14 : decode cX7_glass 14 = .ok (.getfield 18, 3) := by decide +kernel
theorem dX7_glass_17 : decode cX7_glass 17 = .ok (.getfield 120, 3) := by decide +kernel
theorem dX7_glass_20 : decode cX7_glass 20 = .ok (.putfield 54, 3) := by decide +kernel
theorem dX7_glass_23 : decode cX7_glass 23 = .ok (.ldc 123, 2) := by decide +kernel
theorem dX7_glass_25 : decode cX7_glass 25 = .ok (.aload_n 0, 1) := by decide +kernel
theorem dX7_glass_26 : decode cX7_glass 26 = .ok (.getfield 18, 3) := by decide +kernel
theorem dX7_glass_29 : decode cX7_glass 29 = .ok (.getfield 124, 3) := by decide +kernel
theorem dX7_glass_32 : decode cX7_glass 32 = .ok (.isub, 1) := by decide +kernel
theorem dX7_glass_33 : decode cX7_glass 33 = .ok (.ireturn, 1) := by decide +kernel
theorem dX7_glass_34 : decode cX7_glass 34 = .ok (.aload_n 0, 1) := by decide +kernel
theorem dX7_glass_35 : decode cX7_glass 35 = .ok (.getfield 25, 3) := by decide +kernel
theorem dX7_glass_38 : decode cX7_glass 38 = .ok (.aload_n 0, 1) := by decide +kernel
theorem dX7_glass_39 : decode cX7_glass 39 = .ok (.getfield 18, 3) := by decide +kernel
theorem dX7_glass_42 : decode cX7_glass 42 = .ok (.getfield 127, 3) := by decide +kernel
theorem dX7_glass_45 : decode cX7_glass 45 = .ok (.invokevirtual 130, 3) := by decide +kernel
theorem dX7_glass_48 : decode cX7_glass 48 = .ok (.aload_n 0, 1) := by decide +kernel
theorem dX7_glass_49 : decode cX7_glass 49 = .ok (.getfield 32, 3) := by decide +kernel
theorem dX7_glass_52 : decode cX7_glass 52 = .ok (.invokevirtual 134, 3) := by decide +kernel
theorem dX7_glass_55 : decode cX7_glass 55 = .ok (.aload_n 0, 1) := by decide +kernel
