theorem dX6_init_0 : decode cX6_init 0 = .ok (.aload_n 0, 1) := by decide +kernel
theorem dX6_init_1 : decode cX6_init 1 = .ok (.invokespecial 1, 3) := by decide +kernel
theorem dX6_init_4 : decode cX6_init 4 = .ok (.aload_n 0, 1) := by decide +kernel
theorem dX6_init_5 : decode cX6_init 5 = .ok (.iconst 0, 1) := by decide +kernel
theorem dX6_init_6 : decode cX6_init 6 = .ok (.putfield 7, 3) := by decide +kernel
theorem dX6_init_9 : decode cX6_init 9 = .ok (.aload_n 0, 1) := by decide +kernel
theorem dX6_init_10 : decode cX6_init 10 = .ok (.iconst 0, 1) := by decide +kernel
theorem dX6_init_11 : decode cX6_init 11 = .ok (.putfield 13, 3) := by decide +kernel
theorem dX6_init_14 : decode cX6_init 14 = .ok (.aload_n 0, 1) := by decide +kernel
theorem dX6_init_15 : decode cX6_init 15 = .ok (.iconst 0, 1) := by decide +kernel
theorem dX6_init_16 : decode cX6_init 16 = .ok (.putfield 16, 3) := by decide +kernel
theorem dX6_init_19 : decode cX6_init 19 = .ok (.aload_n 0, 1) := by decide +kernel
theorem dX6_init_20 : decode cX6_init 20 = .ok (.iconst 0, 1) := by decide +kernel
theorem dX6_init_21 : decode cX6_init 21 = .ok (.putfield 19, 3) := by decide +kernel
theorem dX6_init_24 : decode cX6_init 24 = .ok (.aload_n 0, 1) := by decide +kernel
theorem dX6_init_25 : decode cX6_init 25 = .ok (.iconst 0, 1) := by decide +kernel
theorem dX6_init_26 : decode cX6_init 26 = .ok (.putfield 22, 3) := by decide +kernel
theorem dX6_init_29 : decode cX6_init 29 = .ok (.aload_n 0, 1) := by decide +kernel
theorem dX6_init_30 : decode cX6_init 30 = .ok (.iconst 0, 1) := by decide +kernel
theorem dX6_init_31 : decode cX6_init 31 = .ok (.putfield 25, 3) := by decide +kernel
theorem dX6_init_34 : decode cX6_init 34 = .ok (.aload_n 0, 1) := by decide +kernel
theorem dX6_init_35 : decode cX6_init 35 = .ok (.iconst 0, 1) := by decide +kernel
theorem dX6_init_36 : decode cX6_init 36 = .ok (.putfield 28, 3) := by decide +kernel
theorem dX6_init_39 : decode cX6_init 39 = .ok (.aload_n 0, 1) := by decide +kernel
theorem dX6_init_40 : decode cX6_init 40 = .ok (.iconst 0, 1) := by decide +kernel
theorem dX6_init_41 : decode cX6_init 41 = .ok (.putfield 31, 3) := by decide +kernel
theorem dX6_init_44 : decode cX6_init 44 = .ok (.aload_n 0, 1) := by decide +kernel
theorem dX6_init_45 : decode cX6_init 45 = .ok (.iconst 3, 1) := by decide +kernel
theorem dX6_init_46 : decode cX6_init 46 = .ok (.putfield 34, 3) := by decide +kernel
theorem dX6_init_49 : decode cX6_init 49 = .ok (.aload_n 0, 1) := by decide +kernel
theorem dX6_init_50 : decode cX6_init 50 = .ok (.iconst 0, 1) := by decide +kernel
theorem dX6_init_51 : decode cX6_init 51 = .ok (.putfield 37, 3) := by decide +kernel
theorem dX6_init_54 : decode cX6_init 54 = .ok (.aload_n 0, 1) := by decide +kernel
theorem dX6_init_55 : decode cX6_init 55 = .ok (.iconst 4, 1) := by decide +kernel
theorem dX6_init_56 : decode cX6_init 56 = .ok (.newarray .int, 2) := by decide +kernel
theorem dX6_init_58 : decode cX6_init 58 = .ok (.putfield 40, 3) := by decide +kernel
theorem dX6_init_61 : decode cX6_init 61 = .ok (.aload_n 0, 1) := by decide +kernel
theorem dX6_init_62 : decode cX6_init 62 = .ok (.bipush 12, 2) := by decide +kernel
theorem dX6_init_64 : decode cX6_init 64 = .ok (.newarray .int, 2) := by decide +kernel
theorem dX6_init_66 : decode cX6_init 66 = .ok (.putfield 44, 3) := by decide +kernel
theorem dX6_init_69 : decode cX6_init 69 = .ok (.aload_n 0, 1) := by decide +kernel
theorem dX6_init_70 : decode cX6_init 70 = .ok (.bipush 10, 2) := by decide +kernel
theorem dX6_init_72 : decode cX6_init 72 = .ok (.newarray .int, 2) := by decide +kernel
theorem dX6_init_74 : decode cX6_init 74 = .ok (.putfield 47, 3) := by decide +kernel
theorem dX6_init_77 : decode cX6_init 77 = .ok (.aload_n 0, 1) := by decide +kernel
theorem dX6_init_78 : decode cX6_init 78 = .ok (.bipush 10, 2) := by decide +kernel
theorem dX6_init_80 : decode cX6_init 80 = .ok (.newarray .int, 2) := by decide +kernel
theorem dX6_init_82 : decode cX6_init 82 = .ok (.putfield 50, 3) := by decide +kernel
theorem dX6_init_85 : decode cX6_init 85 = .ok (.aload_n 0, 1) := by decide +kernel
theorem dX6_init_86 : decode cX6_init 86 = .ok (.bipush 10, 2) := by decide +kernel
theorem dX6_init_88 : decode cX6_init 88 = .ok (.newarray .int, 2) := by decide +kernel
theorem dX6_init_90 : decode cX6_init 90 = .ok (.putfield 53, 3) := by decide +kernel
theorem dX6_init_93 : decode cX6_init 93 = .ok (.aload_n 0, 1) := by decide +kernel
theorem dX6_init_94 : decode cX6_init 94 = .ok (.bipush 10, 2) := by decide +kernel
theorem dX6_init_96 : decode cX6_init 96 = .ok (.newarray .int, 2) := by decide +kernel
theorem dX6_init_98 : decode cX6_init 98 = .ok (.putfield 56, 3) := by decide +kernel
theorem dX6_init_101 : decode cX6_init 101 = .ok (.aload_n 0, 1) := by decide +kernel
theorem dX6_init_102 : decode cX6_init 102 = .ok (.bipush 10, 2) := by decide +kernel
theorem dX6_init_104 : decode cX6_init 104 = .ok (.newarray .char, 2) := by decide +kernel
theorem dX6_init_106 : decode cX6_init 106 = .ok (.putfield 59, 3) := by decide +kernel
theorem dX6_init_109 : decode cX6_init 109 = .ok (.aload_n 0, 1) := by decide +kernel
theorem dX6_init_110 : decode cX6_init 110 = .ok (.bipush 40, 2) := by decide +kernel
theorem dX6_init_112 : decode cX6_init 112 = .ok (.newarray .int, 2) := by decide +kernel
theorem dX6_init_114 : decode cX6_init 114 = .ok (.putfield 63, 3) := by decide +kernel
theorem dX6_init_117 : decode cX6_init 117 = .ok (.aload_n 0, 1) := by decide +kernel
theorem dX6_init_118 : decode cX6_init 118 = .ok (.bipush 60, 2) := by decide +kernel
theorem dX6_init_120 : decode cX6_init 120 = .ok (.newarray .int, 2) := by decide +kernel
theorem dX6_init_122 : decode cX6_init 122 = .ok (.putfield 66, 3) := by decide +kernel
theorem dX6_init_125 : decode cX6_init 125 = .ok (.aload_n 0, 1) := by decide +kernel
theorem dX6_init_126 : decode cX6_init 126 = .ok (.bipush 60, 2) := by decide +kernel
theorem dX6_init_128 : decode cX6_init 128 = .ok (.newarray .int, 2) := by decide +kernel
theorem dX6_init_130 : decode cX6_init 130 = .ok (.putfield 69, 3) := by decide +kernel
theorem dX6_init_133 : decode cX6_init 133 = .ok (.aload_n 0, 1) := by decide +kernel
theorem dX6_init_134 : decode cX6_init 134 = .ok (.bipush 60, 2) := by decide +kernel
theorem dX6_init_136 : decode cX6_init 136 = .ok (.newarray .int, 2) := by decide +kernel
theorem dX6_init_138 : decode cX6_init 138 = .ok (.putfield 72, 3) := by decide +kernel
theorem dX6_init_141 : decode cX6_init 141 = .ok (.aload_n 0, 1) := by decide +kernel
theorem dX6_init_142 : decode cX6_init 142 = .ok (.bipush 60, 2) := by decide +kernel
theorem dX6_init_144 : decode cX6_init 144 = .ok (.newarray .int, 2) := by decide +kernel
theorem dX6_init_146 : decode cX6_init 146 = .ok (.putfield 75, 3) := by decide +kernel
theorem dX6_init_149 : decode cX6_init 149 = .ok (.aload_n 0, 1) := by decide +kernel
theorem dX6_init_150 : decode cX6_init 150 = .ok (.bipush 60, 2) := by decide +kernel
theorem dX6_init_152 : decode cX6_init 152 = .ok (.newarray .int, 2) := by decide +kernel
theorem dX6_init_154 : decode cX6_init 154 = .ok (.putfield 78, 3) := by decide +kernel
theorem dX6_init_157 : decode cX6_init 157 = .ok (.aload_n 0, 1) := by decide +kernel
theorem dX6_init_158 : decode cX6_init 158 = .ok (.bipush 60, 2) := by decide +kernel
theorem dX6_init_160 : decode cX6_init 160 = .ok (.newarray .int, 2) := by decide +kernel
theorem dX6_init_162 : decode cX6_init 162 = .ok (.putfield 81, 3) := by decide +kernel
theorem dX6_init_165 : decode cX6_init 165 = .ok (.aload_n 0, 1) := by decide +kernel
theorem dX6_init_166 : decode cX6_init 166 = .ok (.bipush 60, 2) := by decide +kernel
theorem dX6_init_168 : decode cX6_init 168 = .ok (.newarray .int, 2) := by decide +kernel
theorem dX6_init_170 : decode cX6_init 170 = .ok (.putfield 84, 3) := by decide +kernel
theorem dX6_init_173 : decode cX6_init 173 = .ok (.aload_n 0, 1) := by decide +kernel
theorem dX6_init_174 : decode cX6_init 174 = .ok (.bipush 60, 2) := by decide +kernel
theorem dX6_init_176 : decode cX6_init 176 = .ok (.newarray .int, 2) := by decide +kernel
theorem dX6_init_178 : decode cX6_init 178 = .ok (.putfield 87, 3) := by decide +kernel
theorem dX6_init_181 : decode cX6_init 181 = .ok (.aload_n 0, 1) := by decide +kernel
theorem dX6_init_182 : decode cX6_init 182 = .ok (.bipush 60, 2) := by decide +kernel
theorem dX6_init_184 : decode cX6_init 184 = .ok (.newarray .int, 2) := by decide +kernel
theorem dX6_init_186 : decode cX6_init 186 = .ok (.putfield 90, 3) := by decide +kernel
theorem dX6_init_189 : decode cX6_init 189 = .ok (.aload_n 0, 1) := by decide +kernel
theorem dX6_init_190 : decode cX6_init 190 = .ok (.sipush 2400, 3) := by decide +kernel
theorem dX6_init_193 : decode cX6_init 193 = .ok (.newarray .int, 2) := by decide +kernel
theorem dX6_init_195 : decode cX6_init 195 = .ok (.putfield 93, 3) := by decide +kernel
theorem dX6_init_198 : decode cX6_init 198 = .ok (.aload_n 0, 1) := by decide +kernel
theorem dX6_init_199 : decode cX6_init 199 = .ok (.sipush 2400, 3) := by decide +kernel
theorem dX6_init_202 : decode cX6_init 202 = .ok (.newarray .int, 2) := by decide +kernel
theorem dX6_init_204 : decode cX6_init 204 = .ok (.putfield 96, 3) := by decide +kernel
theorem dX6_init_207 : decode cX6_init 207 = .ok (.aload_n 0, 1) := by decide +kernel
theorem dX6_init_208 : decode cX6_init 208 = .ok (.bipush 60, 2) := by decide +kernel
theorem dX6_init_210 : decode cX6_init 210 = .ok (.newarray .int, 2) := by decide +kernel
theorem dX6_init_212 : decode cX6_init 212 = .ok (.putfield 99, 3) := by decide +kernel
theorem dX6_init_215 : decode cX6_init 215 = .ok (.aload_n 0, 1) := by decide +kernel
theorem dX6_init_216 : decode cX6_init 216 = .ok (.bipush 40, 2) := by decide +kernel
theorem dX6_init_218 : decode cX6_init 218 = .ok (.newarray .int, 2) := by decide +kernel
theorem dX6_init_220 : decode cX6_init 220 = .ok (.putfield 102, 3) := by decide +kernel
theorem dX6_init_223 : decode cX6_init 223 = .ok (.aload_n 0, 1) := by decide +kernel
theorem dX6_init_224 : decode cX6_init 224 = .ok (.bipush 40, 2) := by decide +kernel
theorem dX6_init_226 : decode cX6_init 226 = .ok (.newarray .int, 2) := by decide +kernel
theorem dX6_init_228 : decode cX6_init 228 = .ok (.putfield 105, 3) := by decide +kernel
theorem dX6_init_231 : decode cX6_init 231 = .ok (.aload_n 0, 1) := by decide +kernel
theorem dX6_init_232 : decode cX6_init 232 = .ok (.bipush 40, 2) := by decide +kernel
theorem dX6_init_234 : decode cX6_init 234 = .ok (.newarray .int, 2) := by decide +kernel
theorem dX6_init_236 : decode cX6_init 236 = .ok (.putfield 108, 3) := by decide +kernel
theorem dX6_init_239 : decode cX6_init 239 = .ok (.aload_n 0, 1) := by decide +kernel
theorem dX6_init_240 : decode cX6_init 240 = .ok (.bipush 40, 2) := by decide +kernel
theorem dX6_init_242 : decode cX6_init 242 = .ok (.newarray .int, 2) := by decide +kernel
theorem dX6_init_244 : decode cX6_init 244 = .ok (.putfield 111, 3) := by decide +kernel
theorem dX6_init_247 : decode cX6_init 247 = .ok (.aload_n 0, 1) := by decide +kernel
theorem dX6_init_248 : decode cX6_init 248 = .ok (.bipush 120, 2) := by decide +kernel
theorem dX6_init_250 : decode cX6_init 250 = .ok (.newarray .boolean, 2) := by decide +kernel
theorem dX6_init_252 : decode cX6_init 252 = .ok (.putfield 114, 3) := by decide +kernel
theorem dX6_init_255 : decode cX6_init 255 = .ok (.return_, 1) := by decide +kernel
theorem dX6_thrown_0 : decode cX6_thrown 0 = .ok (.aload_n 0, 1) := by decide +kernel
theorem dX6_thrown_1 : decode cX6_thrown 1 = .ok (.getfield 37, 3) := by decide +kernel
theorem dX6_thrown_4 : decode cX6_thrown 4 = .ok (.ireturn, 1) := by decide +kernel
theorem dX6_greater_0 : decode cX6_greater 0 = .ok (.iload_n 0, 1) := by decide +kernel
theorem dX6_greater_1 : decode cX6_greater 1 = .ok (.iload_n 1, 1) := by decide +kernel
theorem dX6_greater_2 : decode cX6_greater 2 = .ok (.if_icmp .le 7, 3) := by decide +kernel
theorem dX6_greater_5 : decode cX6_greater 5 = .ok (.iload_n 0, 1) := by decide +kernel
theorem dX6_greater_6 : decode cX6_greater 6 = .ok (.goto 4, 3) := by decide +kernel
theorem dX6_greater_9 : decode cX6_greater 9 = .ok (.iload_n 1, 1) := by decide +kernel
theorem dX6_greater_10 : decode cX6_greater 10 = .ok (.ireturn, 1) := by decide +kernel
theorem dX6_lesser_0 : decode cX6_lesser 0 = .ok (.iload_n 0, 1) := by decide +kernel
theorem dX6_lesser_1 : decode cX6_lesser 1 = .ok (.iload_n 1, 1) := by decide +kernel
theorem dX6_lesser_2 : decode cX6_lesser 2 = .ok (.if_icmp .ge 7, 3) := by decide +kernel
theorem dX6_lesser_5 : decode cX6_lesser 5 = .ok (.iload_n 0, 1) := by decide +kernel
theorem dX6_lesser_6 : decode cX6_lesser 6 = .ok (.goto 4, 3) := by decide +kernel
theorem dX6_lesser_9 : decode cX6_lesser 9 = .ok (.iload_n 1, 1) := by decide +kernel
theorem dX6_lesser_10 : decode cX6_lesser 10 = .ok (.ireturn, 1) := by decide +kernel
theorem dX6_in_0 : decode cX6_in 0 = .ok (.iload_n 0, 1) := by decide +kernel
theorem dX6_in_1 : decode cX6_in 1 = .ok (.iload_n 1, 1) := by decide +kernel
theorem dX6_in_2 : decode cX6_in 2 = .ok (.if_icmp .lt 12, 3) := by decide +kernel
theorem dX6_in_5 : decode cX6_in 5 = .ok (.iload_n 0, 1) := by decide +kernel
theorem dX6_in_6 : decode cX6_in 6 = .ok (.iload_n 2, 1) := by decide +kernel
theorem dX6_in_7 : decode cX6_in 7 = .ok (.if_icmp .gt 7, 3) := by decide +kernel
theorem dX6_in_10 : decode cX6_in 10 = .ok (.iconst 1, 1) := by decide +kernel
theorem dX6_in_11 : decode cX6_in 11 = .ok (.goto 4, 3) := by decide +kernel
theorem dX6_in_14 : decode cX6_in 14 = .ok (.iconst 0, 1) := by decide +kernel
theorem dX6_in_15 : decode cX6_in 15 = .ok (.ireturn, 1) := by decide +kernel
theorem dX6_fails_0 : decode cX6_fails 0 = .ok (.aload_n 0, 1) := by decide +kernel
theorem dX6_fails_1 : decode cX6_fails 1 = .ok (.iload_n 1, 1) := by decide +kernel
theorem dX6_fails_2 : decode cX6_fails 2 = .ok (.putfield 37, 3) := by decide +kernel
theorem dX6_fails_5 : decode cX6_fails 5 = .ok (.iconst 0, 1) := by decide +kernel
theorem dX6_fails_6 : decode cX6_fails 6 = .ok (.ireturn, 1) := by decide +kernel
theorem dX6_tells_0 : decode cX6_tells 0 = .ok (.aload_n 0, 1) := by decide +kernel
theorem dX6_tells_1 : decode cX6_tells 1 = .ok (.iconst 0, 1) := by decide +kernel
theorem dX6_tells_2 : decode cX6_tells 2 = .ok (.putfield 37, 3) := by decide +kernel
theorem dX6_tells_5 : decode cX6_tells 5 = .ok (.iload_n 1, 1) := by decide +kernel
theorem dX6_tells_6 : decode cX6_tells 6 = .ok (.ireturn, 1) := by decide +kernel
set_option maxRecDepth 20000 in
theorem ggX6_classroom_X6_in : GoodIn wsX6_classroom wsX6_in := goodIn_r _ [6] (by decide +kernel) (by decide +kernel)
set_option maxRecDepth 20000 in
theorem gX6_classroom_X6_in : GoodIn wsX6_classroom (va_wsS RX6 118 yX6_in wsX6_in) := goodIn_app (goodIn_of _ (by decide +kernel)) ggX6_classroom_X6_in
set_option maxRecDepth 20000 in
theorem ggX6_classroom_X6_fails : GoodIn wsX6_classroom wsX6_fails := goodIn_r _ [10, 11, 16, 17, 18, 19, 20, 21, 22, 23, 24, 25, 26, 27, 28, 29, 30, 31, 32, 33, 34, 35, 36, 37, 38, 39, 40, 41, 42, 43, 44, 45, 46, 47, 48, 49, 50] (by decide +kernel) (by decide +kernel)
set_option maxRecDepth 20000 in
theorem gX6_classroom_X6_fails : GoodIn wsX6_classroom (wsV RX6 122 RX6 yX6_fails wsX6_fails) := goodIn_app (goodIn_of _ (by decide +kernel)) ggX6_classroom_X6_fails
set_option maxRecDepth 20000 in
theorem ggX6_classroom_X6_tells : GoodIn wsX6_classroom wsX6_tells := goodIn_r _ [15, 11, 16, 17, 18, 19, 20, 21, 22, 23, 24, 25, 26, 27, 28, 29, 30, 31, 32, 33, 34, 35, 36, 37, 38, 39, 40, 41, 42, 43, 44, 45, 46, 47, 48, 49, 50] (by decide +kernel) (by decide +kernel)
set_option maxRecDepth 20000 in
theorem gX6_classroom_X6_tells : GoodIn wsX6_classroom (wsV RX6 126 RX6 yX6_tells wsX6_tells) := goodIn_app (goodIn_of _ (by decide +kernel)) ggX6_classroom_X6_tells
theorem dX6_classroom_0 : decode cX6_classroom 0 = .ok (.iload_n 1, 1) := by decide +kernel
theorem dX6_classroom_1 : decode cX6_classroom 1 = .ok (.sipush (-720), 3) := by decide +kernel
theorem dX6_classroom_4 : decode cX6_classroom 4 = .ok (.sipush 720, 3) := by decide +kernel
theorem dX6_classroom_7 : decode cX6_classroom 7 = .ok (.invokestatic 118, 3) := by decide +kernel
theorem dX6_classroom_10 : decode cX6_classroom 10 = .ok (.ifCond .ne 9, 3) := by decide +kernel
theorem dX6_classroom_13 : decode cX6_classroom 13 = .ok (.aload_n 0, 1) := by decide +kernel
theorem dX6_classroom_14 : decode cX6_classroom 14 = .ok (.iconst 1, 1) := by decide +kernel
theorem dX6_classroom_15 : decode cX6_classroom 15 = .ok (.invokevirtual 122, 3) := by decide +kernel
theorem dX6_classroom_18 : decode cX6_classroom 18 = .ok (.ireturn, 1) := by decide +kernel
theorem dX6_classroom_19 : decode cX6_classroom 19 = .ok (.aload_n 0, 1) := by decide +kernel
theorem dX6_classroom_20 : decode cX6_classroom 20 = .ok (.getfield 13, 3) := by decide +kernel
theorem dX6_classroom_23 : decode cX6_classroom 23 = .ok (.iconst 4, 1) := by decide +kernel
theorem dX6_classroom_24 : decode cX6_classroom 24 = .ok (.if_icmp .ne 9, 3) := by decide +kernel
theorem dX6_classroom_27 : decode cX6_classroom 27 = .ok (.aload_n 0, 1) := by decide +kernel
theorem dX6_classroom_28 : decode cX6_classroom 28 = .ok (.iconst 2, 1) := by decide +kernel
theorem dX6_classroom_29 : decode cX6_classroom 29 = .ok (.invokevirtual 122, 3) := by decide +kernel
theorem dX6_classroom_32 : decode cX6_classroom 32 = .ok (.ireturn, 1) := by decide +kernel
theorem dX6_classroom_33 : decode cX6_classroom 33 = .ok (.aload_n 0, 1) := by decide +kernel
theorem dX6_classroom_34 : decode cX6_classroom 34 = .ok (.getfield 40, 3) := by decide +kernel
theorem dX6_classroom_37 : decode cX6_classroom 37 = .ok (.aload_n 0, 1) := by decide +kernel
theorem dX6_classroom_38 : decode cX6_classroom 38 = .ok (.getfield 13, 3) := by decide +kernel
theorem dX6_classroom_41 : decode cX6_classroom 41 = .ok (.iload_n 1, 1) := by decide +kernel
theorem dX6_classroom_42 : decode cX6_classroom 42 = .ok (.iastore, 1) := by decide +kernel
theorem dX6_classroom_43 : decode cX6_classroom 43 = .ok (.aload_n 0, 1) := by decide +kernel
theorem dX6_classroom_44 : decode cX6_classroom 44 = .ok (.dup, 1) := by decide +kernel
theorem dX6_classroom_45 : decode cX6_classroom 45 = .ok (.getfield 13, 3) := by decide +kernel
theorem dX6_classroom_48 : decode cX6_classroom 48 = .ok (.iconst 1, 1) := by decide +kernel
theorem dX6_classroom_49 : decode cX6_classroom 49 = .ok (.iadd, 1) := by decide +kernel
theorem dX6_classroom_50 : decode cX6_classroom 50 = .ok (.putfield 13, 3) := by decide +kernel
theorem dX6_classroom_53 : decode cX6_classroom 53 = .ok (.aload_n 0, 1) := by decide +kernel
theorem dX6_classroom_54 : decode cX6_classroom 54 = .ok (.aload_n 0, 1) := by decide +kernel
theorem dX6_classroom_55 : decode cX6_classroom 55 = .ok (.getfield 13, 3) := by decide +kernel
theorem dX6_classroom_58 : decode cX6_classroom 58 = .ok (.iconst 1, 1) := by decide +kernel
theorem dX6_classroom_59 : decode cX6_classroom 59 = .ok (.isub, 1) := by decide +kernel
theorem dX6_classroom_60 : decode cX6_classroom 60 = .ok (.invokevirtual 126, 3) := by decide +kernel
theorem dX6_classroom_63 : decode cX6_classroom 63 = .ok (.ireturn, 1) := by decide +kernel
set_option maxRecDepth 20000 in
theorem ggX6_isClass_X6_in : GoodIn wsX6_isClass wsX6_in := goodIn_r _ [5] (by decide +kernel) (by decide +kernel)
set_option maxRecDepth 20000 in
theorem gX6_isClass_X6_in : GoodIn wsX6_isClass (va_wsS RX6 118 yX6_in wsX6_in) := goodIn_app (goodIn_of _ (by decide +kernel)) ggX6_isClass_X6_in
theorem dX6_isClass_0 : decode cX6_isClass 0 = .ok (.iload_n 1, 1) := by decide +kernel
theorem dX6_isClass_1 : decode cX6_isClass 1 = .ok (.iconst 0, 1) := by decide +kernel
theorem dX6_isClass_2 : decode cX6_isClass 2 = .ok (.aload_n 0, 1) := by decide +kernel
theorem dX6_isClass_3 : decode cX6_isClass 3 = .ok (.getfield 13, 3) := by decide +kernel
theorem dX6_isClass_6 : decode cX6_isClass 6 = .ok (.iconst 1, 1) := by decide +kernel
theorem dX6_isClass_7 : decode cX6_isClass 7 = .ok (.isub, 1) := by decide +kernel
theorem dX6_isClass_8 : decode cX6_isClass 8 = .ok (.invokestatic 118, 3) := by decide +kernel
theorem dX6_isClass_11 : decode cX6_isClass 11 = .ok (.ireturn, 1) := by decide +kernel
set_option maxRecDepth 20000 in
theorem ggX6_pupil_X6_isClass : GoodIn wsX6_pupil wsX6_isClass := goodIn_r _ [7, 8, 9, 10, 6, 11, 21, 22, 23, 24, 25, 26, 27, 28, 29, 30, 31, 32, 33, 34, 35, 36, 37, 38, 39, 40, 41, 42, 43, 44, 45, 46, 47, 48, 49, 50, 51, 52, 53, 54, 55] (by decide +kernel) (by decide +kernel)
set_option maxRecDepth 20000 in
theorem gX6_pupil_X6_isClass : GoodIn wsX6_pupil (wsV RX6 129 RX6 yX6_isClass wsX6_isClass) := goodIn_app (goodIn_of _ (by decide +kernel)) ggX6_pupil_X6_isClass
set_option maxRecDepth 20000 in
theorem ggX6_pupil_X6_fails : GoodIn wsX6_pupil wsX6_fails := goodIn_r _ [15, 16, 21, 22, 23, 24, 25, 26, 27, 28, 29, 30, 31, 32, 33, 34, 35, 36, 37, 38, 39, 40, 41, 42, 43, 44, 45, 46, 47, 48, 49, 50, 51, 52, 53, 54, 55] (by decide +kernel) (by decide +kernel)
set_option maxRecDepth 20000 in
theorem gX6_pupil_X6_fails : GoodIn wsX6_pupil (wsV RX6 122 RX6 yX6_fails wsX6_fails) := goodIn_app (goodIn_of _ (by decide +kernel)) ggX6_pupil_X6_fails
set_option maxRecDepth 20000 in
theorem ggX6_pupil_X6_tells : GoodIn wsX6_pupil wsX6_tells := goodIn_r _ [20, 16, 21, 22, 23, 24, 25, 26, 27, 28, 29, 30, 31, 32, 33, 34, 35, 36, 37, 38, 39, 40, 41, 42, 43, 44, 45, 46, 47, 48, 49, 50, 51, 52, 53, 54, 55] (by decide +kernel) (by decide +kernel)
set_option maxRecDepth 20000 in
theorem gX6_pupil_X6_tells : GoodIn wsX6_pupil (wsV RX6 126 RX6 yX6_tells wsX6_tells) := goodIn_app (goodIn_of _ (by decide +kernel)) ggX6_pupil_X6_tells
theorem dX6_pupil_0 : decode cX6_pupil 0 = .ok (.aload_n 0, 1) := by decide +kernel
theorem dX6_pupil_1 : decode cX6_pupil 1 = .ok (.iload_n 1, 1) := by decide +kernel
theorem dX6_pupil_2 : decode cX6_pupil 2 = .ok (.invokevirtual 129, 3) := by decide +kernel
theorem dX6_pupil_5 : decode cX6_pupil 5 = .ok (.ifCond .ne 9, 3) := by decide +kernel
theorem dX6_pupil_8 : decode cX6_pupil 8 = .ok (.aload_n 0, 1) := by decide +kernel
theorem dX6_pupil_9 : decode cX6_pupil 9 = .ok (.iconst 1, 1) := by decide +kernel
theorem dX6_pupil_10 : decode cX6_pupil 10 = .ok (.invokevirtual 122, 3) := by decide +kernel
theorem dX6_pupil_13 : decode cX6_pupil 13 = .ok (.ireturn, 1) := by decide +kernel
theorem dX6_pupil_14 : decode cX6_pupil 14 = .ok (.aload_n 0, 1) := by decide +kernel
theorem dX6_pupil_15 : decode cX6_pupil 15 = .ok (.getfield 16, 3) := by decide +kernel
theorem dX6_pupil_18 : decode cX6_pupil 18 = .ok (.bipush 12, 2) := by decide +kernel
theorem dX6_pupil_20 : decode cX6_pupil 20 = .ok (.if_icmp .ne 9, 3) := by decide +kernel
theorem dX6_pupil_23 : decode cX6_pupil 23 = .ok (.aload_n 0, 1) := by decide +kernel
theorem dX6_pupil_24 : decode cX6_pupil 24 = .ok (.iconst 2, 1) := by decide +kernel
theorem dX6_pupil_25 : decode cX6_pupil 25 = .ok (.invokevirtual 122, 3) := by decide +kernel
theorem dX6_pupil_28 : decode cX6_pupil 28 = .ok (.ireturn, 1) := by decide +kernel
theorem dX6_pupil_29 : decode cX6_pupil 29 = .ok (.aload_n 0, 1) := by decide +kernel
theorem dX6_pupil_30 : decode cX6_pupil 30 = .ok (.getfield 44, 3) := by decide +kernel
theorem dX6_pupil_33 : decode cX6_pupil 33 = .ok (.aload_n 0, 1) := by decide +kernel
theorem dX6_pupil_34 : decode cX6_pupil 34 = .ok (.getfield 16, 3) := by decide +kernel
theorem dX6_pupil_37 : decode cX6_pupil 37 = .ok (.iload_n 1, 1) := by decide +kernel
theorem dX6_pupil_38 : decode cX6_pupil 38 = .ok (.iastore, 1) := by decide +kernel
theorem dX6_pupil_39 : decode cX6_pupil 39 = .ok (.aload_n 0, 1) := by decide +kernel
theorem dX6_pupil_40 : decode cX6_pupil 40 = .ok (.dup, 1) := by decide +kernel
theorem dX6_pupil_41 : decode cX6_pupil 41 = .ok (.getfield 16, 3) := by decide +kernel
theorem dX6_pupil_44 : decode cX6_pupil 44 = .ok (.iconst 1, 1) := by decide +kernel
theorem dX6_pupil_45 : decode cX6_pupil 45 = .ok (.iadd, 1) := by decide +kernel
theorem dX6_pupil_46 : decode cX6_pupil 46 = .ok (.putfield 16, 3) := by decide +kernel
theorem dX6_pupil_49 : decode cX6_pupil 49 = .ok (.aload_n 0, 1) := by decide +kernel
theorem dX6_pupil_50 : decode cX6_pupil 50 = .ok (.aload_n 0, 1) := by decide +kernel
theorem dX6_pupil_51 : decode cX6_pupil 51 = .ok (.getfield 16, 3) := by decide +kernel
theorem dX6_pupil_54 : decode cX6_pupil 54 = .ok (.iconst 1, 1) := by decide +kernel
theorem dX6_pupil_55 : decode cX6_pupil 55 = .ok (.isub, 1) := by decide +kernel
theorem dX6_pupil_56 : decode cX6_pupil 56 = .ok (.invokevirtual 126, 3) := by decide +kernel
theorem dX6_pupil_59 : decode cX6_pupil 59 = .ok (.ireturn, 1) := by decide +kernel
set_option maxRecDepth 20000 in
theorem ggX6_task_X6_isClass : GoodIn wsX6_task wsX6_isClass := goodIn_r _ [12, 13, 14, 15, 11, 16, 26, 27, 28, 29, 30, 31, 32, 33, 34, 35, 36, 37, 38, 39, 40, 41, 42, 43, 44, 45, 46, 47, 48, 49, 50, 51, 52, 53, 54, 55, 56, 57, 58, 59, 60] (by decide +kernel) (by decide +kernel)
set_option maxRecDepth 20000 in
theorem gX6_task_X6_isClass : GoodIn wsX6_task (wsV RX6 129 RX6 yX6_isClass wsX6_isClass) := goodIn_app (goodIn_of _ (by decide +kernel)) ggX6_task_X6_isClass
set_option maxRecDepth 20000 in
theorem ggX6_task_X6_fails : GoodIn wsX6_task wsX6_fails := goodIn_r _ [20, 21, 26, 27, 28, 29, 30, 31, 32, 33, 34, 35, 36, 37, 38, 39, 40, 41, 42, 43, 44, 45, 46, 47, 48, 49, 50, 51, 52, 53, 54, 55, 56, 57, 58, 59, 60] (by decide +kernel) (by decide +kernel)
set_option maxRecDepth 20000 in
theorem gX6_task_X6_fails : GoodIn wsX6_task (wsV RX6 122 RX6 yX6_fails wsX6_fails) := goodIn_app (goodIn_of _ (by decide +kernel)) ggX6_task_X6_fails
set_option maxRecDepth 20000 in
theorem ggX6_task_X6_in : GoodIn wsX6_task wsX6_in := goodIn_r _ [16] (by decide +kernel) (by decide +kernel)
set_option maxRecDepth 20000 in
theorem gX6_task_X6_in : GoodIn wsX6_task (va_wsS RX6 118 yX6_in wsX6_in) := goodIn_app (goodIn_of _ (by decide +kernel)) ggX6_task_X6_in
set_option maxRecDepth 20000 in
theorem ggX6_task_X6_tells : GoodIn wsX6_task wsX6_tells := goodIn_r _ [25, 21, 26, 27, 28, 29, 30, 31, 32, 33, 34, 35, 36, 37, 38, 39, 40, 41, 42, 43, 44, 45, 46, 47, 48, 49, 50, 51, 52, 53, 54, 55, 56, 57, 58, 59, 60] (by decide +kernel) (by decide +kernel)
set_option maxRecDepth 20000 in
theorem gX6_task_X6_tells : GoodIn wsX6_task (wsV RX6 126 RX6 yX6_tells wsX6_tells) := goodIn_app (goodIn_of _ (by decide +kernel)) ggX6_task_X6_tells
theorem dX6_task_0 : decode cX6_task 0 = .ok (.aload_n 0, 1) := by decide +kernel
theorem dX6_task_1 : decode cX6_task 1 = .ok (.iload_n 1, 1) := by decide +kernel
theorem dX6_task_2 : decode cX6_task 2 = .ok (.invokevirtual 129, 3) := by decide +kernel
theorem dX6_task_5 : decode cX6_task 5 = .ok (.ifCond .ne 9, 3) := by decide +kernel
theorem dX6_task_8 : decode cX6_task 8 = .ok (.aload_n 0, 1) := by decide +kernel
theorem dX6_task_9 : decode cX6_task 9 = .ok (.iconst 1, 1) := by decide +kernel
theorem dX6_task_10 : decode cX6_task 10 = .ok (.invokevirtual 122, 3) := by decide +kernel
theorem dX6_task_13 : decode cX6_task 13 = .ok (.ireturn, 1) := by decide +kernel
theorem dX6_task_14 : decode cX6_task 14 = .ok (.iload 4, 2) := by decide +kernel
theorem dX6_task_16 : decode cX6_task 16 = .ok (.bipush 104, 2) := by decide +kernel
theorem dX6_task_18 : decode cX6_task 18 = .ok (.if_icmp .eq 24, 3) := by decide +kernel
theorem dX6_task_21 : decode cX6_task 21 = .ok (.iload 4, 2) := by decide +kernel
theorem dX6_task_23 : decode cX6_task 23 = .ok (.bipush 100, 2) := by decide +kernel
theorem dX6_task_25 : decode cX6_task 25 = .ok (.if_icmp .eq 17, 3) := by decide +kernel
theorem dX6_task_28 : decode cX6_task 28 = .ok (.iload 4, 2) := by decide +kernel
theorem dX6_task_30 : decode cX6_task 30 = .ok (.bipush 103, 2) := by decide +kernel
theorem dX6_task_32 : decode cX6_task 32 = .ok (.if_icmp .eq 10, 3) := by decide +kernel
theorem dX6_task_35 : decode cX6_task 35 = .ok (.iload 4, 2) := by decide +kernel
theorem dX6_task_37 : decode cX6_task 37 = .ok (.bipush 115, 2) := by decide +kernel
theorem dX6_task_39 : decode cX6_task 39 = .ok (.if_icmp .ne 7, 3) := by decide +kernel
theorem dX6_task_42 : decode cX6_task 42 = .ok (.iconst 1, 1) := by decide +kernel
theorem dX6_task_43 : decode cX6_task 43 = .ok (.goto 4, 3) := by decide +kernel
theorem dX6_task_46 : decode cX6_task 46 = .ok (.iconst 0, 1) := by decide +kernel
theorem dX6_task_47 : decode cX6_task 47 = .ok (.istore 6, 2) := by decide +kernel
theorem dX6_task_49 : decode cX6_task 49 = .ok (.iload_n 2, 1) := by decide +kernel
theorem dX6_task_50 : decode cX6_task 50 = .ok (.iconst 0, 1) := by decide +kernel
theorem dX6_task_51 : decode cX6_task 51 = .ok (.ldc 133, 2) := by decide +kernel
theorem dX6_task_53 : decode cX6_task 53 = .ok (.invokestatic 118, 3) := by decide +kernel
theorem dX6_task_56 : decode cX6_task 56 = .ok (.ifCond .eq 29, 3) := by decide +kernel
theorem dX6_task_59 : decode cX6_task 59 = .ok (.iload_n 3, 1) := by decide +kernel
theorem dX6_task_60 : decode cX6_task 60 = .ok (.iconst 1, 1) := by decide +kernel
theorem dX6_task_61 : decode cX6_task 61 = .ok (.bipush 100, 2) := by decide +kernel
theorem dX6_task_63 : decode cX6_task 63 = .ok (.invokestatic 118, 3) := by decide +kernel
theorem dX6_task_66 : decode cX6_task 66 = .ok (.ifCond .eq 19, 3) := by decide +kernel
theorem dX6_task_69 : decode cX6_task 69 = .ok (.iload 6, 2) := by decide +kernel
theorem dX6_task_71 : decode cX6_task 71 = .ok (.ifCond .eq 14, 3) := by decide +kernel
theorem dX6_task_74 : decode cX6_task 74 = .ok (.iload 5, 2) := by decide +kernel
theorem dX6_task_76 : decode cX6_task 76 = .ok (.iconst 0, 1) := by decide +kernel
theorem dX6_task_77 : decode cX6_task 77 = .ok (.bipush 100, 2) := by decide +kernel
theorem dX6_task_79 : decode cX6_task 79 = .ok (.invokestatic 118, 3) := by decide +kernel
theorem dX6_task_82 : decode cX6_task 82 = .ok (.ifCond .ne 9, 3) := by decide +kernel
theorem dX6_task_85 : decode cX6_task 85 = .ok (.aload_n 0, 1) := by decide +kernel
theorem dX6_task_86 : decode cX6_task 86 = .ok (.iconst 2, 1) := by decide +kernel
theorem dX6_task_87 : decode cX6_task 87 = .ok (.invokevirtual 122, 3) := by decide +kernel
theorem dX6_task_90 : decode cX6_task 90 = .ok (.ireturn, 1) := by decide +kernel
theorem dX6_task_91 : decode cX6_task 91 = .ok (.aload_n 0, 1) := by decide +kernel
theorem dX6_task_92 : decode cX6_task 92 = .ok (.getfield 19, 3) := by decide +kernel
theorem dX6_task_95 : decode cX6_task 95 = .ok (.bipush 10, 2) := by decide +kernel
theorem dX6_task_97 : decode cX6_task 97 = .ok (.if_icmp .ne 9, 3) := by decide +kernel
theorem dX6_task_100 : decode cX6_task 100 = .ok (.aload_n 0, 1) := by decide +kernel
theorem dX6_task_101 : decode cX6_task 101 = .ok (.iconst 3, 1) := by decide +kernel
theorem dX6_task_102 : decode cX6_task 102 = .ok (.invokevirtual 122, 3) := by decide +kernel
theorem dX6_task_105 : decode cX6_task 105 = .ok (.ireturn, 1) := by decide +kernel
theorem dX6_task_106 : decode cX6_task 106 = .ok (.aload_n 0, 1) := by decide +kernel
theorem dX6_task_107 : decode cX6_task 107 = .ok (.getfield 47, 3) := by decide +kernel
theorem dX6_task_110 : decode cX6_task 110 = .ok (.aload_n 0, 1) := by decide +kernel
theorem dX6_task_111 : decode cX6_task 111 = .ok (.getfield 19, 3) := by decide +kernel
theorem dX6_task_114 : decode cX6_task 114 = .ok (.iload_n 1, 1) := by decide +kernel
theorem dX6_task_115 : decode cX6_task 115 = .ok (.iastore, 1) := by decide +kernel
theorem dX6_task_116 : decode cX6_task 116 = .ok (.aload_n 0, 1) := by decide +kernel
theorem dX6_task_117 : decode cX6_task 117 = .ok (.getfield 50, 3) := by decide +kernel
theorem dX6_task_120 : decode cX6_task 120 = .ok (.aload_n 0, 1) := by decide +kernel
theorem dX6_task_121 : decode cX6_task 121 = .ok (.getfield 19, 3) := by decide +kernel
theorem dX6_task_124 : decode cX6_task 124 = .ok (.iload_n 2, 1) := by decide +kernel
theorem dX6_task_125 : decode cX6_task 125 = .ok (.iastore, 1) := by decide +kernel
theorem dX6_task_126 : decode cX6_task 126 = .ok (.aload_n 0, 1) := by decide +kernel
theorem dX6_task_127 : decode cX6_task 127 = .ok (.getfield 53, 3) := by decide +kernel
theorem dX6_task_130 : decode cX6_task 130 = .ok (.aload_n 0, 1) := by decide +kernel
theorem dX6_task_131 : decode cX6_task 131 = .ok (.getfield 19, 3) := by decide +kernel
theorem dX6_task_134 : decode cX6_task 134 = .ok (.iload_n 3, 1) := by decide +kernel
theorem dX6_task_135 : decode cX6_task 135 = .ok (.iastore, 1) := by decide +kernel
theorem dX6_task_136 : decode cX6_task 136 = .ok (.aload_n 0, 1) := by decide +kernel
theorem dX6_task_137 : decode cX6_task 137 = .ok (.getfield 59, 3) := by decide +kernel
theorem dX6_task_140 : decode cX6_task 140 = .ok (.aload_n 0, 1) := by decide +kernel
theorem dX6_task_141 : decode cX6_task 141 = .ok (.getfield 19, 3) := by decide +kernel
theorem dX6_task_144 : decode cX6_task 144 = .ok (.iload 4, 2) := by decide +kernel
theorem dX6_task_146 : decode cX6_task 146 = .ok (.castore, 1) := by decide +kernel
theorem dX6_task_147 : decode cX6_task 147 = .ok (.aload_n 0, 1) := by decide +kernel
theorem dX6_task_148 : decode cX6_task 148 = .ok (.getfield 56, 3) := by decide +kernel
theorem dX6_task_151 : decode cX6_task 151 = .ok (.aload_n 0, 1) := by decide +kernel
theorem dX6_task_152 : decode cX6_task 152 = .ok (.getfield 19, 3) := by decide +kernel
theorem dX6_task_155 : decode cX6_task 155 = .ok (.iload 5, 2) := by decide +kernel
theorem dX6_task_157 : decode cX6_task 157 = .ok (.iastore, 1) := by decide +kernel
theorem dX6_task_158 : decode cX6_task 158 = .ok (.aload_n 0, 1) := by decide +kernel
theorem dX6_task_159 : decode cX6_task 159 = .ok (.dup, 1) := by decide +kernel
theorem dX6_task_160 : decode cX6_task 160 = .ok (.getfield 19, 3) := by decide +kernel
theorem dX6_task_163 : decode cX6_task 163 = .ok (.iconst 1, 1) := by decide +kernel
theorem dX6_task_164 : decode cX6_task 164 = .ok (.iadd, 1) := by decide +kernel
theorem dX6_task_165 : decode cX6_task 165 = .ok (.putfield 19, 3) := by decide +kernel
theorem dX6_task_168 : decode cX6_task 168 = .ok (.aload_n 0, 1) := by decide +kernel
theorem dX6_task_169 : decode cX6_task 169 = .ok (.aload_n 0, 1) := by decide +kernel
theorem dX6_task_170 : decode cX6_task 170 = .ok (.getfield 19, 3) := by decide +kernel
theorem dX6_task_173 : decode cX6_task 173 = .ok (.iconst 1, 1) := by decide +kernel
theorem dX6_task_174 : decode cX6_task 174 = .ok (.isub, 1) := by decide +kernel
theorem dX6_task_175 : decode cX6_task 175 = .ok (.invokevirtual 126, 3) := by decide +kernel
theorem dX6_task_178 : decode cX6_task 178 = .ok (.ireturn, 1) := by decide +kernel
set_option maxRecDepth 20000 in
theorem ggX6_pass_X6_in : GoodIn wsX6_pass wsX6_in := goodIn_r _ [7] (by decide +kernel) (by decide +kernel)
set_option maxRecDepth 20000 in
theorem gX6_pass_X6_in : GoodIn wsX6_pass (va_wsS RX6 118 yX6_in wsX6_in) := goodIn_app (goodIn_of _ (by decide +kernel)) ggX6_pass_X6_in
set_option maxRecDepth 20000 in
theorem ggX6_pass_X6_fails : GoodIn wsX6_pass wsX6_fails := goodIn_r _ [11, 12, 17, 18, 19, 20, 21, 22, 23, 24, 25, 26, 27, 28, 29, 30, 31, 32, 33, 34, 35, 36, 37, 38, 39, 40, 41, 42, 43, 44, 45, 46, 47, 48, 49, 50, 51] (by decide +kernel) (by decide +kernel)
set_option maxRecDepth 20000 in
theorem gX6_pass_X6_fails : GoodIn wsX6_pass (wsV RX6 122 RX6 yX6_fails wsX6_fails) := goodIn_app (goodIn_of _ (by decide +kernel)) ggX6_pass_X6_fails
set_option maxRecDepth 20000 in
theorem ggX6_pass_X6_tells : GoodIn wsX6_pass wsX6_tells := goodIn_r _ [16, 12, 17, 18, 19, 20, 21, 22, 23, 24, 25, 26, 27, 28, 29, 30, 31, 32, 33, 34, 35, 36, 37, 38, 39, 40, 41, 42, 43, 44, 45, 46, 47, 48, 49, 50, 51] (by decide +kernel) (by decide +kernel)
set_option maxRecDepth 20000 in
theorem gX6_pass_X6_tells : GoodIn wsX6_pass (wsV RX6 126 RX6 yX6_tells wsX6_tells) := goodIn_app (goodIn_of _ (by decide +kernel)) ggX6_pass_X6_tells
theorem dX6_pass_0 : decode cX6_pass 0 = .ok (.iload_n 1, 1) := by decide +kernel
theorem dX6_pass_1 : decode cX6_pass 1 = .ok (.iconst 1, 1) := by decide +kernel
theorem dX6_pass_2 : decode cX6_pass 2 = .ok (.ldc 134, 2) := by decide +kernel
theorem dX6_pass_4 : decode cX6_pass 4 = .ok (.invokestatic 118, 3) := by decide +kernel
theorem dX6_pass_7 : decode cX6_pass 7 = .ok (.ifCond .ne 9, 3) := by decide +kernel
theorem dX6_pass_10 : decode cX6_pass 10 = .ok (.aload_n 0, 1) := by decide +kernel
theorem dX6_pass_11 : decode cX6_pass 11 = .ok (.iconst 1, 1) := by decide +kernel
theorem dX6_pass_12 : decode cX6_pass 12 = .ok (.invokevirtual 122, 3) := by decide +kernel
theorem dX6_pass_15 : decode cX6_pass 15 = .ok (.ireturn, 1) := by decide +kernel
theorem dX6_pass_16 : decode cX6_pass 16 = .ok (.aload_n 0, 1) := by decide +kernel
theorem dX6_pass_17 : decode cX6_pass 17 = .ok (.getfield 7, 3) := by decide +kernel
theorem dX6_pass_20 : decode cX6_pass 20 = .ok (.iload_n 1, 1) := by decide +kernel
theorem dX6_pass_21 : decode cX6_pass 21 = .ok (.iadd, 1) := by decide +kernel
theorem dX6_pass_22 : decode cX6_pass 22 = .ok (.ldc 133, 2) := by decide +kernel
theorem dX6_pass_24 : decode cX6_pass 24 = .ok (.if_icmp .le 9, 3) := by decide +kernel
theorem dX6_pass_27 : decode cX6_pass 27 = .ok (.aload_n 0, 1) := by decide +kernel
theorem dX6_pass_28 : decode cX6_pass 28 = .ok (.iconst 2, 1) := by decide +kernel
theorem dX6_pass_29 : decode cX6_pass 29 = .ok (.invokevirtual 122, 3) := by decide +kernel
theorem dX6_pass_32 : decode cX6_pass 32 = .ok (.ireturn, 1) := by decide +kernel
theorem dX6_pass_33 : decode cX6_pass 33 = .ok (.aload_n 0, 1) := by decide +kernel
theorem dX6_pass_34 : decode cX6_pass 34 = .ok (.dup, 1) := by decide +kernel
theorem dX6_pass_35 : decode cX6_pass 35 = .ok (.getfield 7, 3) := by decide +kernel
theorem dX6_pass_38 : decode cX6_pass 38 = .ok (.iload_n 1, 1) := by decide +kernel
theorem dX6_pass_39 : decode cX6_pass 39 = .ok (.iadd, 1) := by decide +kernel
theorem dX6_pass_40 : decode cX6_pass 40 = .ok (.putfield 7, 3) := by decide +kernel
theorem dX6_pass_43 : decode cX6_pass 43 = .ok (.aload_n 0, 1) := by decide +kernel
theorem dX6_pass_44 : decode cX6_pass 44 = .ok (.aload_n 0, 1) := by decide +kernel
theorem dX6_pass_45 : decode cX6_pass 45 = .ok (.getfield 7, 3) := by decide +kernel
theorem dX6_pass_48 : decode cX6_pass 48 = .ok (.invokevirtual 126, 3) := by decide +kernel
theorem dX6_pass_51 : decode cX6_pass 51 = .ok (.ireturn, 1) := by decide +kernel
set_option maxRecDepth 20000 in
theorem ggX6_clock_X6_isClass : GoodIn wsX6_clock wsX6_isClass := goodIn_r _ [7, 8, 9, 10, 6, 11, 21, 22, 23, 24, 25, 26, 27, 28, 29, 30, 31, 32, 33, 34, 35, 36, 37, 38, 39, 40, 41, 42, 43, 44, 45, 46, 47, 48, 49, 50, 51, 52, 53, 54, 55] (by decide +kernel) (by decide +kernel)
set_option maxRecDepth 20000 in
theorem gX6_clock_X6_isClass : GoodIn wsX6_clock (wsV RX6 129 RX6 yX6_isClass wsX6_isClass) := goodIn_app (goodIn_of _ (by decide +kernel)) ggX6_clock_X6_isClass
set_option maxRecDepth 20000 in
theorem ggX6_clock_X6_tells : GoodIn wsX6_clock wsX6_tells := goodIn_r _ [15, 16, 21, 22, 23, 24, 25, 26, 27, 28, 29, 30, 31, 32, 33, 34, 35, 36, 37, 38, 39, 40, 41, 42, 43, 44, 45, 46, 47, 48, 49, 50, 51, 52, 53, 54, 55] (by decide +kernel) (by decide +kernel)
set_option maxRecDepth 20000 in
theorem gX6_clock_X6_tells : GoodIn wsX6_clock (wsV RX6 126 RX6 yX6_tells wsX6_tells) := goodIn_app (goodIn_of _ (by decide +kernel)) ggX6_clock_X6_tells
set_option maxRecDepth 20000 in
theorem ggX6_clock_X6_fails : GoodIn wsX6_clock wsX6_fails := goodIn_r _ [20, 16, 21, 22, 23, 24, 25, 26, 27, 28, 29, 30, 31, 32, 33, 34, 35, 36, 37, 38, 39, 40, 41, 42, 43, 44, 45, 46, 47, 48, 49, 50, 51, 52, 53, 54, 55] (by decide +kernel) (by decide +kernel)
set_option maxRecDepth 20000 in
theorem gX6_clock_X6_fails : GoodIn wsX6_clock (wsV RX6 122 RX6 yX6_fails wsX6_fails) := goodIn_app (goodIn_of _ (by decide +kernel)) ggX6_clock_X6_fails
theorem dX6_clock_0 : decode cX6_clock 0 = .ok (.aload_n 0, 1) := by decide +kernel
theorem dX6_clock_1 : decode cX6_clock 1 = .ok (.iload_n 1, 1) := by decide +kernel
theorem dX6_clock_2 : decode cX6_clock 2 = .ok (.invokevirtual 129, 3) := by decide +kernel
theorem dX6_clock_5 : decode cX6_clock 5 = .ok (.ifCond .eq 21, 3) := by decide +kernel
theorem dX6_clock_8 : decode cX6_clock 8 = .ok (.aload_n 0, 1) := by decide +kernel
theorem dX6_clock_9 : decode cX6_clock 9 = .ok (.aload_n 0, 1) := by decide +kernel
theorem dX6_clock_10 : decode cX6_clock 10 = .ok (.getfield 7, 3) := by decide +kernel
theorem dX6_clock_13 : decode cX6_clock 13 = .ok (.aload_n 0, 1) := by decide +kernel
theorem dX6_clock_14 : decode cX6_clock 14 = .ok (.getfield 40, 3) := by decide +kernel
theorem dX6_clock_17 : decode cX6_clock 17 = .ok (.iload_n 1, 1) := by decide +kernel
theorem dX6_clock_18 : decode cX6_clock 18 = .ok (.iaload, 1) := by decide +kernel
theorem dX6_clock_19 : decode cX6_clock 19 = .ok (.iadd, 1) := by decide +kernel
theorem dX6_clock_20 : decode cX6_clock 20 = .ok (.invokevirtual 126, 3) := by decide +kernel
theorem dX6_clock_23 : decode cX6_clock 23 = .ok (.goto 8, 3) := by decide +kernel
theorem dX6_clock_26 : decode cX6_clock 26 = .ok (.aload_n 0, 1) := by decide +kernel
theorem dX6_clock_27 : decode cX6_clock 27 = .ok (.iconst 1, 1) := by decide +kernel
theorem dX6_clock_28 : decode cX6_clock 28 = .ok (.invokevirtual 122, 3) := by decide +kernel
theorem dX6_clock_31 : decode cX6_clock 31 = .ok (.ireturn, 1) := by decide +kernel
set_option maxRecDepth 20000 in
theorem ggX6_isSign_X6_in : GoodIn wsX6_isSign wsX6_in := goodIn_r _ [6] (by decide +kernel) (by decide +kernel)
set_option maxRecDepth 20000 in
theorem gX6_isSign_X6_in : GoodIn wsX6_isSign (va_wsS RX6 118 yX6_in wsX6_in) := goodIn_app (goodIn_of _ (by decide +kernel)) ggX6_isSign_X6_in
theorem dX6_isSign_0 : decode cX6_isSign 0 = .ok (.iload_n 0, 1) := by decide +kernel
theorem dX6_isSign_1 : decode cX6_isSign 1 = .ok (.bipush 97, 2) := by decide +kernel
theorem dX6_isSign_3 : decode cX6_isSign 3 = .ok (.bipush 122, 2) := by decide +kernel
theorem dX6_isSign_5 : decode cX6_isSign 5 = .ok (.invokestatic 118, 3) := by decide +kernel
theorem dX6_isSign_8 : decode cX6_isSign 8 = .ok (.ifCond .ne 20, 3) := by decide +kernel
theorem dX6_isSign_11 : decode cX6_isSign 11 = .ok (.iload_n 0, 1) := by decide +kernel
theorem dX6_isSign_12 : decode cX6_isSign 12 = .ok (.bipush 32, 2) := by decide +kernel
theorem dX6_isSign_14 : decode cX6_isSign 14 = .ok (.if_icmp .eq 14, 3) := by decide +kernel
theorem dX6_isSign_17 : decode cX6_isSign 17 = .ok (.iload_n 0, 1) := by decide +kernel
theorem dX6_isSign_18 : decode cX6_isSign 18 = .ok (.ldc 135, 2) := by decide +kernel
theorem dX6_isSign_20 : decode cX6_isSign 20 = .ok (.ldc 136, 2) := by decide +kernel
theorem dX6_isSign_22 : decode cX6_isSign 22 = .ok (.invokestatic 118, 3) := by decide +kernel
theorem dX6_isSign_25 : decode cX6_isSign 25 = .ok (.ifCond .eq 7, 3) := by decide +kernel
theorem dX6_isSign_28 : decode cX6_isSign 28 = .ok (.iconst 1, 1) := by decide +kernel
theorem dX6_isSign_29 : decode cX6_isSign 29 = .ok (.goto 4, 3) := by decide +kernel
theorem dX6_isSign_32 : decode cX6_isSign 32 = .ok (.iconst 0, 1) := by decide +kernel
theorem dX6_isSign_33 : decode cX6_isSign 33 = .ok (.ireturn, 1) := by decide +kernel
theorem dX6_charsOf_0 : decode cX6_charsOf 0 = .ok (.iload_n 0, 1) := by decide +kernel
theorem dX6_charsOf_1 : decode cX6_charsOf 1 = .ok (.ldc 137, 2) := by decide +kernel
theorem dX6_charsOf_3 : decode cX6_charsOf 3 = .ok (.if_icmp .le 7, 3) := by decide +kernel
theorem dX6_charsOf_6 : decode cX6_charsOf 6 = .ok (.iconst 2, 1) := by decide +kernel
theorem dX6_charsOf_7 : decode cX6_charsOf 7 = .ok (.goto 4, 3) := by decide +kernel
theorem dX6_charsOf_10 : decode cX6_charsOf 10 = .ok (.iconst 1, 1) := by decide +kernel
theorem dX6_charsOf_11 : decode cX6_charsOf 11 = .ok (.ireturn, 1) := by decide +kernel
set_option maxRecDepth 20000 in
theorem ggX6_chars_X6_charsOf : GoodIn wsX6_chars wsX6_charsOf := goodIn_r _ [6, 7] (by decide +kernel) (by decide +kernel)
set_option maxRecDepth 20000 in
theorem gX6_chars_X6_charsOf : GoodIn wsX6_chars (va_wsS RX6 138 yX6_charsOf wsX6_charsOf) := goodIn_app (goodIn_of _ (by decide +kernel)) ggX6_chars_X6_charsOf
theorem dX6_chars_0 : decode cX6_chars 0 = .ok (.iconst 0, 1) := by decide +kernel
theorem dX6_chars_1 : decode cX6_chars 1 = .ok (.istore_n 1, 1) := by decide +kernel
theorem dX6_chars_2 : decode cX6_chars 2 = .ok (.iconst 0, 1) := by decide +kernel
theorem dX6_chars_3 : decode cX6_chars 3 = .ok (.istore_n 2, 1) := by decide +kernel
theorem dX6_chars_4 : decode cX6_chars 4 = .ok (.iload_n 2, 1) := by decide +kernel
theorem dX6_chars_5 : decode cX6_chars 5 = .ok (.aload_n 0, 1) := by decide +kernel
theorem dX6_chars_6 : decode cX6_chars 6 = .ok (.getfield 25, 3) := by decide +kernel
theorem dX6_chars_9 : decode cX6_chars 9 = .ok (.if_icmp .ge 21, 3) := by decide +kernel
theorem dX6_chars_12 : decode cX6_chars 12 = .ok (.iload_n 1, 1) := by decide +kernel
theorem dX6_chars_13 : decode cX6_chars 13 = .ok (.aload_n 0, 1) := by decide +kernel
theorem dX6_chars_14 : decode cX6_chars 14 = .ok (.getfield 63, 3) := by decide +kernel
theorem dX6_chars_17 : decode cX6_chars 17 = .ok (.iload_n 2, 1) := by decide +kernel
theorem dX6_chars_18 : decode cX6_chars 18 = .ok (.iaload, 1) := by decide +kernel
theorem dX6_chars_19 : decode cX6_chars 19 = .ok (.invokestatic 138, 3) := by decide +kernel
theorem dX6_chars_22 : decode cX6_chars 22 = .ok (.iadd, 1) := by decide +kernel
theorem dX6_chars_23 : decode cX6_chars 23 = .ok (.istore_n 1, 1) := by decide +kernel
theorem dX6_chars_24 : decode cX6_chars 24 = .ok (.iinc 2 1, 3) := by decide +kernel
theorem dX6_chars_27 : decode cX6_chars 27 = .ok (.goto (-23), 3) := by decide +kernel
theorem dX6_chars_30 : decode cX6_chars 30 = .ok (.iload_n 1, 1) := by decide +kernel
theorem dX6_chars_31 : decode cX6_chars 31 = .ok (.ireturn, 1) := by decide +kernel
set_option maxRecDepth 20000 in
theorem ggX6_type_X6_isSign : GoodIn wsX6_type wsX6_isSign := goodIn_r _ [6, 7, 8, 9, 10, 5, 11] (by decide +kernel) (by decide +kernel)
set_option maxRecDepth 20000 in
theorem gX6_type_X6_isSign : GoodIn wsX6_type (va_wsS RX6 141 yX6_isSign wsX6_isSign) := goodIn_app (goodIn_of _ (by decide +kernel)) ggX6_type_X6_isSign
set_option maxRecDepth 20000 in
theorem ggX6_type_X6_fails : GoodIn wsX6_type wsX6_fails := goodIn_r _ [15, 16, 21, 22, 23, 24, 25, 26, 27, 28, 29, 30, 31, 32, 33, 34, 35, 36, 37, 38, 39, 40, 41, 42, 43, 44, 45, 46, 47, 48, 49, 50, 51, 52, 53, 54, 55] (by decide +kernel) (by decide +kernel)
set_option maxRecDepth 20000 in
theorem gX6_type_X6_fails : GoodIn wsX6_type (wsV RX6 122 RX6 yX6_fails wsX6_fails) := goodIn_app (goodIn_of _ (by decide +kernel)) ggX6_type_X6_fails
set_option maxRecDepth 20000 in
theorem ggX6_type_X6_tells : GoodIn wsX6_type wsX6_tells := goodIn_r _ [20, 16, 21, 22, 23, 24, 25, 26, 27, 28, 29, 30, 31, 32, 33, 34, 35, 36, 37, 38, 39, 40, 41, 42, 43, 44, 45, 46, 47, 48, 49, 50, 51, 52, 53, 54, 55] (by decide +kernel) (by decide +kernel)
set_option maxRecDepth 20000 in
theorem gX6_type_X6_tells : GoodIn wsX6_type (wsV RX6 126 RX6 yX6_tells wsX6_tells) := goodIn_app (goodIn_of _ (by decide +kernel)) ggX6_type_X6_tells
theorem dX6_type_0 : decode cX6_type 0 = .ok (.iload_n 1, 1) := by decide +kernel
theorem dX6_type_1 : decode cX6_type 1 = .ok (.invokestatic 141, 3) := by decide +kernel
theorem dX6_type_4 : decode cX6_type 4 = .ok (.ifCond .ne 9, 3) := by decide +kernel
theorem dX6_type_7 : decode cX6_type 7 = .ok (.aload_n 0, 1) := by decide +kernel
theorem dX6_type_8 : decode cX6_type 8 = .ok (.iconst 1, 1) := by decide +kernel
theorem dX6_type_9 : decode cX6_type 9 = .ok (.invokevirtual 122, 3) := by decide +kernel
theorem dX6_type_12 : decode cX6_type 12 = .ok (.ireturn, 1) := by decide +kernel
theorem dX6_type_13 : decode cX6_type 13 = .ok (.aload_n 0, 1) := by decide +kernel
theorem dX6_type_14 : decode cX6_type 14 = .ok (.getfield 25, 3) := by decide +kernel
theorem dX6_type_17 : decode cX6_type 17 = .ok (.bipush 40, 2) := by decide +kernel
theorem dX6_type_19 : decode cX6_type 19 = .ok (.if_icmp .ne 9, 3) := by decide +kernel
theorem dX6_type_22 : decode cX6_type 22 = .ok (.aload_n 0, 1) := by decide +kernel
theorem dX6_type_23 : decode cX6_type 23 = .ok (.iconst 2, 1) := by decide +kernel
theorem dX6_type_24 : decode cX6_type 24 = .ok (.invokevirtual 122, 3) := by decide +kernel
theorem dX6_type_27 : decode cX6_type 27 = .ok (.ireturn, 1) := by decide +kernel
theorem dX6_type_28 : decode cX6_type 28 = .ok (.aload_n 0, 1) := by decide +kernel
theorem dX6_type_29 : decode cX6_type 29 = .ok (.getfield 63, 3) := by decide +kernel
theorem dX6_type_32 : decode cX6_type 32 = .ok (.aload_n 0, 1) := by decide +kernel
theorem dX6_type_33 : decode cX6_type 33 = .ok (.getfield 25, 3) := by decide +kernel
theorem dX6_type_36 : decode cX6_type 36 = .ok (.iload_n 1, 1) := by decide +kernel
theorem dX6_type_37 : decode cX6_type 37 = .ok (.iastore, 1) := by decide +kernel
theorem dX6_type_38 : decode cX6_type 38 = .ok (.aload_n 0, 1) := by decide +kernel
theorem dX6_type_39 : decode cX6_type 39 = .ok (.dup, 1) := by decide +kernel
theorem dX6_type_40 : decode cX6_type 40 = .ok (.getfield 25, 3) := by decide +kernel
theorem dX6_type_43 : decode cX6_type 43 = .ok (.iconst 1, 1) := by decide +kernel
theorem dX6_type_44 : decode cX6_type 44 = .ok (.iadd, 1) := by decide +kernel
theorem dX6_type_45 : decode cX6_type 45 = .ok (.putfield 25, 3) := by decide +kernel
theorem dX6_type_48 : decode cX6_type 48 = .ok (.aload_n 0, 1) := by decide +kernel
theorem dX6_type_49 : decode cX6_type 49 = .ok (.aload_n 0, 1) := by decide +kernel
theorem dX6_type_50 : decode cX6_type 50 = .ok (.getfield 25, 3) := by decide +kernel
theorem dX6_type_53 : decode cX6_type 53 = .ok (.invokevirtual 126, 3) := by decide +kernel
theorem dX6_type_56 : decode cX6_type 56 = .ok (.ireturn, 1) := by decide +kernel
set_option maxRecDepth 20000 in
theorem ggX6_insert_X6_in : GoodIn wsX6_insert wsX6_in := goodIn_r _ [6] (by decide +kernel) (by decide +kernel)
set_option maxRecDepth 20000 in
theorem gX6_insert_X6_in : GoodIn wsX6_insert (va_wsS RX6 118 yX6_in wsX6_in) := goodIn_app (goodIn_of _ (by decide +kernel)) ggX6_insert_X6_in
set_option maxRecDepth 20000 in
theorem ggX6_insert_X6_fails : GoodIn wsX6_insert wsX6_fails := goodIn_r _ [10, 11, 29, 30, 31, 32, 33, 34, 35, 36, 37, 38, 39, 40, 41, 42, 43, 44, 45, 46, 47, 48, 49, 50, 51, 52, 53, 54, 55, 56, 57, 58, 59, 60, 61, 62, 63] (by decide +kernel) (by decide +kernel)
set_option maxRecDepth 20000 in
theorem gX6_insert_X6_fails : GoodIn wsX6_insert (wsV RX6 122 RX6 yX6_fails wsX6_fails) := goodIn_app (goodIn_of _ (by decide +kernel)) ggX6_insert_X6_fails
set_option maxRecDepth 20000 in
theorem ggX6_insert_X6_isSign : GoodIn wsX6_insert wsX6_isSign := goodIn_r _ [14, 15, 16, 3, 4, 5, 6] (by decide +kernel) (by decide +kernel)
set_option maxRecDepth 20000 in
theorem gX6_insert_X6_isSign : GoodIn wsX6_insert (va_wsS RX6 141 yX6_isSign wsX6_isSign) := goodIn_app (goodIn_of _ (by decide +kernel)) ggX6_insert_X6_isSign
set_option maxRecDepth 20000 in
theorem ggX6_insert_X6_chars : GoodIn wsX6_insert wsX6_chars := goodIn_ca (goodIn_r _ [20, 1, 2, 21, 22, 5, 23, 24, 29, 30, 31, 32, 33, 34, 35, 36, 37, 38, 39, 40, 41, 42, 43, 44, 45, 46, 47, 48, 49, 50, 51, 52, 53, 54, 55, 56, 57, 58, 59, 60, 61, 62, 63] (by decide +kernel) (by decide +kernel)) (goodIn_sub (fun _ h => List.mem_cons_of_mem _ (List.mem_append_right _ h)) (by decide +kernel))
set_option maxRecDepth 20000 in
theorem gX6_insert_X6_chars : GoodIn wsX6_insert (wsV RX6 144 RX6 yX6_chars wsX6_chars) := goodIn_app (goodIn_of _ (by decide +kernel)) ggX6_insert_X6_chars
set_option maxRecDepth 20000 in
theorem ggX6_insert_X6_tells : GoodIn wsX6_insert wsX6_tells := goodIn_r _ [28, 11, 29, 30, 31, 32, 33, 34, 35, 36, 37, 38, 39, 40, 41, 42, 43, 44, 45, 46, 47, 48, 49, 50, 51, 52, 53, 54, 55, 56, 57, 58, 59, 60, 61, 62, 63] (by decide +kernel) (by decide +kernel)
set_option maxRecDepth 20000 in
theorem gX6_insert_X6_tells : GoodIn wsX6_insert (wsV RX6 126 RX6 yX6_tells wsX6_tells) := goodIn_app (goodIn_of _ (by decide +kernel)) ggX6_insert_X6_tells
theorem dX6_insert_0 : decode cX6_insert 0 = .ok (.iload_n 1, 1) := by decide +kernel
theorem dX6_insert_1 : decode cX6_insert 1 = .ok (.iconst 0, 1) := by decide +kernel
theorem dX6_insert_2 : decode cX6_insert 2 = .ok (.aload_n 0, 1) := by decide +kernel
theorem dX6_insert_3 : decode cX6_insert 3 = .ok (.getfield 25, 3) := by decide +kernel
theorem dX6_insert_6 : decode cX6_insert 6 = .ok (.invokestatic 118, 3) := by decide +kernel
theorem dX6_insert_9 : decode cX6_insert 9 = .ok (.ifCond .ne 9, 3) := by decide +kernel
theorem dX6_insert_12 : decode cX6_insert 12 = .ok (.aload_n 0, 1) := by decide +kernel
theorem dX6_insert_13 : decode cX6_insert 13 = .ok (.iconst 1, 1) := by decide +kernel
theorem dX6_insert_14 : decode cX6_insert 14 = .ok (.invokevirtual 122, 3) := by decide +kernel
theorem dX6_insert_17 : decode cX6_insert 17 = .ok (.ireturn, 1) := by decide +kernel
theorem dX6_insert_18 : decode cX6_insert 18 = .ok (.iload_n 2, 1) := by decide +kernel
theorem dX6_insert_19 : decode cX6_insert 19 = .ok (.invokestatic 141, 3) := by decide +kernel
theorem dX6_insert_22 : decode cX6_insert 22 = .ok (.ifCond .ne 9, 3) := by decide +kernel
theorem dX6_insert_25 : decode cX6_insert 25 = .ok (.aload_n 0, 1) := by decide +kernel
theorem dX6_insert_26 : decode cX6_insert 26 = .ok (.iconst 2, 1) := by decide +kernel
theorem dX6_insert_27 : decode cX6_insert 27 = .ok (.invokevirtual 122, 3) := by decide +kernel
theorem dX6_insert_30 : decode cX6_insert 30 = .ok (.ireturn, 1) := by decide +kernel
theorem dX6_insert_31 : decode cX6_insert 31 = .ok (.aload_n 0, 1) := by decide +kernel
theorem dX6_insert_32 : decode cX6_insert 32 = .ok (.getfield 25, 3) := by decide +kernel
theorem dX6_insert_35 : decode cX6_insert 35 = .ok (.bipush 40, 2) := by decide +kernel
theorem dX6_insert_37 : decode cX6_insert 37 = .ok (.if_icmp .ne 9, 3) := by decide +kernel
theorem dX6_insert_40 : decode cX6_insert 40 = .ok (.aload_n 0, 1) := by decide +kernel
theorem dX6_insert_41 : decode cX6_insert 41 = .ok (.iconst 3, 1) := by decide +kernel
theorem dX6_insert_42 : decode cX6_insert 42 = .ok (.invokevirtual 122, 3) := by decide +kernel
theorem dX6_insert_45 : decode cX6_insert 45 = .ok (.ireturn, 1) := by decide +kernel
theorem dX6_insert_46 : decode cX6_insert 46 = .ok (.aload_n 0, 1) := by decide +kernel
theorem dX6_insert_47 : decode cX6_insert 47 = .ok (.getfield 25, 3) := by decide +kernel
theorem dX6_insert_50 : decode cX6_insert 50 = .ok (.istore_n 3, 1) := by decide +kernel
theorem dX6_insert_51 : decode cX6_insert 51 = .ok (.iload_n 3, 1) := by decide +kernel
theorem dX6_insert_52 : decode cX6_insert 52 = .ok (.iload_n 1, 1) := by decide +kernel
theorem dX6_insert_53 : decode cX6_insert 53 = .ok (.if_icmp .le 23, 3) := by decide +kernel
theorem dX6_insert_56 : decode cX6_insert 56 = .ok (.aload_n 0, 1) := by decide +kernel
theorem dX6_insert_57 : decode cX6_insert 57 = .ok (.getfield 63, 3) := by decide +kernel
theorem dX6_insert_60 : decode cX6_insert 60 = .ok (.iload_n 3, 1) := by decide +kernel
theorem dX6_insert_61 : decode cX6_insert 61 = .ok (.aload_n 0, 1) := by decide +kernel
theorem dX6_insert_62 : decode cX6_insert 62 = .ok (.getfield 63, 3) := by decide +kernel
theorem dX6_insert_65 : decode cX6_insert 65 = .ok (.iload_n 3, 1) := by decide +kernel
theorem dX6_insert_66 : decode cX6_insert 66 = .ok (.iconst 1, 1) := by decide +kernel
theorem dX6_insert_67 : decode cX6_insert 67 = .ok (.isub, 1) := by decide +kernel
theorem dX6_insert_68 : decode cX6_insert 68 = .ok (.iaload, 1) := by decide +kernel
theorem dX6_insert_69 : decode cX6_insert 69 = .ok (.iastore, 1) := by decide +kernel
theorem dX6_insert_70 : decode cX6_insert 70 = .ok (.iinc 3 (-1), 3) := by decide +kernel
theorem dX6_insert_73 : decode cX6_insert 73 = .ok (.goto (-22), 3) := by decide +kernel
theorem dX6_insert_76 : decode cX6_insert 76 = .ok (.aload_n 0, 1) := by decide +kernel
theorem dX6_insert_77 : decode cX6_insert 77 = .ok (.getfield 63, 3) := by decide +kernel
theorem dX6_insert_80 : decode cX6_insert 80 = .ok (.iload_n 1, 1) := by decide +kernel
theorem dX6_insert_81 : decode cX6_insert 81 = .ok (.iload_n 2, 1) := by decide +kernel
theorem dX6_insert_82 : decode cX6_insert 82 = .ok (.iastore, 1) := by decide +kernel
theorem dX6_insert_83 : decode cX6_insert 83 = .ok (.aload_n 0, 1) := by decide +kernel
theorem dX6_insert_84 : decode cX6_insert 84 = .ok (.dup, 1) := by decide +kernel
theorem dX6_insert_85 : decode cX6_insert 85 = .ok (.getfield 25, 3) := by decide +kernel
theorem dX6_insert_88 : decode cX6_insert 88 = .ok (.iconst 1, 1) := by decide +kernel
theorem dX6_insert_89 : decode cX6_insert 89 = .ok (.iadd, 1) := by decide +kernel
theorem dX6_insert_90 : decode cX6_insert 90 = .ok (.putfield 25, 3) := by decide +kernel
theorem dX6_insert_93 : decode cX6_insert 93 = .ok (.aload_n 0, 1) := by decide +kernel
theorem dX6_insert_94 : decode cX6_insert 94 = .ok (.aload_n 0, 1) := by decide +kernel
theorem dX6_insert_95 : decode cX6_insert 95 = .ok (.invokevirtual 144, 3) := by decide +kernel
theorem dX6_insert_98 : decode cX6_insert 98 = .ok (.invokevirtual 126, 3) := by decide +kernel
theorem dX6_insert_101 : decode cX6_insert 101 = .ok (.ireturn, 1) := by decide +kernel
set_option maxRecDepth 20000 in
theorem ggX6_reverse_X6_tells : GoodIn wsX6_reverse wsX6_tells := goodIn_r _ [7, 8, 9, 10, 11, 12, 13, 14, 15, 16, 17, 18, 19, 20, 21, 22, 23, 24, 25, 26, 27, 28, 29, 30, 31, 32, 33, 34, 35, 36, 37, 38, 39, 40, 41, 42, 43] (by decide +kernel) (by decide +kernel)
set_option maxRecDepth 20000 in
theorem gX6_reverse_X6_tells : GoodIn wsX6_reverse (wsV RX6 126 RX6 yX6_tells wsX6_tells) := goodIn_app (goodIn_of _ (by decide +kernel)) ggX6_reverse_X6_tells
theorem dX6_reverse_0 : decode cX6_reverse 0 = .ok (.iconst 0, 1) := by decide +kernel
theorem dX6_reverse_1 : decode cX6_reverse 1 = .ok (.istore_n 1, 1) := by decide +kernel
theorem dX6_reverse_2 : decode cX6_reverse 2 = .ok (.iload_n 1, 1) := by decide +kernel
theorem dX6_reverse_3 : decode cX6_reverse 3 = .ok (.aload_n 0, 1) := by decide +kernel
theorem dX6_reverse_4 : decode cX6_reverse 4 = .ok (.getfield 25, 3) := by decide +kernel
theorem dX6_reverse_7 : decode cX6_reverse 7 = .ok (.iconst 2, 1) := by decide +kernel
theorem dX6_reverse_8 : decode cX6_reverse 8 = .ok (.idiv, 1) := by decide +kernel
theorem dX6_reverse_9 : decode cX6_reverse 9 = .ok (.if_icmp .ge 49, 3) := by decide +kernel
theorem dX6_reverse_12 : decode cX6_reverse 12 = .ok (.aload_n 0, 1) := by decide +kernel
theorem dX6_reverse_13 : decode cX6_reverse 13 = .ok (.getfield 63, 3) := by decide +kernel
theorem dX6_reverse_16 : decode cX6_reverse 16 = .ok (.iload_n 1, 1) := by decide +kernel
theorem dX6_reverse_17 : decode cX6_reverse 17 = .ok (.iaload, 1) := by decide +kernel
theorem dX6_reverse_18 : decode cX6_reverse 18 = .ok (.istore_n 2, 1) := by decide +kernel
theorem dX6_reverse_19 : decode cX6_reverse 19 = .ok (.aload_n 0, 1) := by decide +kernel
theorem dX6_reverse_20 : decode cX6_reverse 20 = .ok (.getfield 63, 3) := by decide +kernel
theorem dX6_reverse_23 : decode cX6_reverse 23 = .ok (.iload_n 1, 1) := by decide +kernel
theorem dX6_reverse_24 : decode cX6_reverse 24 = .ok (.aload_n 0, 1) := by decide +kernel
theorem dX6_reverse_25 : decode cX6_reverse 25 = .ok (.getfield 63, 3) := by decide +kernel
theorem dX6_reverse_28 : decode cX6_reverse 28 = .ok (.aload_n 0, 1) := by decide +kernel
theorem dX6_reverse_29 : decode cX6_reverse 29 = .ok (.getfield 25, 3) := by decide +kernel
theorem dX6_reverse_32 : decode cX6_reverse 32 = .ok (.iconst 1, 1) := by decide +kernel
theorem dX6_reverse_33 : decode cX6_reverse 33 = .ok (.isub, 1) := by decide +kernel
theorem dX6_reverse_34 : decode cX6_reverse 34 = .ok (.iload_n 1, 1) := by decide +kernel
theorem dX6_reverse_35 : decode cX6_reverse 35 = .ok (.isub, 1) := by decide +kernel
theorem dX6_reverse_36 : decode cX6_reverse 36 = .ok (.iaload, 1) := by decide +kernel
theorem dX6_reverse_37 : decode cX6_reverse 37 = .ok (.iastore, 1) := by decide +kernel
theorem dX6_reverse_38 : decode cX6_reverse 38 = .ok (.aload_n 0, 1) := by decide +kernel
theorem dX6_reverse_39 : decode cX6_reverse 39 = .ok (.getfield 63, 3) := by decide +kernel
theorem dX6_reverse_42 : decode cX6_reverse 42 = .ok (.aload_n 0, 1) := by decide +kernel
theorem dX6_reverse_43 : decode cX6_reverse 43 = .ok (.getfield 25, 3) := by decide +kernel
theorem dX6_reverse_46 : decode cX6_reverse 46 = .ok (.iconst 1, 1) := by decide +kernel
theorem dX6_reverse_47 : decode cX6_reverse 47 = .ok (.isub, 1) := by decide +kernel
theorem dX6_reverse_48 : decode cX6_reverse 48 = .ok (.iload_n 1, 1) := by decide +kernel
theorem dX6_reverse_49 : decode cX6_reverse 49 = .ok (.isub, 1) := by decide +kernel
theorem dX6_reverse_50 : decode cX6_reverse 50 = .ok (.iload_n 2, 1) := by decide +kernel
theorem dX6_reverse_51 : decode cX6_reverse 51 = .ok (.iastore, 1) := by decide +kernel
theorem dX6_reverse_52 : decode cX6_reverse 52 = .ok (.iinc 1 1, 3) := by decide +kernel
theorem dX6_reverse_55 : decode cX6_reverse 55 = .ok (.goto (-53), 3) := by decide +kernel
theorem dX6_reverse_58 : decode cX6_reverse 58 = .ok (.aload_n 0, 1) := by decide +kernel
theorem dX6_reverse_59 : decode cX6_reverse 59 = .ok (.aload_n 0, 1) := by decide +kernel
theorem dX6_reverse_60 : decode cX6_reverse 60 = .ok (.getfield 25, 3) := by decide +kernel
theorem dX6_reverse_63 : decode cX6_reverse 63 = .ok (.ifCond .ne 7, 3) := by decide +kernel
theorem dX6_reverse_66 : decode cX6_reverse 66 = .ok (.iconst 0, 1) := by decide +kernel
theorem dX6_reverse_67 : decode cX6_reverse 67 = .ok (.goto 9, 3) := by decide +kernel
theorem dX6_reverse_70 : decode cX6_reverse 70 = .ok (.aload_n 0, 1) := by decide +kernel
theorem dX6_reverse_71 : decode cX6_reverse 71 = .ok (.getfield 63, 3) := by decide +kernel
theorem dX6_reverse_74 : decode cX6_reverse 74 = .ok (.iconst 0, 1) := by decide +kernel
theorem dX6_reverse_75 : decode cX6_reverse 75 = .ok (.iaload, 1) := by decide +kernel
theorem dX6_reverse_76 : decode cX6_reverse 76 = .ok (.invokevirtual 126, 3) := by decide +kernel
theorem dX6_reverse_79 : decode cX6_reverse 79 = .ok (.ireturn, 1) := by decide +kernel
set_option maxRecDepth 20000 in
theorem ggX6_wipe_X6_tells : GoodIn wsX6_wipe wsX6_tells := goodIn_r _ [6, 7, 8, 9, 10, 11, 12, 13, 14, 15, 16, 17, 18, 19, 20, 21, 22, 23, 24, 25, 26, 27, 28, 29, 30, 31, 32, 33, 34, 35, 36, 37, 38, 39, 40, 41, 42] (by decide +kernel) (by decide +kernel)
set_option maxRecDepth 20000 in
theorem gX6_wipe_X6_tells : GoodIn wsX6_wipe (wsV RX6 126 RX6 yX6_tells wsX6_tells) := goodIn_app (goodIn_of _ (by decide +kernel)) ggX6_wipe_X6_tells
theorem dX6_wipe_0 : decode cX6_wipe 0 = .ok (.aload_n 0, 1) := by decide +kernel
theorem dX6_wipe_1 : decode cX6_wipe 1 = .ok (.getfield 25, 3) := by decide +kernel
theorem dX6_wipe_4 : decode cX6_wipe 4 = .ok (.istore_n 1, 1) := by decide +kernel
theorem dX6_wipe_5 : decode cX6_wipe 5 = .ok (.aload_n 0, 1) := by decide +kernel
theorem dX6_wipe_6 : decode cX6_wipe 6 = .ok (.iconst 0, 1) := by decide +kernel
theorem dX6_wipe_7 : decode cX6_wipe 7 = .ok (.putfield 25, 3) := by decide +kernel
theorem dX6_wipe_10 : decode cX6_wipe 10 = .ok (.aload_n 0, 1) := by decide +kernel
theorem dX6_wipe_11 : decode cX6_wipe 11 = .ok (.iload_n 1, 1) := by decide +kernel
theorem dX6_wipe_12 : decode cX6_wipe 12 = .ok (.invokevirtual 126, 3) := by decide +kernel
theorem dX6_wipe_15 : decode cX6_wipe 15 = .ok (.ireturn, 1) := by decide +kernel
theorem dX6_charOf_0 : decode cX6_charOf 0 = .ok (.iload_n 0, 1) := by decide +kernel
theorem dX6_charOf_1 : decode cX6_charOf 1 = .ok (.ldc 137, 2) := by decide +kernel
theorem dX6_charOf_3 : decode cX6_charOf 3 = .ok (.if_icmp .gt 5, 3) := by decide +kernel
theorem dX6_charOf_6 : decode cX6_charOf 6 = .ok (.iload_n 0, 1) := by decide +kernel
theorem dX6_charOf_7 : decode cX6_charOf 7 = .ok (.ireturn, 1) := by decide +kernel
theorem dX6_charOf_8 : decode cX6_charOf 8 = .ok (.iload_n 0, 1) := by decide +kernel
theorem dX6_charOf_9 : decode cX6_charOf 9 = .ok (.ldc 148, 2) := by decide +kernel
theorem dX6_charOf_11 : decode cX6_charOf 11 = .ok (.isub, 1) := by decide +kernel
theorem dX6_charOf_12 : decode cX6_charOf 12 = .ok (.istore_n 2, 1) := by decide +kernel
theorem dX6_charOf_13 : decode cX6_charOf 13 = .ok (.iload_n 1, 1) := by decide +kernel
theorem dX6_charOf_14 : decode cX6_charOf 14 = .ok (.ifCond .ne 14, 3) := by decide +kernel
theorem dX6_charOf_17 : decode cX6_charOf 17 = .ok (.ldc 149, 2) := by decide +kernel
theorem dX6_charOf_19 : decode cX6_charOf 19 = .ok (.iload_n 2, 1) := by decide +kernel
theorem dX6_charOf_20 : decode cX6_charOf 20 = .ok (.sipush 1024, 3) := by decide +kernel
theorem dX6_charOf_23 : decode cX6_charOf 23 = .ok (.idiv, 1) := by decide +kernel
theorem dX6_charOf_24 : decode cX6_charOf 24 = .ok (.iadd, 1) := by decide +kernel
theorem dX6_charOf_25 : decode cX6_charOf 25 = .ok (.goto 11, 3) := by decide +kernel
theorem dX6_charOf_28 : decode cX6_charOf 28 = .ok (.ldc 150, 2) := by decide +kernel
theorem dX6_charOf_30 : decode cX6_charOf 30 = .ok (.iload_n 2, 1) := by decide +kernel
theorem dX6_charOf_31 : decode cX6_charOf 31 = .ok (.sipush 1024, 3) := by decide +kernel
theorem dX6_charOf_34 : decode cX6_charOf 34 = .ok (.irem, 1) := by decide +kernel
theorem dX6_charOf_35 : decode cX6_charOf 35 = .ok (.iadd, 1) := by decide +kernel
theorem dX6_charOf_36 : decode cX6_charOf 36 = .ok (.ireturn, 1) := by decide +kernel
set_option maxRecDepth 20000 in
theorem ggX6_charAt_X6_charsOf : GoodIn wsX6_charAt wsX6_charsOf := goodIn_r _ [7, 8] (by decide +kernel) (by decide +kernel)
set_option maxRecDepth 20000 in
theorem gX6_charAt_X6_charsOf : GoodIn wsX6_charAt (va_wsS RX6 138 yX6_charsOf wsX6_charsOf) := goodIn_app (goodIn_of _ (by decide +kernel)) ggX6_charAt_X6_charsOf
set_option maxRecDepth 20000 in
theorem ggX6_charAt_X6_charOf : GoodIn wsX6_charAt wsX6_charOf := goodIn_r _ [11, 8, 12, 13, 14] (by decide +kernel) (by decide +kernel)
set_option maxRecDepth 20000 in
theorem gX6_charAt_X6_charOf : GoodIn wsX6_charAt (va_wsS RX6 151 yX6_charOf wsX6_charOf) := goodIn_app (goodIn_of _ (by decide +kernel)) ggX6_charAt_X6_charOf
theorem dX6_charAt_0 : decode cX6_charAt 0 = .ok (.iload_n 1, 1) := by decide +kernel
theorem dX6_charAt_1 : decode cX6_charAt 1 = .ok (.istore_n 2, 1) := by decide +kernel
theorem dX6_charAt_2 : decode cX6_charAt 2 = .ok (.iconst 0, 1) := by decide +kernel
theorem dX6_charAt_3 : decode cX6_charAt 3 = .ok (.istore_n 3, 1) := by decide +kernel
theorem dX6_charAt_4 : decode cX6_charAt 4 = .ok (.iload_n 3, 1) := by decide +kernel
theorem dX6_charAt_5 : decode cX6_charAt 5 = .ok (.aload_n 0, 1) := by decide +kernel
theorem dX6_charAt_6 : decode cX6_charAt 6 = .ok (.getfield 25, 3) := by decide +kernel
theorem dX6_charAt_9 : decode cX6_charAt 9 = .ok (.if_icmp .ge 55, 3) := by decide +kernel
theorem dX6_charAt_12 : decode cX6_charAt 12 = .ok (.iload_n 2, 1) := by decide +kernel
theorem dX6_charAt_13 : decode cX6_charAt 13 = .ok (.ifCond .lt 51, 3) := by decide +kernel
theorem dX6_charAt_16 : decode cX6_charAt 16 = .ok (.iload_n 2, 1) := by decide +kernel
theorem dX6_charAt_17 : decode cX6_charAt 17 = .ok (.aload_n 0, 1) := by decide +kernel
theorem dX6_charAt_18 : decode cX6_charAt 18 = .ok (.getfield 63, 3) := by decide +kernel
theorem dX6_charAt_21 : decode cX6_charAt 21 = .ok (.iload_n 3, 1) := by decide +kernel
theorem dX6_charAt_22 : decode cX6_charAt 22 = .ok (.iaload, 1) := by decide +kernel
theorem dX6_charAt_23 : decode cX6_charAt 23 = .ok (.invokestatic 138, 3) := by decide +kernel
theorem dX6_charAt_26 : decode cX6_charAt 26 = .ok (.if_icmp .ge 20, 3) := by decide +kernel
theorem dX6_charAt_29 : decode cX6_charAt 29 = .ok (.aload_n 0, 1) := by decide +kernel
theorem dX6_charAt_30 : decode cX6_charAt 30 = .ok (.iconst 0, 1) := by decide +kernel
theorem dX6_charAt_31 : decode cX6_charAt 31 = .ok (.putfield 37, 3) := by decide +kernel
theorem dX6_charAt_34 : decode cX6_charAt 34 = .ok (.aload_n 0, 1) := by decide +kernel
theorem dX6_charAt_35 : decode cX6_charAt 35 = .ok (.getfield 63, 3) := by decide +kernel
theorem dX6_charAt_38 : decode cX6_charAt 38 = .ok (.iload_n 3, 1) := by decide +kernel
theorem dX6_charAt_39 : decode cX6_charAt 39 = .ok (.iaload, 1) := by decide +kernel
theorem dX6_charAt_40 : decode cX6_charAt 40 = .ok (.iload_n 2, 1) := by decide +kernel
theorem dX6_charAt_41 : decode cX6_charAt 41 = .ok (.invokestatic 151, 3) := by decide +kernel
theorem dX6_charAt_44 : decode cX6_charAt 44 = .ok (.i2c, 1) := by decide +kernel
theorem dX6_charAt_45 : decode cX6_charAt 45 = .ok (.ireturn, 1) := by decide +kernel
theorem dX6_charAt_46 : decode cX6_charAt 46 = .ok (.iload_n 2, 1) := by decide +kernel
theorem dX6_charAt_47 : decode cX6_charAt 47 = .ok (.aload_n 0, 1) := by decide +kernel
theorem dX6_charAt_48 : decode cX6_charAt 48 = .ok (.getfield 63, 3) := by decide +kernel
theorem dX6_charAt_51 : decode cX6_charAt 51 = .ok (.iload_n 3, 1) := by decide +kernel
theorem dX6_charAt_52 : decode cX6_charAt 52 = .ok (.iaload, 1) := by decide +kernel
theorem dX6_charAt_53 : decode cX6_charAt 53 = .ok (.invokestatic 138, 3) := by decide +kernel
theorem dX6_charAt_56 : decode cX6_charAt 56 = .ok (.isub, 1) := by decide +kernel
theorem dX6_charAt_57 : decode cX6_charAt 57 = .ok (.istore_n 2, 1) := by decide +kernel
theorem dX6_charAt_58 : decode cX6_charAt 58 = .ok (.iinc 3 1, 3) := by decide +kernel
theorem dX6_charAt_61 : decode cX6_charAt 61 = .ok (.goto (-57), 3) := by decide +kernel
theorem dX6_charAt_64 : decode cX6_charAt 64 = .ok (.aload_n 0, 1) := by decide +kernel
theorem dX6_charAt_65 : decode cX6_charAt 65 = .ok (.iconst 1, 1) := by decide +kernel
theorem dX6_charAt_66 : decode cX6_charAt 66 = .ok (.putfield 37, 3) := by decide +kernel
theorem dX6_charAt_69 : decode cX6_charAt 69 = .ok (.iconst 0, 1) := by decide +kernel
theorem dX6_charAt_70 : decode cX6_charAt 70 = .ok (.ireturn, 1) := by decide +kernel
set_option maxRecDepth 20000 in
theorem ggX6_isPupil_X6_in : GoodIn wsX6_isPupil wsX6_in := goodIn_r _ [5] (by decide +kernel) (by decide +kernel)
set_option maxRecDepth 20000 in
theorem gX6_isPupil_X6_in : GoodIn wsX6_isPupil (va_wsS RX6 118 yX6_in wsX6_in) := goodIn_app (goodIn_of _ (by decide +kernel)) ggX6_isPupil_X6_in
theorem dX6_isPupil_0 : decode cX6_isPupil 0 = .ok (.iload_n 1, 1) := by decide +kernel
theorem dX6_isPupil_1 : decode cX6_isPupil 1 = .ok (.iconst 0, 1) := by decide +kernel
theorem dX6_isPupil_2 : decode cX6_isPupil 2 = .ok (.aload_n 0, 1) := by decide +kernel
theorem dX6_isPupil_3 : decode cX6_isPupil 3 = .ok (.getfield 16, 3) := by decide +kernel
theorem dX6_isPupil_6 : decode cX6_isPupil 6 = .ok (.iconst 1, 1) := by decide +kernel
theorem dX6_isPupil_7 : decode cX6_isPupil 7 = .ok (.isub, 1) := by decide +kernel
theorem dX6_isPupil_8 : decode cX6_isPupil 8 = .ok (.invokestatic 118, 3) := by decide +kernel
theorem dX6_isPupil_11 : decode cX6_isPupil 11 = .ok (.ireturn, 1) := by decide +kernel
set_option maxRecDepth 20000 in
theorem ggX6_isTask_X6_in : GoodIn wsX6_isTask wsX6_in := goodIn_r _ [5] (by decide +kernel) (by decide +kernel)
set_option maxRecDepth 20000 in
theorem gX6_isTask_X6_in : GoodIn wsX6_isTask (va_wsS RX6 118 yX6_in wsX6_in) := goodIn_app (goodIn_of _ (by decide +kernel)) ggX6_isTask_X6_in
theorem dX6_isTask_0 : decode cX6_isTask 0 = .ok (.iload_n 1, 1) := by decide +kernel
theorem dX6_isTask_1 : decode cX6_isTask 1 = .ok (.iconst 0, 1) := by decide +kernel
theorem dX6_isTask_2 : decode cX6_isTask 2 = .ok (.aload_n 0, 1) := by decide +kernel
theorem dX6_isTask_3 : decode cX6_isTask 3 = .ok (.getfield 19, 3) := by decide +kernel
theorem dX6_isTask_6 : decode cX6_isTask 6 = .ok (.iconst 1, 1) := by decide +kernel
theorem dX6_isTask_7 : decode cX6_isTask 7 = .ok (.isub, 1) := by decide +kernel
theorem dX6_isTask_8 : decode cX6_isTask 8 = .ok (.invokestatic 118, 3) := by decide +kernel
theorem dX6_isTask_11 : decode cX6_isTask 11 = .ok (.ireturn, 1) := by decide +kernel
set_option maxRecDepth 20000 in
theorem ggX6_isVersion_X6_in : GoodIn wsX6_isVersion wsX6_in := goodIn_r _ [5] (by decide +kernel) (by decide +kernel)
set_option maxRecDepth 20000 in
theorem gX6_isVersion_X6_in : GoodIn wsX6_isVersion (va_wsS RX6 118 yX6_in wsX6_in) := goodIn_app (goodIn_of _ (by decide +kernel)) ggX6_isVersion_X6_in
theorem dX6_isVersion_0 : decode cX6_isVersion 0 = .ok (.iload_n 1, 1) := by decide +kernel
theorem dX6_isVersion_1 : decode cX6_isVersion 1 = .ok (.iconst 0, 1) := by decide +kernel
theorem dX6_isVersion_2 : decode cX6_isVersion 2 = .ok (.aload_n 0, 1) := by decide +kernel
theorem dX6_isVersion_3 : decode cX6_isVersion 3 = .ok (.getfield 22, 3) := by decide +kernel
theorem dX6_isVersion_6 : decode cX6_isVersion 6 = .ok (.iconst 1, 1) := by decide +kernel
theorem dX6_isVersion_7 : decode cX6_isVersion 7 = .ok (.isub, 1) := by decide +kernel
theorem dX6_isVersion_8 : decode cX6_isVersion 8 = .ok (.invokestatic 118, 3) := by decide +kernel
theorem dX6_isVersion_11 : decode cX6_isVersion 11 = .ok (.ireturn, 1) := by decide +kernel
theorem dX6_turned_0 : decode cX6_turned 0 = .ok (.iload_n 0, 1) := by decide +kernel
theorem dX6_turned_1 : decode cX6_turned 1 = .ok (.iconst 5, 1) := by decide +kernel
theorem dX6_turned_2 : decode cX6_turned 2 = .ok (.ishl, 1) := by decide +kernel
theorem dX6_turned_3 : decode cX6_turned 3 = .ok (.iload_n 0, 1) := by decide +kernel
theorem dX6_turned_4 : decode cX6_turned 4 = .ok (.bipush 27, 2) := by decide +kernel
theorem dX6_turned_6 : decode cX6_turned 6 = .ok (.iushr, 1) := by decide +kernel
theorem dX6_turned_7 : decode cX6_turned 7 = .ok (.ior, 1) := by decide +kernel
theorem dX6_turned_8 : decode cX6_turned 8 = .ok (.ireturn, 1) := by decide +kernel
set_option maxRecDepth 20000 in
theorem ggX6_finds_X6_turned : GoodIn wsX6_finds wsX6_turned := goodIn_r _ [9] (by decide +kernel) (by decide +kernel)
set_option maxRecDepth 20000 in
theorem gX6_finds_X6_turned : GoodIn wsX6_finds (va_wsS RX6 155 yX6_turned wsX6_turned) := goodIn_app (goodIn_of _ (by decide +kernel)) ggX6_finds_X6_turned
theorem dX6_finds_0 : decode cX6_finds 0 = .ok (.bipush 40, 2) := by decide +kernel
theorem dX6_finds_2 : decode cX6_finds 2 = .ok (.iload_n 1, 1) := by decide +kernel
theorem dX6_finds_3 : decode cX6_finds 3 = .ok (.imul, 1) := by decide +kernel
theorem dX6_finds_4 : decode cX6_finds 4 = .ok (.istore_n 2, 1) := by decide +kernel
theorem dX6_finds_5 : decode cX6_finds 5 = .ok (.iconst 0, 1) := by decide +kernel
theorem dX6_finds_6 : decode cX6_finds 6 = .ok (.istore_n 3, 1) := by decide +kernel
theorem dX6_finds_7 : decode cX6_finds 7 = .ok (.iconst 0, 1) := by decide +kernel
theorem dX6_finds_8 : decode cX6_finds 8 = .ok (.istore 4, 2) := by decide +kernel
theorem dX6_finds_10 : decode cX6_finds 10 = .ok (.iload 4, 2) := by decide +kernel
theorem dX6_finds_12 : decode cX6_finds 12 = .ok (.iconst 4, 1) := by decide +kernel
theorem dX6_finds_13 : decode cX6_finds 13 = .ok (.iadd, 1) := by decide +kernel
theorem dX6_finds_14 : decode cX6_finds 14 = .ok (.aload_n 0, 1) := by decide +kernel
theorem dX6_finds_15 : decode cX6_finds 15 = .ok (.getfield 78, 3) := by decide +kernel
theorem dX6_finds_18 : decode cX6_finds 18 = .ok (.iload_n 1, 1) := by decide +kernel
theorem dX6_finds_19 : decode cX6_finds 19 = .ok (.iaload, 1) := by decide +kernel
theorem dX6_finds_20 : decode cX6_finds 20 = .ok (.if_icmp .gt 156, 3) := by decide +kernel
theorem dX6_finds_23 : decode cX6_finds 23 = .ok (.iconst 0, 1) := by decide +kernel
theorem dX6_finds_24 : decode cX6_finds 24 = .ok (.istore 5, 2) := by decide +kernel
theorem dX6_finds_26 : decode cX6_finds 26 = .ok (.iconst 0, 1) := by decide +kernel
theorem dX6_finds_27 : decode cX6_finds 27 = .ok (.istore 6, 2) := by decide +kernel
theorem dX6_finds_29 : decode cX6_finds 29 = .ok (.iload 6, 2) := by decide +kernel
theorem dX6_finds_31 : decode cX6_finds 31 = .ok (.iconst 4, 1) := by decide +kernel
theorem dX6_finds_32 : decode cX6_finds 32 = .ok (.if_icmp .ge 29, 3) := by decide +kernel
theorem dX6_finds_35 : decode cX6_finds 35 = .ok (.iload 5, 2) := by decide +kernel
theorem dX6_finds_37 : decode cX6_finds 37 = .ok (.invokestatic 155, 3) := by decide +kernel
theorem dX6_finds_40 : decode cX6_finds 40 = .ok (.aload_n 0, 1) := by decide +kernel
theorem dX6_finds_41 : decode cX6_finds 41 = .ok (.getfield 93, 3) := by decide +kernel
theorem dX6_finds_44 : decode cX6_finds 44 = .ok (.iload_n 2, 1) := by decide +kernel
theorem dX6_finds_45 : decode cX6_finds 45 = .ok (.iload 4, 2) := by decide +kernel
theorem dX6_finds_47 : decode cX6_finds 47 = .ok (.iadd, 1) := by decide +kernel
theorem dX6_finds_48 : decode cX6_finds 48 = .ok (.iload 6, 2) := by decide +kernel
theorem dX6_finds_50 : decode cX6_finds 50 = .ok (.iadd, 1) := by decide +kernel
theorem dX6_finds_51 : decode cX6_finds 51 = .ok (.iaload, 1) := by decide +kernel
theorem dX6_finds_52 : decode cX6_finds 52 = .ok (.ixor, 1) := by decide +kernel
theorem dX6_finds_53 : decode cX6_finds 53 = .ok (.istore 5, 2) := by decide +kernel
theorem dX6_finds_55 : decode cX6_finds 55 = .ok (.iinc 6 1, 3) := by decide +kernel
theorem dX6_finds_58 : decode cX6_finds 58 = .ok (.goto (-29), 3) := by decide +kernel
theorem dX6_finds_61 : decode cX6_finds 61 = .ok (.iload 5, 2) := by decide +kernel
theorem dX6_finds_63 : decode cX6_finds 63 = .ok (.ldc 158, 2) := by decide +kernel
theorem dX6_finds_65 : decode cX6_finds 65 = .ok (.iand, 1) := by decide +kernel
theorem dX6_finds_66 : decode cX6_finds 66 = .ok (.istore 5, 2) := by decide +kernel
theorem dX6_finds_68 : decode cX6_finds 68 = .ok (.iconst 0, 1) := by decide +kernel
theorem dX6_finds_69 : decode cX6_finds 69 = .ok (.istore 6, 2) := by decide +kernel
theorem dX6_finds_71 : decode cX6_finds 71 = .ok (.iload 6, 2) := by decide +kernel
theorem dX6_finds_73 : decode cX6_finds 73 = .ok (.iload_n 3, 1) := by decide +kernel
theorem dX6_finds_74 : decode cX6_finds 74 = .ok (.if_icmp .ge 23, 3) := by decide +kernel
theorem dX6_finds_77 : decode cX6_finds 77 = .ok (.aload_n 0, 1) := by decide +kernel
theorem dX6_finds_78 : decode cX6_finds 78 = .ok (.getfield 96, 3) := by decide +kernel
theorem dX6_finds_81 : decode cX6_finds 81 = .ok (.iload_n 2, 1) := by decide +kernel
theorem dX6_finds_82 : decode cX6_finds 82 = .ok (.iload 6, 2) := by decide +kernel
theorem dX6_finds_84 : decode cX6_finds 84 = .ok (.iadd, 1) := by decide +kernel
theorem dX6_finds_85 : decode cX6_finds 85 = .ok (.iaload, 1) := by decide +kernel
theorem dX6_finds_86 : decode cX6_finds 86 = .ok (.iload 5, 2) := by decide +kernel
theorem dX6_finds_88 : decode cX6_finds 88 = .ok (.if_icmp .ge 9, 3) := by decide +kernel
theorem dX6_finds_91 : decode cX6_finds 91 = .ok (.iinc 6 1, 3) := by decide +kernel
theorem dX6_finds_94 : decode cX6_finds 94 = .ok (.goto (-23), 3) := by decide +kernel
theorem dX6_finds_97 : decode cX6_finds 97 = .ok (.iload 6, 2) := by decide +kernel
theorem dX6_finds_99 : decode cX6_finds 99 = .ok (.iload_n 3, 1) := by decide +kernel
theorem dX6_finds_100 : decode cX6_finds 100 = .ok (.if_icmp .ge 20, 3) := by decide +kernel
theorem dX6_finds_103 : decode cX6_finds 103 = .ok (.aload_n 0, 1) := by decide +kernel
theorem dX6_finds_104 : decode cX6_finds 104 = .ok (.getfield 96, 3) := by decide +kernel
theorem dX6_finds_107 : decode cX6_finds 107 = .ok (.iload_n 2, 1) := by decide +kernel
theorem dX6_finds_108 : decode cX6_finds 108 = .ok (.iload 6, 2) := by decide +kernel
theorem dX6_finds_110 : decode cX6_finds 110 = .ok (.iadd, 1) := by decide +kernel
theorem dX6_finds_111 : decode cX6_finds 111 = .ok (.iaload, 1) := by decide +kernel
theorem dX6_finds_112 : decode cX6_finds 112 = .ok (.iload 5, 2) := by decide +kernel
theorem dX6_finds_114 : decode cX6_finds 114 = .ok (.if_icmp .ne 6, 3) := by decide +kernel
theorem dX6_finds_117 : decode cX6_finds 117 = .ok (.goto 53, 3) := by decide +kernel
theorem dX6_finds_120 : decode cX6_finds 120 = .ok (.iload_n 3, 1) := by decide +kernel
theorem dX6_finds_121 : decode cX6_finds 121 = .ok (.istore 7, 2) := by decide +kernel
theorem dX6_finds_123 : decode cX6_finds 123 = .ok (.iload 7, 2) := by decide +kernel
theorem dX6_finds_125 : decode cX6_finds 125 = .ok (.iload 6, 2) := by decide +kernel
theorem dX6_finds_127 : decode cX6_finds 127 = .ok (.if_icmp .le 29, 3) := by decide +kernel
theorem dX6_finds_130 : decode cX6_finds 130 = .ok (.aload_n 0, 1) := by decide +kernel
theorem dX6_finds_131 : decode cX6_finds 131 = .ok (.getfield 96, 3) := by decide +kernel
theorem dX6_finds_134 : decode cX6_finds 134 = .ok (.iload_n 2, 1) := by decide +kernel
theorem dX6_finds_135 : decode cX6_finds 135 = .ok (.iload 7, 2) := by decide +kernel
theorem dX6_finds_137 : decode cX6_finds 137 = .ok (.iadd, 1) := by decide +kernel
theorem dX6_finds_138 : decode cX6_finds 138 = .ok (.aload_n 0, 1) := by decide +kernel
theorem dX6_finds_139 : decode cX6_finds 139 = .ok (.getfield 96, 3) := by decide +kernel
theorem dX6_finds_142 : decode cX6_finds 142 = .ok (.iload_n 2, 1) := by decide +kernel
theorem dX6_finds_143 : decode cX6_finds 143 = .ok (.iload 7, 2) := by decide +kernel
theorem dX6_finds_145 : decode cX6_finds 145 = .ok (.iadd, 1) := by decide +kernel
theorem dX6_finds_146 : decode cX6_finds 146 = .ok (.iconst 1, 1) := by decide +kernel
theorem dX6_finds_147 : decode cX6_finds 147 = .ok (.isub, 1) := by decide +kernel
theorem dX6_finds_148 : decode cX6_finds 148 = .ok (.iaload, 1) := by decide +kernel
theorem dX6_finds_149 : decode cX6_finds 149 = .ok (.iastore, 1) := by decide +kernel
theorem dX6_finds_150 : decode cX6_finds 150 = .ok (.iinc 7 (-1), 3) := by decide +kernel
theorem dX6_finds_153 : decode cX6_finds 153 = .ok (.goto (-30), 3) := by decide +kernel
theorem dX6_finds_156 : decode cX6_finds 156 = .ok (.aload_n 0, 1) := by decide +kernel
theorem dX6_finds_157 : decode cX6_finds 157 = .ok (.getfield 96, 3) := by decide +kernel
theorem dX6_finds_160 : decode cX6_finds 160 = .ok (.iload_n 2, 1) := by decide +kernel
theorem dX6_finds_161 : decode cX6_finds 161 = .ok (.iload 6, 2) := by decide +kernel
theorem dX6_finds_163 : decode cX6_finds 163 = .ok (.iadd, 1) := by decide +kernel
theorem dX6_finds_164 : decode cX6_finds 164 = .ok (.iload 5, 2) := by decide +kernel
theorem dX6_finds_166 : decode cX6_finds 166 = .ok (.iastore, 1) := by decide +kernel
theorem dX6_finds_167 : decode cX6_finds 167 = .ok (.iinc 3 1, 3) := by decide +kernel
theorem dX6_finds_170 : decode cX6_finds 170 = .ok (.iinc 4 1, 3) := by decide +kernel
theorem dX6_finds_173 : decode cX6_finds 173 = .ok (.goto (-163), 3) := by decide +kernel
theorem dX6_finds_176 : decode cX6_finds 176 = .ok (.aload_n 0, 1) := by decide +kernel
theorem dX6_finds_177 : decode cX6_finds 177 = .ok (.getfield 99, 3) := by decide +kernel
theorem dX6_finds_180 : decode cX6_finds 180 = .ok (.iload_n 1, 1) := by decide +kernel
theorem dX6_finds_181 : decode cX6_finds 181 = .ok (.iload_n 3, 1) := by decide +kernel
theorem dX6_finds_182 : decode cX6_finds 182 = .ok (.iastore, 1) := by decide +kernel
theorem dX6_finds_183 : decode cX6_finds 183 = .ok (.return_, 1) := by decide +kernel
set_option maxRecDepth 20000 in
theorem ggX6_save_X6_isPupil : GoodIn wsX6_save wsX6_isPupil := goodIn_r _ [18, 19, 20, 21, 17, 22, 51, 52, 53, 54, 55, 56, 57, 58, 59, 60, 61, 62, 63, 64, 65, 66, 67, 68, 69, 70, 71, 72, 73, 74, 75, 76, 77, 78, 79, 80, 81, 82, 83, 84, 85] (by decide +kernel) (by decide +kernel)
set_option maxRecDepth 20000 in
theorem gX6_save_X6_isPupil : GoodIn wsX6_save (wsV RX6 159 RX6 yX6_isPupil wsX6_isPupil) := goodIn_app (goodIn_of _ (by decide +kernel)) ggX6_save_X6_isPupil
set_option maxRecDepth 20000 in
theorem ggX6_save_X6_isTask : GoodIn wsX6_save wsX6_isTask := goodIn_r _ [26, 27, 20, 21, 17, 22, 51, 52, 53, 54, 55, 56, 57, 58, 59, 60, 61, 62, 63, 64, 65, 66, 67, 68, 69, 70, 71, 72, 73, 74, 75, 76, 77, 78, 79, 80, 81, 82, 83, 84, 85] (by decide +kernel) (by decide +kernel)
set_option maxRecDepth 20000 in
theorem gX6_save_X6_isTask : GoodIn wsX6_save (wsV RX6 162 RX6 yX6_isTask wsX6_isTask) := goodIn_app (goodIn_of _ (by decide +kernel)) ggX6_save_X6_isTask
set_option maxRecDepth 20000 in
theorem ggX6_save_X6_isVersion : GoodIn wsX6_save wsX6_isVersion := goodIn_r _ [31, 7, 20, 21, 17, 22, 51, 52, 53, 54, 55, 56, 57, 58, 59, 60, 61, 62, 63, 64, 65, 66, 67, 68, 69, 70, 71, 72, 73, 74, 75, 76, 77, 78, 79, 80, 81, 82, 83, 84, 85] (by decide +kernel) (by decide +kernel)
set_option maxRecDepth 20000 in
theorem gX6_save_X6_isVersion : GoodIn wsX6_save (wsV RX6 165 RX6 yX6_isVersion wsX6_isVersion) := goodIn_app (goodIn_of _ (by decide +kernel)) ggX6_save_X6_isVersion
set_option maxRecDepth 20000 in
theorem ggX6_save_X6_fails : GoodIn wsX6_save wsX6_fails := goodIn_r _ [35, 36, 51, 52, 53, 54, 55, 56, 57, 58, 59, 60, 61, 62, 63, 64, 65, 66, 67, 68, 69, 70, 71, 72, 73, 74, 75, 76, 77, 78, 79, 80, 81, 82, 83, 84, 85] (by decide +kernel) (by decide +kernel)
set_option maxRecDepth 20000 in
theorem gX6_save_X6_fails : GoodIn wsX6_save (wsV RX6 122 RX6 yX6_fails wsX6_fails) := goodIn_app (goodIn_of _ (by decide +kernel)) ggX6_save_X6_fails
set_option maxRecDepth 20000 in
theorem ggX6_save_X6_in : GoodIn wsX6_save wsX6_in := goodIn_r _ [22] (by decide +kernel) (by decide +kernel)
set_option maxRecDepth 20000 in
theorem gX6_save_X6_in : GoodIn wsX6_save (va_wsS RX6 118 yX6_in wsX6_in) := goodIn_app (goodIn_of _ (by decide +kernel)) ggX6_save_X6_in
set_option maxRecDepth 20000 in
theorem ggX6_save_X6_finds : GoodIn wsX6_save wsX6_finds := goodIn_ca (goodIn_r _ [40, 9, 12, 41, 42, 43, 44, 45, 17, 46, 51, 52, 53, 54, 55, 56, 57, 58, 59, 60, 61, 62, 63, 64, 65, 66, 67, 68, 69, 70, 71, 72, 73, 74, 75, 76, 77, 78, 79, 80, 81, 82, 83, 84, 85] (by decide +kernel) (by decide +kernel)) (goodIn_sub (fun _ h => List.mem_cons_of_mem _ (List.mem_append_right _ h)) (by decide +kernel))
set_option maxRecDepth 20000 in
theorem gX6_save_X6_finds : GoodIn wsX6_save (wsV RX6 168 RX6 yX6_finds wsX6_finds) := goodIn_app (goodIn_of _ (by decide +kernel)) ggX6_save_X6_finds
set_option maxRecDepth 20000 in
theorem ggX6_save_X6_tells : GoodIn wsX6_save wsX6_tells := goodIn_r _ [50, 36, 51, 52, 53, 54, 55, 56, 57, 58, 59, 60, 61, 62, 63, 64, 65, 66, 67, 68, 69, 70, 71, 72, 73, 74, 75, 76, 77, 78, 79, 80, 81, 82, 83, 84, 85] (by decide +kernel) (by decide +kernel)
set_option maxRecDepth 20000 in
theorem gX6_save_X6_tells : GoodIn wsX6_save (wsV RX6 126 RX6 yX6_tells wsX6_tells) := goodIn_app (goodIn_of _ (by decide +kernel)) ggX6_save_X6_tells
theorem dX6_save_0 : decode cX6_save 0 = .ok (.aload_n 0, 1) := by decide +kernel
theorem dX6_save_1 : decode cX6_save 1 = .ok (.iload_n 1, 1) := by decide +kernel
theorem dX6_save_2 : decode cX6_save 2 = .ok (.invokevirtual 159, 3) := by decide +kernel
theorem dX6_save_5 : decode cX6_save 5 = .ok (.ifCond .eq 24, 3) := by decide +kernel
theorem dX6_save_8 : decode cX6_save 8 = .ok (.aload_n 0, 1) := by decide +kernel
theorem dX6_save_9 : decode cX6_save 9 = .ok (.iload_n 2, 1) := by decide +kernel
theorem dX6_save_10 : decode cX6_save 10 = .ok (.invokevirtual 162, 3) := by decide +kernel
theorem dX6_save_13 : decode cX6_save 13 = .ok (.ifCond .eq 16, 3) := by decide +kernel
theorem dX6_save_16 : decode cX6_save 16 = .ok (.iload_n 3, 1) := by decide +kernel
theorem dX6_save_17 : decode cX6_save 17 = .ok (.iconst (-1), 1) := by decide +kernel
theorem dX6_save_18 : decode cX6_save 18 = .ok (.if_icmp .eq 17, 3) := by decide +kernel
theorem dX6_save_21 : decode cX6_save 21 = .ok (.aload_n 0, 1) := by decide +kernel
theorem dX6_save_22 : decode cX6_save 22 = .ok (.iload_n 3, 1) := by decide +kernel
theorem dX6_save_23 : decode cX6_save 23 = .ok (.invokevirtual 165, 3) := by decide +kernel
theorem dX6_save_26 : decode cX6_save 26 = .ok (.ifCond .ne 9, 3) := by decide +kernel
theorem dX6_save_29 : decode cX6_save 29 = .ok (.aload_n 0, 1) := by decide +kernel
theorem dX6_save_30 : decode cX6_save 30 = .ok (.iconst 1, 1) := by decide +kernel
theorem dX6_save_31 : decode cX6_save 31 = .ok (.invokevirtual 122, 3) := by decide +kernel
theorem dX6_save_34 : decode cX6_save 34 = .ok (.ireturn, 1) := by decide +kernel
theorem dX6_save_35 : decode cX6_save 35 = .ok (.iload 4, 2) := by decide +kernel
theorem dX6_save_37 : decode cX6_save 37 = .ok (.iconst 0, 1) := by decide +kernel
theorem dX6_save_38 : decode cX6_save 38 = .ok (.aload_n 0, 1) := by decide +kernel
theorem dX6_save_39 : decode cX6_save 39 = .ok (.getfield 7, 3) := by decide +kernel
theorem dX6_save_42 : decode cX6_save 42 = .ok (.invokestatic 118, 3) := by decide +kernel
theorem dX6_save_45 : decode cX6_save 45 = .ok (.ifCond .ne 9, 3) := by decide +kernel
theorem dX6_save_48 : decode cX6_save 48 = .ok (.aload_n 0, 1) := by decide +kernel
theorem dX6_save_49 : decode cX6_save 49 = .ok (.iconst 2, 1) := by decide +kernel
theorem dX6_save_50 : decode cX6_save 50 = .ok (.invokevirtual 122, 3) := by decide +kernel
theorem dX6_save_53 : decode cX6_save 53 = .ok (.ireturn, 1) := by decide +kernel
theorem dX6_save_54 : decode cX6_save 54 = .ok (.aload_n 0, 1) := by decide +kernel
theorem dX6_save_55 : decode cX6_save 55 = .ok (.getfield 47, 3) := by decide +kernel
theorem dX6_save_58 : decode cX6_save 58 = .ok (.iload_n 2, 1) := by decide +kernel
theorem dX6_save_59 : decode cX6_save 59 = .ok (.iaload, 1) := by decide +kernel
theorem dX6_save_60 : decode cX6_save 60 = .ok (.aload_n 0, 1) := by decide +kernel
theorem dX6_save_61 : decode cX6_save 61 = .ok (.getfield 44, 3) := by decide +kernel
theorem dX6_save_64 : decode cX6_save 64 = .ok (.iload_n 1, 1) := by decide +kernel
theorem dX6_save_65 : decode cX6_save 65 = .ok (.iaload, 1) := by decide +kernel
theorem dX6_save_66 : decode cX6_save 66 = .ok (.if_icmp .eq 7, 3) := by decide +kernel
theorem dX6_save_69 : decode cX6_save 69 = .ok (.iconst 1, 1) := by decide +kernel
theorem dX6_save_70 : decode cX6_save 70 = .ok (.goto 4, 3) := by decide +kernel
theorem dX6_save_73 : decode cX6_save 73 = .ok (.iconst 0, 1) := by decide +kernel
theorem dX6_save_74 : decode cX6_save 74 = .ok (.istore 5, 2) := by decide +kernel
theorem dX6_save_76 : decode cX6_save 76 = .ok (.iload_n 3, 1) := by decide +kernel
theorem dX6_save_77 : decode cX6_save 77 = .ok (.iconst (-1), 1) := by decide +kernel
theorem dX6_save_78 : decode cX6_save 78 = .ok (.if_icmp .eq 51, 3) := by decide +kernel
theorem dX6_save_81 : decode cX6_save 81 = .ok (.iload 5, 2) := by decide +kernel
theorem dX6_save_83 : decode cX6_save 83 = .ok (.ifCond .ne 39, 3) := by decide +kernel
theorem dX6_save_86 : decode cX6_save 86 = .ok (.aload_n 0, 1) := by decide +kernel
theorem dX6_save_87 : decode cX6_save 87 = .ok (.getfield 66, 3) := by decide +kernel
theorem dX6_save_90 : decode cX6_save 90 = .ok (.iload_n 3, 1) := by decide +kernel
theorem dX6_save_91 : decode cX6_save 91 = .ok (.iaload, 1) := by decide +kernel
theorem dX6_save_92 : decode cX6_save 92 = .ok (.iload_n 1, 1) := by decide +kernel
theorem dX6_save_93 : decode cX6_save 93 = .ok (.if_icmp .ne 29, 3) := by decide +kernel
theorem dX6_save_96 : decode cX6_save 96 = .ok (.aload_n 0, 1) := by decide +kernel
theorem dX6_save_97 : decode cX6_save 97 = .ok (.getfield 69, 3) := by decide +kernel
theorem dX6_save_100 : decode cX6_save 100 = .ok (.iload_n 3, 1) := by decide +kernel
theorem dX6_save_101 : decode cX6_save 101 = .ok (.iaload, 1) := by decide +kernel
theorem dX6_save_102 : decode cX6_save 102 = .ok (.iload_n 2, 1) := by decide +kernel
theorem dX6_save_103 : decode cX6_save 103 = .ok (.if_icmp .ne 19, 3) := by decide +kernel
theorem dX6_save_106 : decode cX6_save 106 = .ok (.aload_n 0, 1) := by decide +kernel
theorem dX6_save_107 : decode cX6_save 107 = .ok (.getfield 75, 3) := by decide +kernel
theorem dX6_save_110 : decode cX6_save 110 = .ok (.iload_n 3, 1) := by decide +kernel
theorem dX6_save_111 : decode cX6_save 111 = .ok (.iaload, 1) := by decide +kernel
theorem dX6_save_112 : decode cX6_save 112 = .ok (.aload_n 0, 1) := by decide +kernel
theorem dX6_save_113 : decode cX6_save 113 = .ok (.getfield 7, 3) := by decide +kernel
theorem dX6_save_116 : decode cX6_save 116 = .ok (.iload 4, 2) := by decide +kernel
theorem dX6_save_118 : decode cX6_save 118 = .ok (.isub, 1) := by decide +kernel
theorem dX6_save_119 : decode cX6_save 119 = .ok (.if_icmp .le 7, 3) := by decide +kernel
theorem dX6_save_122 : decode cX6_save 122 = .ok (.iconst 1, 1) := by decide +kernel
theorem dX6_save_123 : decode cX6_save 123 = .ok (.goto 4, 3) := by decide +kernel
theorem dX6_save_126 : decode cX6_save 126 = .ok (.iconst 0, 1) := by decide +kernel
theorem dX6_save_127 : decode cX6_save 127 = .ok (.istore 5, 2) := by decide +kernel
theorem dX6_save_129 : decode cX6_save 129 = .ok (.iload 5, 2) := by decide +kernel
theorem dX6_save_131 : decode cX6_save 131 = .ok (.ifCond .eq 9, 3) := by decide +kernel
theorem dX6_save_134 : decode cX6_save 134 = .ok (.aload_n 0, 1) := by decide +kernel
theorem dX6_save_135 : decode cX6_save 135 = .ok (.iconst 3, 1) := by decide +kernel
theorem dX6_save_136 : decode cX6_save 136 = .ok (.invokevirtual 122, 3) := by decide +kernel
theorem dX6_save_139 : decode cX6_save 139 = .ok (.ireturn, 1) := by decide +kernel
theorem dX6_save_140 : decode cX6_save 140 = .ok (.aload_n 0, 1) := by decide +kernel
theorem dX6_save_141 : decode cX6_save 141 = .ok (.getfield 22, 3) := by decide +kernel
theorem dX6_save_144 : decode cX6_save 144 = .ok (.bipush 60, 2) := by decide +kernel
theorem dX6_save_146 : decode cX6_save 146 = .ok (.if_icmp .ne 9, 3) := by decide +kernel
theorem dX6_save_149 : decode cX6_save 149 = .ok (.aload_n 0, 1) := by decide +kernel
theorem dX6_save_150 : decode cX6_save 150 = .ok (.iconst 4, 1) := by decide +kernel
theorem dX6_save_151 : decode cX6_save 151 = .ok (.invokevirtual 122, 3) := by decide +kernel
theorem dX6_save_154 : decode cX6_save 154 = .ok (.ireturn, 1) := by decide +kernel
theorem dX6_save_155 : decode cX6_save 155 = .ok (.aload_n 0, 1) := by decide +kernel
theorem dX6_save_156 : decode cX6_save 156 = .ok (.getfield 22, 3) := by decide +kernel
theorem dX6_save_159 : decode cX6_save 159 = .ok (.istore 6, 2) := by decide +kernel
theorem dX6_save_161 : decode cX6_save 161 = .ok (.aload_n 0, 1) := by decide +kernel
theorem dX6_save_162 : decode cX6_save 162 = .ok (.getfield 66, 3) := by decide +kernel
theorem dX6_save_165 : decode cX6_save 165 = .ok (.iload 6, 2) := by decide +kernel
theorem dX6_save_167 : decode cX6_save 167 = .ok (.iload_n 1, 1) := by decide +kernel
theorem dX6_save_168 : decode cX6_save 168 = .ok (.iastore, 1) := by decide +kernel
theorem dX6_save_169 : decode cX6_save 169 = .ok (.aload_n 0, 1) := by decide +kernel
theorem dX6_save_170 : decode cX6_save 170 = .ok (.getfield 69, 3) := by decide +kernel
theorem dX6_save_173 : decode cX6_save 173 = .ok (.iload 6, 2) := by decide +kernel
theorem dX6_save_175 : decode cX6_save 175 = .ok (.iload_n 2, 1) := by decide +kernel
theorem dX6_save_176 : decode cX6_save 176 = .ok (.iastore, 1) := by decide +kernel
theorem dX6_save_177 : decode cX6_save 177 = .ok (.aload_n 0, 1) := by decide +kernel
theorem dX6_save_178 : decode cX6_save 178 = .ok (.getfield 72, 3) := by decide +kernel
theorem dX6_save_181 : decode cX6_save 181 = .ok (.iload 6, 2) := by decide +kernel
theorem dX6_save_183 : decode cX6_save 183 = .ok (.iload_n 3, 1) := by decide +kernel
theorem dX6_save_184 : decode cX6_save 184 = .ok (.iastore, 1) := by decide +kernel
theorem dX6_save_185 : decode cX6_save 185 = .ok (.aload_n 0, 1) := by decide +kernel
theorem dX6_save_186 : decode cX6_save 186 = .ok (.getfield 75, 3) := by decide +kernel
theorem dX6_save_189 : decode cX6_save 189 = .ok (.iload 6, 2) := by decide +kernel
theorem dX6_save_191 : decode cX6_save 191 = .ok (.aload_n 0, 1) := by decide +kernel
theorem dX6_save_192 : decode cX6_save 192 = .ok (.getfield 7, 3) := by decide +kernel
theorem dX6_save_195 : decode cX6_save 195 = .ok (.iload 4, 2) := by decide +kernel
theorem dX6_save_197 : decode cX6_save 197 = .ok (.isub, 1) := by decide +kernel
theorem dX6_save_198 : decode cX6_save 198 = .ok (.iastore, 1) := by decide +kernel
theorem dX6_save_199 : decode cX6_save 199 = .ok (.aload_n 0, 1) := by decide +kernel
theorem dX6_save_200 : decode cX6_save 200 = .ok (.getfield 78, 3) := by decide +kernel
theorem dX6_save_203 : decode cX6_save 203 = .ok (.iload 6, 2) := by decide +kernel
theorem dX6_save_205 : decode cX6_save 205 = .ok (.aload_n 0, 1) := by decide +kernel
theorem dX6_save_206 : decode cX6_save 206 = .ok (.getfield 25, 3) := by decide +kernel
theorem dX6_save_209 : decode cX6_save 209 = .ok (.iastore, 1) := by decide +kernel
theorem dX6_save_210 : decode cX6_save 210 = .ok (.aload_n 0, 1) := by decide +kernel
theorem dX6_save_211 : decode cX6_save 211 = .ok (.getfield 84, 3) := by decide +kernel
theorem dX6_save_214 : decode cX6_save 214 = .ok (.iload 6, 2) := by decide +kernel
theorem dX6_save_216 : decode cX6_save 216 = .ok (.iconst (-1), 1) := by decide +kernel
theorem dX6_save_217 : decode cX6_save 217 = .ok (.iastore, 1) := by decide +kernel
theorem dX6_save_218 : decode cX6_save 218 = .ok (.iconst 0, 1) := by decide +kernel
theorem dX6_save_219 : decode cX6_save 219 = .ok (.istore 7, 2) := by decide +kernel
theorem dX6_save_221 : decode cX6_save 221 = .ok (.iload 7, 2) := by decide +kernel
theorem dX6_save_223 : decode cX6_save 223 = .ok (.aload_n 0, 1) := by decide +kernel
theorem dX6_save_224 : decode cX6_save 224 = .ok (.getfield 25, 3) := by decide +kernel
theorem dX6_save_227 : decode cX6_save 227 = .ok (.if_icmp .ge 29, 3) := by decide +kernel
theorem dX6_save_230 : decode cX6_save 230 = .ok (.aload_n 0, 1) := by decide +kernel
theorem dX6_save_231 : decode cX6_save 231 = .ok (.getfield 93, 3) := by decide +kernel
theorem dX6_save_234 : decode cX6_save 234 = .ok (.bipush 40, 2) := by decide +kernel
theorem dX6_save_236 : decode cX6_save 236 = .ok (.iload 6, 2) := by decide +kernel
theorem dX6_save_238 : decode cX6_save 238 = .ok (.imul, 1) := by decide +kernel
theorem dX6_save_239 : decode cX6_save 239 = .ok (.iload 7, 2) := by decide +kernel
theorem dX6_save_241 : decode cX6_save 241 = .ok (.iadd, 1) := by decide +kernel
theorem dX6_save_242 : decode cX6_save 242 = .ok (.aload_n 0, 1) := by decide +kernel
theorem dX6_save_243 : decode cX6_save 243 = .ok (.getfield 63, 3) := by decide +kernel
theorem dX6_save_246 : decode cX6_save 246 = .ok (.iload 7, 2) := by decide +kernel
theorem dX6_save_248 : decode cX6_save 248 = .ok (.iaload, 1) := by decide +kernel
theorem dX6_save_249 : decode cX6_save 249 = .ok (.iastore, 1) := by decide +kernel
theorem dX6_save_250 : decode cX6_save 250 = .ok (.iinc 7 1, 3) := by decide +kernel
theorem dX6_save_253 : decode cX6_save 253 = .ok (.goto (-32), 3) := by decide +kernel
theorem dX6_save_256 : decode cX6_save 256 = .ok (.aload_n 0, 1) := by decide +kernel
theorem dX6_save_257 : decode cX6_save 257 = .ok (.iload 6, 2) := by decide +kernel
theorem dX6_save_259 : decode cX6_save 259 = .ok (.invokevirtual 168, 3) := by decide +kernel
theorem dX6_save_262 : decode cX6_save 262 = .ok (.aload_n 0, 1) := by decide +kernel
theorem dX6_save_263 : decode cX6_save 263 = .ok (.dup, 1) := by decide +kernel
theorem dX6_save_264 : decode cX6_save 264 = .ok (.getfield 22, 3) := by decide +kernel
theorem dX6_save_267 : decode cX6_save 267 = .ok (.iconst 1, 1) := by decide +kernel
theorem dX6_save_268 : decode cX6_save 268 = .ok (.iadd, 1) := by decide +kernel
theorem dX6_save_269 : decode cX6_save 269 = .ok (.putfield 22, 3) := by decide +kernel
theorem dX6_save_272 : decode cX6_save 272 = .ok (.aload_n 0, 1) := by decide +kernel
theorem dX6_save_273 : decode cX6_save 273 = .ok (.iconst 0, 1) := by decide +kernel
theorem dX6_save_274 : decode cX6_save 274 = .ok (.putfield 25, 3) := by decide +kernel
theorem dX6_save_277 : decode cX6_save 277 = .ok (.aload_n 0, 1) := by decide +kernel
theorem dX6_save_278 : decode cX6_save 278 = .ok (.iload 6, 2) := by decide +kernel
theorem dX6_save_280 : decode cX6_save 280 = .ok (.invokevirtual 126, 3) := by decide +kernel
theorem dX6_save_283 : decode cX6_save 283 = .ok (.ireturn, 1) := by decide +kernel
set_option maxRecDepth 20000 in
theorem ggX6_charsOfVersion_X6_charsOf : GoodIn wsX6_charsOfVersion wsX6_charsOf := goodIn_r _ [6, 7] (by decide +kernel) (by decide +kernel)
set_option maxRecDepth 20000 in
theorem gX6_charsOfVersion_X6_charsOf : GoodIn wsX6_charsOfVersion (va_wsS RX6 138 yX6_charsOf wsX6_charsOf) := goodIn_app (goodIn_of _ (by decide +kernel)) ggX6_charsOfVersion_X6_charsOf
theorem dX6_charsOfVersion_0 : decode cX6_charsOfVersion 0 = .ok (.iconst 0, 1) := by decide +kernel
theorem dX6_charsOfVersion_1 : decode cX6_charsOfVersion 1 = .ok (.istore_n 2, 1) := by decide +kernel
theorem dX6_charsOfVersion_2 : decode cX6_charsOfVersion 2 = .ok (.iconst 0, 1) := by decide +kernel
theorem dX6_charsOfVersion_3 : decode cX6_charsOfVersion 3 = .ok (.istore_n 3, 1) := by decide +kernel
theorem dX6_charsOfVersion_4 : decode cX6_charsOfVersion 4 = .ok (.iload_n 3, 1) := by decide +kernel
theorem dX6_charsOfVersion_5 : decode cX6_charsOfVersion 5 = .ok (.aload_n 0, 1) := by decide +kernel
theorem dX6_charsOfVersion_6 : decode cX6_charsOfVersion 6 = .ok (.getfield 78, 3) := by decide +kernel
theorem dX6_charsOfVersion_9 : decode cX6_charsOfVersion 9 = .ok (.iload_n 1, 1) := by decide +kernel
theorem dX6_charsOfVersion_10 : decode cX6_charsOfVersion 10 = .ok (.iaload, 1) := by decide +kernel
theorem dX6_charsOfVersion_11 : decode cX6_charsOfVersion 11 = .ok (.if_icmp .ge 26, 3) := by decide +kernel
theorem dX6_charsOfVersion_14 : decode cX6_charsOfVersion 14 = .ok (.iload_n 2, 1) := by decide +kernel
theorem dX6_charsOfVersion_15 : decode cX6_charsOfVersion 15 = .ok (.aload_n 0, 1) := by decide +kernel
theorem dX6_charsOfVersion_16 : decode cX6_charsOfVersion 16 = .ok (.getfield 93, 3) := by decide +kernel
theorem dX6_charsOfVersion_19 : decode cX6_charsOfVersion 19 = .ok (.bipush 40, 2) := by decide +kernel
theorem dX6_charsOfVersion_21 : decode cX6_charsOfVersion 21 = .ok (.iload_n 1, 1) := by decide +kernel
theorem dX6_charsOfVersion_22 : decode cX6_charsOfVersion 22 = .ok (.imul, 1) := by decide +kernel
theorem dX6_charsOfVersion_23 : decode cX6_charsOfVersion 23 = .ok (.iload_n 3, 1) := by decide +kernel
theorem dX6_charsOfVersion_24 : decode cX6_charsOfVersion 24 = .ok (.iadd, 1) := by decide +kernel
theorem dX6_charsOfVersion_25 : decode cX6_charsOfVersion 25 = .ok (.iaload, 1) := by decide +kernel
theorem dX6_charsOfVersion_26 : decode cX6_charsOfVersion 26 = .ok (.invokestatic 138, 3) := by decide +kernel
theorem dX6_charsOfVersion_29 : decode cX6_charsOfVersion 29 = .ok (.iadd, 1) := by decide +kernel
theorem dX6_charsOfVersion_30 : decode cX6_charsOfVersion 30 = .ok (.istore_n 2, 1) := by decide +kernel
theorem dX6_charsOfVersion_31 : decode cX6_charsOfVersion 31 = .ok (.iinc 3 1, 3) := by decide +kernel
theorem dX6_charsOfVersion_34 : decode cX6_charsOfVersion 34 = .ok (.goto (-30), 3) := by decide +kernel
theorem dX6_charsOfVersion_37 : decode cX6_charsOfVersion 37 = .ok (.iload_n 2, 1) := by decide +kernel
theorem dX6_charsOfVersion_38 : decode cX6_charsOfVersion 38 = .ok (.ireturn, 1) := by decide +kernel
set_option maxRecDepth 20000 in
theorem ggX6_of_X6_isVersion : GoodIn wsX6_of wsX6_isVersion := goodIn_r _ [11, 12, 13, 14, 10, 15, 34, 35, 36, 37, 38, 39, 40, 41, 42, 43, 44, 45, 46, 47, 48, 49, 50, 51, 52, 53, 54, 55, 56, 57, 58, 59, 60, 61, 62, 63, 64, 65, 66, 67, 68] (by decide +kernel) (by decide +kernel)
set_option maxRecDepth 20000 in
theorem gX6_of_X6_isVersion : GoodIn wsX6_of (wsV RX6 165 RX6 yX6_isVersion wsX6_isVersion) := goodIn_app (goodIn_of _ (by decide +kernel)) ggX6_of_X6_isVersion
set_option maxRecDepth 20000 in
theorem ggX6_of_X6_fails : GoodIn wsX6_of wsX6_fails := goodIn_r _ [19, 20, 34, 35, 36, 37, 38, 39, 40, 41, 42, 43, 44, 45, 46, 47, 48, 49, 50, 51, 52, 53, 54, 55, 56, 57, 58, 59, 60, 61, 62, 63, 64, 65, 66, 67, 68] (by decide +kernel) (by decide +kernel)
set_option maxRecDepth 20000 in
theorem gX6_of_X6_fails : GoodIn wsX6_of (wsV RX6 122 RX6 yX6_fails wsX6_fails) := goodIn_app (goodIn_of _ (by decide +kernel)) ggX6_of_X6_fails
set_option maxRecDepth 20000 in
theorem ggX6_of_X6_tells : GoodIn wsX6_of wsX6_tells := goodIn_r _ [24, 20, 34, 35, 36, 37, 38, 39, 40, 41, 42, 43, 44, 45, 46, 47, 48, 49, 50, 51, 52, 53, 54, 55, 56, 57, 58, 59, 60, 61, 62, 63, 64, 65, 66, 67, 68] (by decide +kernel) (by decide +kernel)
set_option maxRecDepth 20000 in
theorem gX6_of_X6_tells : GoodIn wsX6_of (wsV RX6 126 RX6 yX6_tells wsX6_tells) := goodIn_app (goodIn_of _ (by decide +kernel)) ggX6_of_X6_tells
set_option maxRecDepth 20000 in
theorem ggX6_of_X6_charsOfVersion : GoodIn wsX6_of wsX6_charsOfVersion := goodIn_ca (goodIn_r _ [28, 4, 29, 30, 31, 10, 32, 33, 34, 35, 36, 37, 38, 39, 40, 41, 42, 43, 44, 45, 46, 47, 48, 49, 50, 51, 52, 53, 54, 55, 56, 57, 58, 59, 60, 61, 62, 63, 64, 65, 66, 67, 68] (by decide +kernel) (by decide +kernel)) (goodIn_sub (fun _ h => List.mem_cons_of_mem _ (List.mem_append_right _ h)) (by decide +kernel))
set_option maxRecDepth 20000 in
theorem gX6_of_X6_charsOfVersion : GoodIn wsX6_of (wsV RX6 172 RX6 yX6_charsOfVersion wsX6_charsOfVersion) := goodIn_app (goodIn_of _ (by decide +kernel)) ggX6_of_X6_charsOfVersion
theorem dX6_of_0 : decode cX6_of 0 = .ok (.aload_n 0, 1) := by decide +kernel
theorem dX6_of_1 : decode cX6_of 1 = .ok (.iload_n 1, 1) := by decide +kernel
theorem dX6_of_2 : decode cX6_of 2 = .ok (.invokevirtual 165, 3) := by decide +kernel
theorem dX6_of_5 : decode cX6_of 5 = .ok (.ifCond .ne 9, 3) := by decide +kernel
theorem dX6_of_8 : decode cX6_of 8 = .ok (.aload_n 0, 1) := by decide +kernel
theorem dX6_of_9 : decode cX6_of 9 = .ok (.iconst 1, 1) := by decide +kernel
theorem dX6_of_10 : decode cX6_of 10 = .ok (.invokevirtual 122, 3) := by decide +kernel
theorem dX6_of_13 : decode cX6_of 13 = .ok (.ireturn, 1) := by decide +kernel
theorem dX6_of_14 : decode cX6_of 14 = .ok (.iload_n 2, 1) := by decide +kernel
theorem dX6_of_15 : decode cX6_of 15 = .ok (.tableswitch 165 99 117 #[133, 165, 165, 165, 154, 111, 165, 165, 165, 165, 165, 122, 165, 89, 165, 165, 100, 165, 143], 89) := by decide +kernel
theorem dX6_of_104 : decode cX6_of 104 = .ok (.aload_n 0, 1) := by decide +kernel
theorem dX6_of_105 : decode cX6_of 105 = .ok (.aload_n 0, 1) := by decide +kernel
theorem dX6_of_106 : decode cX6_of 106 = .ok (.getfield 72, 3) := by decide +kernel
theorem dX6_of_109 : decode cX6_of 109 = .ok (.iload_n 1, 1) := by decide +kernel
theorem dX6_of_110 : decode cX6_of 110 = .ok (.iaload, 1) := by decide +kernel
theorem dX6_of_111 : decode cX6_of 111 = .ok (.invokevirtual 126, 3) := by decide +kernel
theorem dX6_of_114 : decode cX6_of 114 = .ok (.ireturn, 1) := by decide +kernel
theorem dX6_of_115 : decode cX6_of 115 = .ok (.aload_n 0, 1) := by decide +kernel
theorem dX6_of_116 : decode cX6_of 116 = .ok (.aload_n 0, 1) := by decide +kernel
theorem dX6_of_117 : decode cX6_of 117 = .ok (.getfield 75, 3) := by decide +kernel
theorem dX6_of_120 : decode cX6_of 120 = .ok (.iload_n 1, 1) := by decide +kernel
theorem dX6_of_121 : decode cX6_of 121 = .ok (.iaload, 1) := by decide +kernel
theorem dX6_of_122 : decode cX6_of 122 = .ok (.invokevirtual 126, 3) := by decide +kernel
theorem dX6_of_125 : decode cX6_of 125 = .ok (.ireturn, 1) := by decide +kernel
theorem dX6_of_126 : decode cX6_of 126 = .ok (.aload_n 0, 1) := by decide +kernel
theorem dX6_of_127 : decode cX6_of 127 = .ok (.aload_n 0, 1) := by decide +kernel
theorem dX6_of_128 : decode cX6_of 128 = .ok (.getfield 84, 3) := by decide +kernel
theorem dX6_of_131 : decode cX6_of 131 = .ok (.iload_n 1, 1) := by decide +kernel
theorem dX6_of_132 : decode cX6_of 132 = .ok (.iaload, 1) := by decide +kernel
theorem dX6_of_133 : decode cX6_of 133 = .ok (.invokevirtual 126, 3) := by decide +kernel
theorem dX6_of_136 : decode cX6_of 136 = .ok (.ireturn, 1) := by decide +kernel
theorem dX6_of_137 : decode cX6_of 137 = .ok (.aload_n 0, 1) := by decide +kernel
theorem dX6_of_138 : decode cX6_of 138 = .ok (.aload_n 0, 1) := by decide +kernel
theorem dX6_of_139 : decode cX6_of 139 = .ok (.getfield 78, 3) := by decide +kernel
theorem dX6_of_142 : decode cX6_of 142 = .ok (.iload_n 1, 1) := by decide +kernel
theorem dX6_of_143 : decode cX6_of 143 = .ok (.iaload, 1) := by decide +kernel
theorem dX6_of_144 : decode cX6_of 144 = .ok (.invokevirtual 126, 3) := by decide +kernel
theorem dX6_of_147 : decode cX6_of 147 = .ok (.ireturn, 1) := by decide +kernel
theorem dX6_of_148 : decode cX6_of 148 = .ok (.aload_n 0, 1) := by decide +kernel
theorem dX6_of_149 : decode cX6_of 149 = .ok (.aload_n 0, 1) := by decide +kernel
theorem dX6_of_150 : decode cX6_of 150 = .ok (.iload_n 1, 1) := by decide +kernel
theorem dX6_of_151 : decode cX6_of 151 = .ok (.invokevirtual 172, 3) := by decide +kernel
theorem dX6_of_154 : decode cX6_of 154 = .ok (.invokevirtual 126, 3) := by decide +kernel
theorem dX6_of_157 : decode cX6_of 157 = .ok (.ireturn, 1) := by decide +kernel
theorem dX6_of_158 : decode cX6_of 158 = .ok (.aload_n 0, 1) := by decide +kernel
theorem dX6_of_159 : decode cX6_of 159 = .ok (.aload_n 0, 1) := by decide +kernel
theorem dX6_of_160 : decode cX6_of 160 = .ok (.getfield 99, 3) := by decide +kernel
theorem dX6_of_163 : decode cX6_of 163 = .ok (.iload_n 1, 1) := by decide +kernel
theorem dX6_of_164 : decode cX6_of 164 = .ok (.iaload, 1) := by decide +kernel
theorem dX6_of_165 : decode cX6_of 165 = .ok (.invokevirtual 126, 3) := by decide +kernel
theorem dX6_of_168 : decode cX6_of 168 = .ok (.ireturn, 1) := by decide +kernel
theorem dX6_of_169 : decode cX6_of 169 = .ok (.aload_n 0, 1) := by decide +kernel
theorem dX6_of_170 : decode cX6_of 170 = .ok (.aload_n 0, 1) := by decide +kernel
theorem dX6_of_171 : decode cX6_of 171 = .ok (.getfield 90, 3) := by decide +kernel
theorem dX6_of_174 : decode cX6_of 174 = .ok (.iload_n 1, 1) := by decide +kernel
theorem dX6_of_175 : decode cX6_of 175 = .ok (.iaload, 1) := by decide +kernel
theorem dX6_of_176 : decode cX6_of 176 = .ok (.invokevirtual 126, 3) := by decide +kernel
theorem dX6_of_179 : decode cX6_of 179 = .ok (.ireturn, 1) := by decide +kernel
theorem dX6_of_180 : decode cX6_of 180 = .ok (.aload_n 0, 1) := by decide +kernel
theorem dX6_of_181 : decode cX6_of 181 = .ok (.iconst 2, 1) := by decide +kernel
theorem dX6_of_182 : decode cX6_of 182 = .ok (.invokevirtual 122, 3) := by decide +kernel
theorem dX6_of_185 : decode cX6_of 185 = .ok (.ireturn, 1) := by decide +kernel
set_option maxRecDepth 20000 in
theorem ggX6_forks_X6_isVersion : GoodIn wsX6_forks wsX6_isVersion := goodIn_r _ [9, 1, 10, 11, 8, 12, 22, 23, 24, 25, 26, 27, 28, 29, 30, 31, 32, 33, 34, 35, 36, 37, 38, 39, 40, 41, 42, 43, 44, 45, 46, 47, 48, 49, 50, 51, 52, 53, 54, 55, 56] (by decide +kernel) (by decide +kernel)
set_option maxRecDepth 20000 in
theorem gX6_forks_X6_isVersion : GoodIn wsX6_forks (wsV RX6 165 RX6 yX6_isVersion wsX6_isVersion) := goodIn_app (goodIn_of _ (by decide +kernel)) ggX6_forks_X6_isVersion
set_option maxRecDepth 20000 in
theorem ggX6_forks_X6_fails : GoodIn wsX6_forks wsX6_fails := goodIn_r _ [16, 17, 22, 23, 24, 25, 26, 27, 28, 29, 30, 31, 32, 33, 34, 35, 36, 37, 38, 39, 40, 41, 42, 43, 44, 45, 46, 47, 48, 49, 50, 51, 52, 53, 54, 55, 56] (by decide +kernel) (by decide +kernel)
set_option maxRecDepth 20000 in
theorem gX6_forks_X6_fails : GoodIn wsX6_forks (wsV RX6 122 RX6 yX6_fails wsX6_fails) := goodIn_app (goodIn_of _ (by decide +kernel)) ggX6_forks_X6_fails
set_option maxRecDepth 20000 in
theorem ggX6_forks_X6_tells : GoodIn wsX6_forks wsX6_tells := goodIn_r _ [21, 17, 22, 23, 24, 25, 26, 27, 28, 29, 30, 31, 32, 33, 34, 35, 36, 37, 38, 39, 40, 41, 42, 43, 44, 45, 46, 47, 48, 49, 50, 51, 52, 53, 54, 55, 56] (by decide +kernel) (by decide +kernel)
set_option maxRecDepth 20000 in
theorem gX6_forks_X6_tells : GoodIn wsX6_forks (wsV RX6 126 RX6 yX6_tells wsX6_tells) := goodIn_app (goodIn_of _ (by decide +kernel)) ggX6_forks_X6_tells
theorem dX6_forks_0 : decode cX6_forks 0 = .ok (.aload_n 0, 1) := by decide +kernel
theorem dX6_forks_1 : decode cX6_forks 1 = .ok (.iload_n 1, 1) := by decide +kernel
theorem dX6_forks_2 : decode cX6_forks 2 = .ok (.invokevirtual 165, 3) := by decide +kernel
theorem dX6_forks_5 : decode cX6_forks 5 = .ok (.ifCond .ne 9, 3) := by decide +kernel
theorem dX6_forks_8 : decode cX6_forks 8 = .ok (.aload_n 0, 1) := by decide +kernel
theorem dX6_forks_9 : decode cX6_forks 9 = .ok (.iconst 1, 1) := by decide +kernel
theorem dX6_forks_10 : decode cX6_forks 10 = .ok (.invokevirtual 122, 3) := by decide +kernel
theorem dX6_forks_13 : decode cX6_forks 13 = .ok (.ireturn, 1) := by decide +kernel
theorem dX6_forks_14 : decode cX6_forks 14 = .ok (.iconst 0, 1) := by decide +kernel
theorem dX6_forks_15 : decode cX6_forks 15 = .ok (.istore_n 2, 1) := by decide +kernel
theorem dX6_forks_16 : decode cX6_forks 16 = .ok (.iconst 0, 1) := by decide +kernel
theorem dX6_forks_17 : decode cX6_forks 17 = .ok (.istore_n 3, 1) := by decide +kernel
theorem dX6_forks_18 : decode cX6_forks 18 = .ok (.iload_n 3, 1) := by decide +kernel
theorem dX6_forks_19 : decode cX6_forks 19 = .ok (.aload_n 0, 1) := by decide +kernel
theorem dX6_forks_20 : decode cX6_forks 20 = .ok (.getfield 22, 3) := by decide +kernel
theorem dX6_forks_23 : decode cX6_forks 23 = .ok (.if_icmp .ge 79, 3) := by decide +kernel
theorem dX6_forks_26 : decode cX6_forks 26 = .ok (.aload_n 0, 1) := by decide +kernel
theorem dX6_forks_27 : decode cX6_forks 27 = .ok (.getfield 66, 3) := by decide +kernel
theorem dX6_forks_30 : decode cX6_forks 30 = .ok (.iload_n 3, 1) := by decide +kernel
theorem dX6_forks_31 : decode cX6_forks 31 = .ok (.iaload, 1) := by decide +kernel
theorem dX6_forks_32 : decode cX6_forks 32 = .ok (.aload_n 0, 1) := by decide +kernel
theorem dX6_forks_33 : decode cX6_forks 33 = .ok (.getfield 66, 3) := by decide +kernel
theorem dX6_forks_36 : decode cX6_forks 36 = .ok (.iload_n 1, 1) := by decide +kernel
theorem dX6_forks_37 : decode cX6_forks 37 = .ok (.iaload, 1) := by decide +kernel
theorem dX6_forks_38 : decode cX6_forks 38 = .ok (.if_icmp .ne 37, 3) := by decide +kernel
theorem dX6_forks_41 : decode cX6_forks 41 = .ok (.aload_n 0, 1) := by decide +kernel
theorem dX6_forks_42 : decode cX6_forks 42 = .ok (.getfield 69, 3) := by decide +kernel
theorem dX6_forks_45 : decode cX6_forks 45 = .ok (.iload_n 3, 1) := by decide +kernel
theorem dX6_forks_46 : decode cX6_forks 46 = .ok (.iaload, 1) := by decide +kernel
theorem dX6_forks_47 : decode cX6_forks 47 = .ok (.aload_n 0, 1) := by decide +kernel
theorem dX6_forks_48 : decode cX6_forks 48 = .ok (.getfield 69, 3) := by decide +kernel
theorem dX6_forks_51 : decode cX6_forks 51 = .ok (.iload_n 1, 1) := by decide +kernel
theorem dX6_forks_52 : decode cX6_forks 52 = .ok (.iaload, 1) := by decide +kernel
theorem dX6_forks_53 : decode cX6_forks 53 = .ok (.if_icmp .ne 22, 3) := by decide +kernel
theorem dX6_forks_56 : decode cX6_forks 56 = .ok (.aload_n 0, 1) := by decide +kernel
theorem dX6_forks_57 : decode cX6_forks 57 = .ok (.getfield 72, 3) := by decide +kernel
theorem dX6_forks_60 : decode cX6_forks 60 = .ok (.iload_n 3, 1) := by decide +kernel
theorem dX6_forks_61 : decode cX6_forks 61 = .ok (.iaload, 1) := by decide +kernel
theorem dX6_forks_62 : decode cX6_forks 62 = .ok (.aload_n 0, 1) := by decide +kernel
theorem dX6_forks_63 : decode cX6_forks 63 = .ok (.getfield 72, 3) := by decide +kernel
theorem dX6_forks_66 : decode cX6_forks 66 = .ok (.iload_n 1, 1) := by decide +kernel
theorem dX6_forks_67 : decode cX6_forks 67 = .ok (.iaload, 1) := by decide +kernel
theorem dX6_forks_68 : decode cX6_forks 68 = .ok (.if_icmp .ne 7, 3) := by decide +kernel
theorem dX6_forks_71 : decode cX6_forks 71 = .ok (.iconst 1, 1) := by decide +kernel
theorem dX6_forks_72 : decode cX6_forks 72 = .ok (.goto 4, 3) := by decide +kernel
theorem dX6_forks_75 : decode cX6_forks 75 = .ok (.iconst 0, 1) := by decide +kernel
theorem dX6_forks_76 : decode cX6_forks 76 = .ok (.istore 4, 2) := by decide +kernel
theorem dX6_forks_78 : decode cX6_forks 78 = .ok (.iload_n 2, 1) := by decide +kernel
theorem dX6_forks_79 : decode cX6_forks 79 = .ok (.iload 4, 2) := by decide +kernel
theorem dX6_forks_81 : decode cX6_forks 81 = .ok (.ifCond .eq 12, 3) := by decide +kernel
theorem dX6_forks_84 : decode cX6_forks 84 = .ok (.iload_n 3, 1) := by decide +kernel
theorem dX6_forks_85 : decode cX6_forks 85 = .ok (.iload_n 1, 1) := by decide +kernel
theorem dX6_forks_86 : decode cX6_forks 86 = .ok (.if_icmp .eq 7, 3) := by decide +kernel
theorem dX6_forks_89 : decode cX6_forks 89 = .ok (.iconst 1, 1) := by decide +kernel
theorem dX6_forks_90 : decode cX6_forks 90 = .ok (.goto 4, 3) := by decide +kernel
theorem dX6_forks_93 : decode cX6_forks 93 = .ok (.iconst 0, 1) := by decide +kernel
theorem dX6_forks_94 : decode cX6_forks 94 = .ok (.iadd, 1) := by decide +kernel
theorem dX6_forks_95 : decode cX6_forks 95 = .ok (.istore_n 2, 1) := by decide +kernel
theorem dX6_forks_96 : decode cX6_forks 96 = .ok (.iinc 3 1, 3) := by decide +kernel
theorem dX6_forks_99 : decode cX6_forks 99 = .ok (.goto (-81), 3) := by decide +kernel
theorem dX6_forks_102 : decode cX6_forks 102 = .ok (.aload_n 0, 1) := by decide +kernel
theorem dX6_forks_103 : decode cX6_forks 103 = .ok (.iload_n 2, 1) := by decide +kernel
theorem dX6_forks_104 : decode cX6_forks 104 = .ok (.invokevirtual 126, 3) := by decide +kernel
theorem dX6_forks_107 : decode cX6_forks 107 = .ok (.ireturn, 1) := by decide +kernel
set_option maxRecDepth 20000 in
theorem ggX6_heads_X6_isPupil : GoodIn wsX6_heads wsX6_isPupil := goodIn_r _ [9, 10, 11, 12, 8, 13, 28, 29, 30, 31, 32, 33, 34, 35, 36, 37, 38, 39, 40, 41, 42, 43, 44, 45, 46, 47, 48, 49, 50, 51, 52, 53, 54, 55, 56, 57, 58, 59, 60, 61, 62] (by decide +kernel) (by decide +kernel)
set_option maxRecDepth 20000 in
theorem gX6_heads_X6_isPupil : GoodIn wsX6_heads (wsV RX6 159 RX6 yX6_isPupil wsX6_isPupil) := goodIn_app (goodIn_of _ (by decide +kernel)) ggX6_heads_X6_isPupil
set_option maxRecDepth 20000 in
theorem ggX6_heads_X6_isTask : GoodIn wsX6_heads wsX6_isTask := goodIn_r _ [17, 18, 11, 12, 8, 13, 28, 29, 30, 31, 32, 33, 34, 35, 36, 37, 38, 39, 40, 41, 42, 43, 44, 45, 46, 47, 48, 49, 50, 51, 52, 53, 54, 55, 56, 57, 58, 59, 60, 61, 62] (by decide +kernel) (by decide +kernel)
set_option maxRecDepth 20000 in
theorem gX6_heads_X6_isTask : GoodIn wsX6_heads (wsV RX6 162 RX6 yX6_isTask wsX6_isTask) := goodIn_app (goodIn_of _ (by decide +kernel)) ggX6_heads_X6_isTask
set_option maxRecDepth 20000 in
theorem ggX6_heads_X6_fails : GoodIn wsX6_heads wsX6_fails := goodIn_r _ [22, 23, 28, 29, 30, 31, 32, 33, 34, 35, 36, 37, 38, 39, 40, 41, 42, 43, 44, 45, 46, 47, 48, 49, 50, 51, 52, 53, 54, 55, 56, 57, 58, 59, 60, 61, 62] (by decide +kernel) (by decide +kernel)
set_option maxRecDepth 20000 in
theorem gX6_heads_X6_fails : GoodIn wsX6_heads (wsV RX6 122 RX6 yX6_fails wsX6_fails) := goodIn_app (goodIn_of _ (by decide +kernel)) ggX6_heads_X6_fails
set_option maxRecDepth 20000 in
theorem ggX6_heads_X6_tells : GoodIn wsX6_heads wsX6_tells := goodIn_r _ [27, 23, 28, 29, 30, 31, 32, 33, 34, 35, 36, 37, 38, 39, 40, 41, 42, 43, 44, 45, 46, 47, 48, 49, 50, 51, 52, 53, 54, 55, 56, 57, 58, 59, 60, 61, 62] (by decide +kernel) (by decide +kernel)
set_option maxRecDepth 20000 in
theorem gX6_heads_X6_tells : GoodIn wsX6_heads (wsV RX6 126 RX6 yX6_tells wsX6_tells) := goodIn_app (goodIn_of _ (by decide +kernel)) ggX6_heads_X6_tells
theorem dX6_heads_0 : decode cX6_heads 0 = .ok (.aload_n 0, 1) := by decide +kernel
theorem dX6_heads_1 : decode cX6_heads 1 = .ok (.iload_n 1, 1) := by decide +kernel
theorem dX6_heads_2 : decode cX6_heads 2 = .ok (.invokevirtual 159, 3) := by decide +kernel
theorem dX6_heads_5 : decode cX6_heads 5 = .ok (.ifCond .eq 11, 3) := by decide +kernel
theorem dX6_heads_8 : decode cX6_heads 8 = .ok (.aload_n 0, 1) := by decide +kernel
theorem dX6_heads_9 : decode cX6_heads 9 = .ok (.iload_n 2, 1) := by decide +kernel
theorem dX6_heads_10 : decode cX6_heads 10 = .ok (.invokevirtual 162, 3) := by decide +kernel
theorem dX6_heads_13 : decode cX6_heads 13 = .ok (.ifCond .ne 9, 3) := by decide +kernel
theorem dX6_heads_16 : decode cX6_heads 16 = .ok (.aload_n 0, 1) := by decide +kernel
theorem dX6_heads_17 : decode cX6_heads 17 = .ok (.iconst 1, 1) := by decide +kernel
theorem dX6_heads_18 : decode cX6_heads 18 = .ok (.invokevirtual 122, 3) := by decide +kernel
theorem dX6_heads_21 : decode cX6_heads 21 = .ok (.ireturn, 1) := by decide +kernel
theorem dX6_heads_22 : decode cX6_heads 22 = .ok (.iconst 0, 1) := by decide +kernel
theorem dX6_heads_23 : decode cX6_heads 23 = .ok (.istore_n 3, 1) := by decide +kernel
theorem dX6_heads_24 : decode cX6_heads 24 = .ok (.iconst 0, 1) := by decide +kernel
theorem dX6_heads_25 : decode cX6_heads 25 = .ok (.istore 4, 2) := by decide +kernel
theorem dX6_heads_27 : decode cX6_heads 27 = .ok (.iload 4, 2) := by decide +kernel
theorem dX6_heads_29 : decode cX6_heads 29 = .ok (.aload_n 0, 1) := by decide +kernel
theorem dX6_heads_30 : decode cX6_heads 30 = .ok (.getfield 22, 3) := by decide +kernel
theorem dX6_heads_33 : decode cX6_heads 33 = .ok (.if_icmp .ge 96, 3) := by decide +kernel
theorem dX6_heads_36 : decode cX6_heads 36 = .ok (.aload_n 0, 1) := by decide +kernel
theorem dX6_heads_37 : decode cX6_heads 37 = .ok (.getfield 66, 3) := by decide +kernel
theorem dX6_heads_40 : decode cX6_heads 40 = .ok (.iload 4, 2) := by decide +kernel
theorem dX6_heads_42 : decode cX6_heads 42 = .ok (.iaload, 1) := by decide +kernel
theorem dX6_heads_43 : decode cX6_heads 43 = .ok (.iload_n 1, 1) := by decide +kernel
theorem dX6_heads_44 : decode cX6_heads 44 = .ok (.if_icmp .ne 18, 3) := by decide +kernel
theorem dX6_heads_47 : decode cX6_heads 47 = .ok (.aload_n 0, 1) := by decide +kernel
theorem dX6_heads_48 : decode cX6_heads 48 = .ok (.getfield 69, 3) := by decide +kernel
theorem dX6_heads_51 : decode cX6_heads 51 = .ok (.iload 4, 2) := by decide +kernel
theorem dX6_heads_53 : decode cX6_heads 53 = .ok (.iaload, 1) := by decide +kernel
theorem dX6_heads_54 : decode cX6_heads 54 = .ok (.iload_n 2, 1) := by decide +kernel
theorem dX6_heads_55 : decode cX6_heads 55 = .ok (.if_icmp .ne 7, 3) := by decide +kernel
theorem dX6_heads_58 : decode cX6_heads 58 = .ok (.iconst 1, 1) := by decide +kernel
theorem dX6_heads_59 : decode cX6_heads 59 = .ok (.goto 4, 3) := by decide +kernel
theorem dX6_heads_62 : decode cX6_heads 62 = .ok (.iconst 0, 1) := by decide +kernel
theorem dX6_heads_63 : decode cX6_heads 63 = .ok (.istore 5, 2) := by decide +kernel
theorem dX6_heads_65 : decode cX6_heads 65 = .ok (.iload 4, 2) := by decide +kernel
theorem dX6_heads_67 : decode cX6_heads 67 = .ok (.iconst 1, 1) := by decide +kernel
theorem dX6_heads_68 : decode cX6_heads 68 = .ok (.iadd, 1) := by decide +kernel
theorem dX6_heads_69 : decode cX6_heads 69 = .ok (.istore 6, 2) := by decide +kernel
theorem dX6_heads_71 : decode cX6_heads 71 = .ok (.iload 6, 2) := by decide +kernel
theorem dX6_heads_73 : decode cX6_heads 73 = .ok (.aload_n 0, 1) := by decide +kernel
theorem dX6_heads_74 : decode cX6_heads 74 = .ok (.getfield 22, 3) := by decide +kernel
theorem dX6_heads_77 : decode cX6_heads 77 = .ok (.if_icmp .ge 33, 3) := by decide +kernel
theorem dX6_heads_80 : decode cX6_heads 80 = .ok (.iload 5, 2) := by decide +kernel
theorem dX6_heads_82 : decode cX6_heads 82 = .ok (.ifCond .eq 19, 3) := by decide +kernel
theorem dX6_heads_85 : decode cX6_heads 85 = .ok (.aload_n 0, 1) := by decide +kernel
theorem dX6_heads_86 : decode cX6_heads 86 = .ok (.getfield 72, 3) := by decide +kernel
theorem dX6_heads_89 : decode cX6_heads 89 = .ok (.iload 6, 2) := by decide +kernel
theorem dX6_heads_91 : decode cX6_heads 91 = .ok (.iaload, 1) := by decide +kernel
theorem dX6_heads_92 : decode cX6_heads 92 = .ok (.iload 4, 2) := by decide +kernel
theorem dX6_heads_94 : decode cX6_heads 94 = .ok (.if_icmp .eq 7, 3) := by decide +kernel
theorem dX6_heads_97 : decode cX6_heads 97 = .ok (.iconst 1, 1) := by decide +kernel
theorem dX6_heads_98 : decode cX6_heads 98 = .ok (.goto 4, 3) := by decide +kernel
theorem dX6_heads_101 : decode cX6_heads 101 = .ok (.iconst 0, 1) := by decide +kernel
theorem dX6_heads_102 : decode cX6_heads 102 = .ok (.istore 5, 2) := by decide +kernel
theorem dX6_heads_104 : decode cX6_heads 104 = .ok (.iinc 6 1, 3) := by decide +kernel
theorem dX6_heads_107 : decode cX6_heads 107 = .ok (.goto (-36), 3) := by decide +kernel
theorem dX6_heads_110 : decode cX6_heads 110 = .ok (.iload_n 3, 1) := by decide +kernel
theorem dX6_heads_111 : decode cX6_heads 111 = .ok (.iload 5, 2) := by decide +kernel
theorem dX6_heads_113 : decode cX6_heads 113 = .ok (.ifCond .eq 7, 3) := by decide +kernel
theorem dX6_heads_116 : decode cX6_heads 116 = .ok (.iconst 1, 1) := by decide +kernel
theorem dX6_heads_117 : decode cX6_heads 117 = .ok (.goto 4, 3) := by decide +kernel
theorem dX6_heads_120 : decode cX6_heads 120 = .ok (.iconst 0, 1) := by decide +kernel
theorem dX6_heads_121 : decode cX6_heads 121 = .ok (.iadd, 1) := by decide +kernel
theorem dX6_heads_122 : decode cX6_heads 122 = .ok (.istore_n 3, 1) := by decide +kernel
theorem dX6_heads_123 : decode cX6_heads 123 = .ok (.iinc 4 1, 3) := by decide +kernel
theorem dX6_heads_126 : decode cX6_heads 126 = .ok (.goto (-99), 3) := by decide +kernel
theorem dX6_heads_129 : decode cX6_heads 129 = .ok (.aload_n 0, 1) := by decide +kernel
theorem dX6_heads_130 : decode cX6_heads 130 = .ok (.iload_n 3, 1) := by decide +kernel
theorem dX6_heads_131 : decode cX6_heads 131 = .ok (.invokevirtual 126, 3) := by decide +kernel
theorem dX6_heads_134 : decode cX6_heads 134 = .ok (.ireturn, 1) := by decide +kernel
theorem dX6_common_0 : decode cX6_common 0 = .ok (.iconst 0, 1) := by decide +kernel
theorem dX6_common_1 : decode cX6_common 1 = .ok (.istore_n 3, 1) := by decide +kernel
theorem dX6_common_2 : decode cX6_common 2 = .ok (.iconst 0, 1) := by decide +kernel
theorem dX6_common_3 : decode cX6_common 3 = .ok (.istore 4, 2) := by decide +kernel
theorem dX6_common_5 : decode cX6_common 5 = .ok (.iload 4, 2) := by decide +kernel
theorem dX6_common_7 : decode cX6_common 7 = .ok (.aload_n 0, 1) := by decide +kernel
theorem dX6_common_8 : decode cX6_common 8 = .ok (.getfield 99, 3) := by decide +kernel
theorem dX6_common_11 : decode cX6_common 11 = .ok (.iload_n 1, 1) := by decide +kernel
theorem dX6_common_12 : decode cX6_common 12 = .ok (.iaload, 1) := by decide +kernel
theorem dX6_common_13 : decode cX6_common 13 = .ok (.if_icmp .ge 64, 3) := by decide +kernel
theorem dX6_common_16 : decode cX6_common 16 = .ok (.iconst 0, 1) := by decide +kernel
theorem dX6_common_17 : decode cX6_common 17 = .ok (.istore 5, 2) := by decide +kernel
theorem dX6_common_19 : decode cX6_common 19 = .ok (.iload 5, 2) := by decide +kernel
theorem dX6_common_21 : decode cX6_common 21 = .ok (.aload_n 0, 1) := by decide +kernel
theorem dX6_common_22 : decode cX6_common 22 = .ok (.getfield 99, 3) := by decide +kernel
theorem dX6_common_25 : decode cX6_common 25 = .ok (.iload_n 2, 1) := by decide +kernel
theorem dX6_common_26 : decode cX6_common 26 = .ok (.iaload, 1) := by decide +kernel
theorem dX6_common_27 : decode cX6_common 27 = .ok (.if_icmp .ge 44, 3) := by decide +kernel
theorem dX6_common_30 : decode cX6_common 30 = .ok (.iload_n 3, 1) := by decide +kernel
theorem dX6_common_31 : decode cX6_common 31 = .ok (.aload_n 0, 1) := by decide +kernel
theorem dX6_common_32 : decode cX6_common 32 = .ok (.getfield 96, 3) := by decide +kernel
theorem dX6_common_35 : decode cX6_common 35 = .ok (.bipush 40, 2) := by decide +kernel
theorem dX6_common_37 : decode cX6_common 37 = .ok (.iload_n 1, 1) := by decide +kernel
theorem dX6_common_38 : decode cX6_common 38 = .ok (.imul, 1) := by decide +kernel
theorem dX6_common_39 : decode cX6_common 39 = .ok (.iload 4, 2) := by decide +kernel
theorem dX6_common_41 : decode cX6_common 41 = .ok (.iadd, 1) := by decide +kernel
theorem dX6_common_42 : decode cX6_common 42 = .ok (.iaload, 1) := by decide +kernel
theorem dX6_common_43 : decode cX6_common 43 = .ok (.aload_n 0, 1) := by decide +kernel
theorem dX6_common_44 : decode cX6_common 44 = .ok (.getfield 96, 3) := by decide +kernel
theorem dX6_common_47 : decode cX6_common 47 = .ok (.bipush 40, 2) := by decide +kernel
theorem dX6_common_49 : decode cX6_common 49 = .ok (.iload_n 2, 1) := by decide +kernel
theorem dX6_common_50 : decode cX6_common 50 = .ok (.imul, 1) := by decide +kernel
theorem dX6_common_51 : decode cX6_common 51 = .ok (.iload 5, 2) := by decide +kernel
theorem dX6_common_53 : decode cX6_common 53 = .ok (.iadd, 1) := by decide +kernel
theorem dX6_common_54 : decode cX6_common 54 = .ok (.iaload, 1) := by decide +kernel
theorem dX6_common_55 : decode cX6_common 55 = .ok (.if_icmp .ne 7, 3) := by decide +kernel
theorem dX6_common_58 : decode cX6_common 58 = .ok (.iconst 1, 1) := by decide +kernel
theorem dX6_common_59 : decode cX6_common 59 = .ok (.goto 4, 3) := by decide +kernel
theorem dX6_common_62 : decode cX6_common 62 = .ok (.iconst 0, 1) := by decide +kernel
theorem dX6_common_63 : decode cX6_common 63 = .ok (.iadd, 1) := by decide +kernel
theorem dX6_common_64 : decode cX6_common 64 = .ok (.istore_n 3, 1) := by decide +kernel
theorem dX6_common_65 : decode cX6_common 65 = .ok (.iinc 5 1, 3) := by decide +kernel
theorem dX6_common_68 : decode cX6_common 68 = .ok (.goto (-49), 3) := by decide +kernel
theorem dX6_common_71 : decode cX6_common 71 = .ok (.iinc 4 1, 3) := by decide +kernel
theorem dX6_common_74 : decode cX6_common 74 = .ok (.goto (-69), 3) := by decide +kernel
theorem dX6_common_77 : decode cX6_common 77 = .ok (.iload_n 3, 1) := by decide +kernel
theorem dX6_common_78 : decode cX6_common 78 = .ok (.ireturn, 1) := by decide +kernel
set_option maxRecDepth 20000 in
theorem ggX6_hand_X6_isVersion : GoodIn wsX6_hand wsX6_isVersion := goodIn_r _ [16, 2, 17, 18, 15, 19, 41, 42, 43, 44, 45, 46, 47, 48, 49, 50, 51, 52, 53, 54, 55, 56, 57, 58, 59, 60, 61, 62, 63, 64, 65, 66, 67, 68, 69, 70, 71, 72, 73, 74, 75] (by decide +kernel) (by decide +kernel)
set_option maxRecDepth 20000 in
theorem gX6_hand_X6_isVersion : GoodIn wsX6_hand (wsV RX6 165 RX6 yX6_isVersion wsX6_isVersion) := goodIn_app (goodIn_of _ (by decide +kernel)) ggX6_hand_X6_isVersion
set_option maxRecDepth 20000 in
theorem ggX6_hand_X6_fails : GoodIn wsX6_hand wsX6_fails := goodIn_r _ [23, 24, 41, 42, 43, 44, 45, 46, 47, 48, 49, 50, 51, 52, 53, 54, 55, 56, 57, 58, 59, 60, 61, 62, 63, 64, 65, 66, 67, 68, 69, 70, 71, 72, 73, 74, 75] (by decide +kernel) (by decide +kernel)
set_option maxRecDepth 20000 in
theorem gX6_hand_X6_fails : GoodIn wsX6_hand (wsV RX6 122 RX6 yX6_fails wsX6_fails) := goodIn_app (goodIn_of _ (by decide +kernel)) ggX6_hand_X6_fails
set_option maxRecDepth 20000 in
theorem ggX6_hand_X6_isHit : GoodIn wsX6_hand wsX6_isHit := goodIn_ca (goodIn_r _ [28, 1, 29, 30, 31, 32, 33, 15, 34, 35, 36, 41, 42, 43, 44, 45, 46, 47, 48, 49, 50, 51, 52, 53, 54, 55, 56, 57, 58, 59, 60, 61, 62, 63, 64, 65, 66, 67, 68, 69, 70, 71, 72, 73, 74, 75] (by decide +kernel) (by decide +kernel)) (goodIn_sub (fun _ h => List.mem_cons_of_mem _ (List.mem_append_right _ h)) (by decide +kernel))
set_option maxRecDepth 20000 in
theorem gX6_hand_X6_isHit : GoodIn wsX6_hand (wsV RX6 175 RX6 yX6_isHit wsX6_isHit) := goodIn_app (goodIn_of _ (by decide +kernel)) ggX6_hand_X6_isHit
set_option maxRecDepth 20000 in
theorem ggX6_hand_X6_common : GoodIn wsX6_hand wsX6_common := goodIn_ca (goodIn_r _ [34, 35, 36, 41, 42, 43, 44, 45, 46, 47, 48, 49, 50, 51, 52, 53, 54, 55, 56, 57, 58, 59, 60, 61, 62, 63, 64, 65, 66, 67, 68, 69, 70, 71, 72, 73, 74, 75] (by decide +kernel) (by decide +kernel)) (goodIn_sub (fun _ h => List.mem_cons_of_mem _ (List.mem_append_right _ h)) (by decide +kernel))
set_option maxRecDepth 20000 in
theorem gX6_hand_X6_common : GoodIn wsX6_hand (wsV RX6 179 RX6 yX6_common wsX6_common) := goodIn_app (goodIn_of _ (by decide +kernel)) ggX6_hand_X6_common
set_option maxRecDepth 20000 in
theorem ggX6_hand_X6_tells : GoodIn wsX6_hand wsX6_tells := goodIn_r _ [40, 24, 41, 42, 43, 44, 45, 46, 47, 48, 49, 50, 51, 52, 53, 54, 55, 56, 57, 58, 59, 60, 61, 62, 63, 64, 65, 66, 67, 68, 69, 70, 71, 72, 73, 74, 75] (by decide +kernel) (by decide +kernel)
set_option maxRecDepth 20000 in
theorem gX6_hand_X6_tells : GoodIn wsX6_hand (wsV RX6 126 RX6 yX6_tells wsX6_tells) := goodIn_app (goodIn_of _ (by decide +kernel)) ggX6_hand_X6_tells
theorem dX6_hand_0 : decode cX6_hand 0 = .ok (.aload_n 0, 1) := by decide +kernel
theorem dX6_hand_1 : decode cX6_hand 1 = .ok (.iload_n 1, 1) := by decide +kernel
theorem dX6_hand_2 : decode cX6_hand 2 = .ok (.invokevirtual 165, 3) := by decide +kernel
theorem dX6_hand_5 : decode cX6_hand 5 = .ok (.ifCond .ne 9, 3) := by decide +kernel
theorem dX6_hand_8 : decode cX6_hand 8 = .ok (.aload_n 0, 1) := by decide +kernel
theorem dX6_hand_9 : decode cX6_hand 9 = .ok (.iconst 1, 1) := by decide +kernel
theorem dX6_hand_10 : decode cX6_hand 10 = .ok (.invokevirtual 122, 3) := by decide +kernel
theorem dX6_hand_13 : decode cX6_hand 13 = .ok (.ireturn, 1) := by decide +kernel
theorem dX6_hand_14 : decode cX6_hand 14 = .ok (.aload_n 0, 1) := by decide +kernel
theorem dX6_hand_15 : decode cX6_hand 15 = .ok (.getfield 81, 3) := by decide +kernel
theorem dX6_hand_18 : decode cX6_hand 18 = .ok (.iload_n 1, 1) := by decide +kernel
theorem dX6_hand_19 : decode cX6_hand 19 = .ok (.iaload, 1) := by decide +kernel
theorem dX6_hand_20 : decode cX6_hand 20 = .ok (.ifCond .eq 9, 3) := by decide +kernel
theorem dX6_hand_23 : decode cX6_hand 23 = .ok (.aload_n 0, 1) := by decide +kernel
theorem dX6_hand_24 : decode cX6_hand 24 = .ok (.iconst 2, 1) := by decide +kernel
theorem dX6_hand_25 : decode cX6_hand 25 = .ok (.invokevirtual 122, 3) := by decide +kernel
theorem dX6_hand_28 : decode cX6_hand 28 = .ok (.ireturn, 1) := by decide +kernel
theorem dX6_hand_29 : decode cX6_hand 29 = .ok (.iconst 0, 1) := by decide +kernel
theorem dX6_hand_30 : decode cX6_hand 30 = .ok (.istore_n 2, 1) := by decide +kernel
theorem dX6_hand_31 : decode cX6_hand 31 = .ok (.iconst 0, 1) := by decide +kernel
theorem dX6_hand_32 : decode cX6_hand 32 = .ok (.istore_n 3, 1) := by decide +kernel
theorem dX6_hand_33 : decode cX6_hand 33 = .ok (.iload_n 3, 1) := by decide +kernel
theorem dX6_hand_34 : decode cX6_hand 34 = .ok (.aload_n 0, 1) := by decide +kernel
theorem dX6_hand_35 : decode cX6_hand 35 = .ok (.getfield 22, 3) := by decide +kernel
theorem dX6_hand_38 : decode cX6_hand 38 = .ok (.if_icmp .ge 26, 3) := by decide +kernel
theorem dX6_hand_41 : decode cX6_hand 41 = .ok (.iload_n 2, 1) := by decide +kernel
theorem dX6_hand_42 : decode cX6_hand 42 = .ok (.aload_n 0, 1) := by decide +kernel
theorem dX6_hand_43 : decode cX6_hand 43 = .ok (.iload_n 1, 1) := by decide +kernel
theorem dX6_hand_44 : decode cX6_hand 44 = .ok (.iload_n 3, 1) := by decide +kernel
theorem dX6_hand_45 : decode cX6_hand 45 = .ok (.invokevirtual 175, 3) := by decide +kernel
theorem dX6_hand_48 : decode cX6_hand 48 = .ok (.ifCond .eq 7, 3) := by decide +kernel
theorem dX6_hand_51 : decode cX6_hand 51 = .ok (.iconst 1, 1) := by decide +kernel
theorem dX6_hand_52 : decode cX6_hand 52 = .ok (.goto 4, 3) := by decide +kernel
theorem dX6_hand_55 : decode cX6_hand 55 = .ok (.iconst 0, 1) := by decide +kernel
theorem dX6_hand_56 : decode cX6_hand 56 = .ok (.iadd, 1) := by decide +kernel
theorem dX6_hand_57 : decode cX6_hand 57 = .ok (.istore_n 2, 1) := by decide +kernel
theorem dX6_hand_58 : decode cX6_hand 58 = .ok (.iinc 3 1, 3) := by decide +kernel
theorem dX6_hand_61 : decode cX6_hand 61 = .ok (.goto (-28), 3) := by decide +kernel
theorem dX6_hand_64 : decode cX6_hand 64 = .ok (.aload_n 0, 1) := by decide +kernel
theorem dX6_hand_65 : decode cX6_hand 65 = .ok (.getfield 28, 3) := by decide +kernel
theorem dX6_hand_68 : decode cX6_hand 68 = .ok (.iload_n 2, 1) := by decide +kernel
theorem dX6_hand_69 : decode cX6_hand 69 = .ok (.iadd, 1) := by decide +kernel
theorem dX6_hand_70 : decode cX6_hand 70 = .ok (.bipush 40, 2) := by decide +kernel
theorem dX6_hand_72 : decode cX6_hand 72 = .ok (.if_icmp .le 9, 3) := by decide +kernel
theorem dX6_hand_75 : decode cX6_hand 75 = .ok (.aload_n 0, 1) := by decide +kernel
theorem dX6_hand_76 : decode cX6_hand 76 = .ok (.iconst 3, 1) := by decide +kernel
theorem dX6_hand_77 : decode cX6_hand 77 = .ok (.invokevirtual 122, 3) := by decide +kernel
theorem dX6_hand_80 : decode cX6_hand 80 = .ok (.ireturn, 1) := by decide +kernel
theorem dX6_hand_81 : decode cX6_hand 81 = .ok (.iconst 0, 1) := by decide +kernel
theorem dX6_hand_82 : decode cX6_hand 82 = .ok (.istore_n 3, 1) := by decide +kernel
theorem dX6_hand_83 : decode cX6_hand 83 = .ok (.iload_n 3, 1) := by decide +kernel
theorem dX6_hand_84 : decode cX6_hand 84 = .ok (.aload_n 0, 1) := by decide +kernel
theorem dX6_hand_85 : decode cX6_hand 85 = .ok (.getfield 22, 3) := by decide +kernel
theorem dX6_hand_88 : decode cX6_hand 88 = .ok (.if_icmp .ge 73, 3) := by decide +kernel
theorem dX6_hand_91 : decode cX6_hand 91 = .ok (.aload_n 0, 1) := by decide +kernel
theorem dX6_hand_92 : decode cX6_hand 92 = .ok (.iload_n 1, 1) := by decide +kernel
theorem dX6_hand_93 : decode cX6_hand 93 = .ok (.iload_n 3, 1) := by decide +kernel
theorem dX6_hand_94 : decode cX6_hand 94 = .ok (.invokevirtual 175, 3) := by decide +kernel
theorem dX6_hand_97 : decode cX6_hand 97 = .ok (.ifCond .eq 58, 3) := by decide +kernel
theorem dX6_hand_100 : decode cX6_hand 100 = .ok (.aload_n 0, 1) := by decide +kernel
theorem dX6_hand_101 : decode cX6_hand 101 = .ok (.getfield 102, 3) := by decide +kernel
theorem dX6_hand_104 : decode cX6_hand 104 = .ok (.aload_n 0, 1) := by decide +kernel
theorem dX6_hand_105 : decode cX6_hand 105 = .ok (.getfield 28, 3) := by decide +kernel
theorem dX6_hand_108 : decode cX6_hand 108 = .ok (.iload_n 1, 1) := by decide +kernel
theorem dX6_hand_109 : decode cX6_hand 109 = .ok (.iastore, 1) := by decide +kernel
theorem dX6_hand_110 : decode cX6_hand 110 = .ok (.aload_n 0, 1) := by decide +kernel
theorem dX6_hand_111 : decode cX6_hand 111 = .ok (.getfield 105, 3) := by decide +kernel
theorem dX6_hand_114 : decode cX6_hand 114 = .ok (.aload_n 0, 1) := by decide +kernel
theorem dX6_hand_115 : decode cX6_hand 115 = .ok (.getfield 28, 3) := by decide +kernel
theorem dX6_hand_118 : decode cX6_hand 118 = .ok (.iload_n 3, 1) := by decide +kernel
theorem dX6_hand_119 : decode cX6_hand 119 = .ok (.iastore, 1) := by decide +kernel
theorem dX6_hand_120 : decode cX6_hand 120 = .ok (.aload_n 0, 1) := by decide +kernel
theorem dX6_hand_121 : decode cX6_hand 121 = .ok (.getfield 108, 3) := by decide +kernel
theorem dX6_hand_124 : decode cX6_hand 124 = .ok (.aload_n 0, 1) := by decide +kernel
theorem dX6_hand_125 : decode cX6_hand 125 = .ok (.getfield 28, 3) := by decide +kernel
theorem dX6_hand_128 : decode cX6_hand 128 = .ok (.aload_n 0, 1) := by decide +kernel
theorem dX6_hand_129 : decode cX6_hand 129 = .ok (.iload_n 1, 1) := by decide +kernel
theorem dX6_hand_130 : decode cX6_hand 130 = .ok (.iload_n 3, 1) := by decide +kernel
theorem dX6_hand_131 : decode cX6_hand 131 = .ok (.invokevirtual 179, 3) := by decide +kernel
theorem dX6_hand_134 : decode cX6_hand 134 = .ok (.iastore, 1) := by decide +kernel
theorem dX6_hand_135 : decode cX6_hand 135 = .ok (.aload_n 0, 1) := by decide +kernel
theorem dX6_hand_136 : decode cX6_hand 136 = .ok (.getfield 111, 3) := by decide +kernel
theorem dX6_hand_139 : decode cX6_hand 139 = .ok (.aload_n 0, 1) := by decide +kernel
theorem dX6_hand_140 : decode cX6_hand 140 = .ok (.getfield 28, 3) := by decide +kernel
theorem dX6_hand_143 : decode cX6_hand 143 = .ok (.iconst (-1), 1) := by decide +kernel
theorem dX6_hand_144 : decode cX6_hand 144 = .ok (.iastore, 1) := by decide +kernel
theorem dX6_hand_145 : decode cX6_hand 145 = .ok (.aload_n 0, 1) := by decide +kernel
theorem dX6_hand_146 : decode cX6_hand 146 = .ok (.dup, 1) := by decide +kernel
theorem dX6_hand_147 : decode cX6_hand 147 = .ok (.getfield 28, 3) := by decide +kernel
theorem dX6_hand_150 : decode cX6_hand 150 = .ok (.iconst 1, 1) := by decide +kernel
theorem dX6_hand_151 : decode cX6_hand 151 = .ok (.iadd, 1) := by decide +kernel
theorem dX6_hand_152 : decode cX6_hand 152 = .ok (.putfield 28, 3) := by decide +kernel
theorem dX6_hand_155 : decode cX6_hand 155 = .ok (.iinc 3 1, 3) := by decide +kernel
theorem dX6_hand_158 : decode cX6_hand 158 = .ok (.goto (-75), 3) := by decide +kernel
theorem dX6_hand_161 : decode cX6_hand 161 = .ok (.aload_n 0, 1) := by decide +kernel
theorem dX6_hand_162 : decode cX6_hand 162 = .ok (.getfield 81, 3) := by decide +kernel
theorem dX6_hand_165 : decode cX6_hand 165 = .ok (.iload_n 1, 1) := by decide +kernel
theorem dX6_hand_166 : decode cX6_hand 166 = .ok (.iconst 1, 1) := by decide +kernel
theorem dX6_hand_167 : decode cX6_hand 167 = .ok (.iastore, 1) := by decide +kernel
theorem dX6_hand_168 : decode cX6_hand 168 = .ok (.aload_n 0, 1) := by decide +kernel
theorem dX6_hand_169 : decode cX6_hand 169 = .ok (.getfield 84, 3) := by decide +kernel
theorem dX6_hand_172 : decode cX6_hand 172 = .ok (.iload_n 1, 1) := by decide +kernel
theorem dX6_hand_173 : decode cX6_hand 173 = .ok (.aload_n 0, 1) := by decide +kernel
theorem dX6_hand_174 : decode cX6_hand 174 = .ok (.getfield 7, 3) := by decide +kernel
theorem dX6_hand_177 : decode cX6_hand 177 = .ok (.iastore, 1) := by decide +kernel
theorem dX6_hand_178 : decode cX6_hand 178 = .ok (.aload_n 0, 1) := by decide +kernel
theorem dX6_hand_179 : decode cX6_hand 179 = .ok (.dup, 1) := by decide +kernel
theorem dX6_hand_180 : decode cX6_hand 180 = .ok (.getfield 31, 3) := by decide +kernel
theorem dX6_hand_183 : decode cX6_hand 183 = .ok (.iconst 1, 1) := by decide +kernel
theorem dX6_hand_184 : decode cX6_hand 184 = .ok (.iadd, 1) := by decide +kernel
theorem dX6_hand_185 : decode cX6_hand 185 = .ok (.putfield 31, 3) := by decide +kernel
theorem dX6_hand_188 : decode cX6_hand 188 = .ok (.aload_n 0, 1) := by decide +kernel
theorem dX6_hand_189 : decode cX6_hand 189 = .ok (.getfield 87, 3) := by decide +kernel
theorem dX6_hand_192 : decode cX6_hand 192 = .ok (.iload_n 1, 1) := by decide +kernel
theorem dX6_hand_193 : decode cX6_hand 193 = .ok (.aload_n 0, 1) := by decide +kernel
theorem dX6_hand_194 : decode cX6_hand 194 = .ok (.getfield 31, 3) := by decide +kernel
theorem dX6_hand_197 : decode cX6_hand 197 = .ok (.iastore, 1) := by decide +kernel
theorem dX6_hand_198 : decode cX6_hand 198 = .ok (.aload_n 0, 1) := by decide +kernel
theorem dX6_hand_199 : decode cX6_hand 199 = .ok (.iload_n 2, 1) := by decide +kernel
theorem dX6_hand_200 : decode cX6_hand 200 = .ok (.invokevirtual 126, 3) := by decide +kernel
theorem dX6_hand_203 : decode cX6_hand 203 = .ok (.ireturn, 1) := by decide +kernel
set_option maxRecDepth 20000 in
theorem ggX6_isHit_X6_common : GoodIn wsX6_isHit wsX6_common := goodIn_ca (goodIn_r _ [8, 9, 10, 11, 12, 13, 14, 15, 16, 17, 18, 19, 20, 21, 22, 23, 24, 25, 26, 27, 28, 29, 30, 31, 32, 33, 34, 35, 36, 37, 38, 39, 40, 41, 42, 43, 44, 45] (by decide +kernel) (by decide +kernel)) (goodIn_sub (fun _ h => List.mem_cons_of_mem _ (List.mem_append_right _ h)) (by decide +kernel))
set_option maxRecDepth 20000 in
theorem gX6_isHit_X6_common : GoodIn wsX6_isHit (wsV RX6 179 RX6 yX6_common wsX6_common) := goodIn_app (goodIn_of _ (by decide +kernel)) ggX6_isHit_X6_common
theorem dX6_isHit_0 : decode cX6_isHit 0 = .ok (.aload_n 0, 1) := by decide +kernel
theorem dX6_isHit_1 : decode cX6_isHit 1 = .ok (.getfield 81, 3) := by decide +kernel
theorem dX6_isHit_4 : decode cX6_isHit 4 = .ok (.iload_n 2, 1) := by decide +kernel
theorem dX6_isHit_5 : decode cX6_isHit 5 = .ok (.iaload, 1) := by decide +kernel
theorem dX6_isHit_6 : decode cX6_isHit 6 = .ok (.iconst 1, 1) := by decide +kernel
theorem dX6_isHit_7 : decode cX6_isHit 7 = .ok (.if_icmp .ne 35, 3) := by decide +kernel
theorem dX6_isHit_10 : decode cX6_isHit 10 = .ok (.aload_n 0, 1) := by decide +kernel
theorem dX6_isHit_11 : decode cX6_isHit 11 = .ok (.getfield 66, 3) := by decide +kernel
theorem dX6_isHit_14 : decode cX6_isHit 14 = .ok (.iload_n 2, 1) := by decide +kernel
theorem dX6_isHit_15 : decode cX6_isHit 15 = .ok (.iaload, 1) := by decide +kernel
theorem dX6_isHit_16 : decode cX6_isHit 16 = .ok (.aload_n 0, 1) := by decide +kernel
theorem dX6_isHit_17 : decode cX6_isHit 17 = .ok (.getfield 66, 3) := by decide +kernel
theorem dX6_isHit_20 : decode cX6_isHit 20 = .ok (.iload_n 1, 1) := by decide +kernel
theorem dX6_isHit_21 : decode cX6_isHit 21 = .ok (.iaload, 1) := by decide +kernel
theorem dX6_isHit_22 : decode cX6_isHit 22 = .ok (.if_icmp .eq 20, 3) := by decide +kernel
theorem dX6_isHit_25 : decode cX6_isHit 25 = .ok (.aload_n 0, 1) := by decide +kernel
theorem dX6_isHit_26 : decode cX6_isHit 26 = .ok (.iload_n 1, 1) := by decide +kernel
theorem dX6_isHit_27 : decode cX6_isHit 27 = .ok (.iload_n 2, 1) := by decide +kernel
theorem dX6_isHit_28 : decode cX6_isHit 28 = .ok (.invokevirtual 179, 3) := by decide +kernel
theorem dX6_isHit_31 : decode cX6_isHit 31 = .ok (.aload_n 0, 1) := by decide +kernel
theorem dX6_isHit_32 : decode cX6_isHit 32 = .ok (.getfield 34, 3) := by decide +kernel
theorem dX6_isHit_35 : decode cX6_isHit 35 = .ok (.if_icmp .lt 7, 3) := by decide +kernel
theorem dX6_isHit_38 : decode cX6_isHit 38 = .ok (.iconst 1, 1) := by decide +kernel
theorem dX6_isHit_39 : decode cX6_isHit 39 = .ok (.goto 4, 3) := by decide +kernel
theorem dX6_isHit_42 : decode cX6_isHit 42 = .ok (.iconst 0, 1) := by decide +kernel
theorem dX6_isHit_43 : decode cX6_isHit 43 = .ok (.ireturn, 1) := by decide +kernel
theorem dX6_clockOf_0 : decode cX6_clockOf 0 = .ok (.aload_n 0, 1) := by decide +kernel
theorem dX6_clockOf_1 : decode cX6_clockOf 1 = .ok (.getfield 7, 3) := by decide +kernel
theorem dX6_clockOf_4 : decode cX6_clockOf 4 = .ok (.aload_n 0, 1) := by decide +kernel
theorem dX6_clockOf_5 : decode cX6_clockOf 5 = .ok (.getfield 40, 3) := by decide +kernel
theorem dX6_clockOf_8 : decode cX6_clockOf 8 = .ok (.aload_n 0, 1) := by decide +kernel
theorem dX6_clockOf_9 : decode cX6_clockOf 9 = .ok (.getfield 47, 3) := by decide +kernel
theorem dX6_clockOf_12 : decode cX6_clockOf 12 = .ok (.iload_n 1, 1) := by decide +kernel
theorem dX6_clockOf_13 : decode cX6_clockOf 13 = .ok (.iaload, 1) := by decide +kernel
theorem dX6_clockOf_14 : decode cX6_clockOf 14 = .ok (.iaload, 1) := by decide +kernel
theorem dX6_clockOf_15 : decode cX6_clockOf 15 = .ok (.iadd, 1) := by decide +kernel
theorem dX6_clockOf_16 : decode cX6_clockOf 16 = .ok (.ireturn, 1) := by decide +kernel
theorem dX6_countingOf_0 : decode cX6_countingOf 0 = .ok (.iconst (-1), 1) := by decide +kernel
theorem dX6_countingOf_1 : decode cX6_countingOf 1 = .ok (.istore_n 3, 1) := by decide +kernel
theorem dX6_countingOf_2 : decode cX6_countingOf 2 = .ok (.iconst 0, 1) := by decide +kernel
theorem dX6_countingOf_3 : decode cX6_countingOf 3 = .ok (.istore 4, 2) := by decide +kernel
theorem dX6_countingOf_5 : decode cX6_countingOf 5 = .ok (.iload 4, 2) := by decide +kernel
theorem dX6_countingOf_7 : decode cX6_countingOf 7 = .ok (.aload_n 0, 1) := by decide +kernel
theorem dX6_countingOf_8 : decode cX6_countingOf 8 = .ok (.getfield 22, 3) := by decide +kernel
theorem dX6_countingOf_11 : decode cX6_countingOf 11 = .ok (.if_icmp .ge 82, 3) := by decide +kernel
theorem dX6_countingOf_14 : decode cX6_countingOf 14 = .ok (.aload_n 0, 1) := by decide +kernel
theorem dX6_countingOf_15 : decode cX6_countingOf 15 = .ok (.getfield 81, 3) := by decide +kernel
theorem dX6_countingOf_18 : decode cX6_countingOf 18 = .ok (.iload 4, 2) := by decide +kernel
theorem dX6_countingOf_20 : decode cX6_countingOf 20 = .ok (.iaload, 1) := by decide +kernel
theorem dX6_countingOf_21 : decode cX6_countingOf 21 = .ok (.iconst 1, 1) := by decide +kernel
theorem dX6_countingOf_22 : decode cX6_countingOf 22 = .ok (.if_icmp .ne 29, 3) := by decide +kernel
theorem dX6_countingOf_25 : decode cX6_countingOf 25 = .ok (.aload_n 0, 1) := by decide +kernel
theorem dX6_countingOf_26 : decode cX6_countingOf 26 = .ok (.getfield 66, 3) := by decide +kernel
theorem dX6_countingOf_29 : decode cX6_countingOf 29 = .ok (.iload 4, 2) := by decide +kernel
theorem dX6_countingOf_31 : decode cX6_countingOf 31 = .ok (.iaload, 1) := by decide +kernel
theorem dX6_countingOf_32 : decode cX6_countingOf 32 = .ok (.iload_n 1, 1) := by decide +kernel
theorem dX6_countingOf_33 : decode cX6_countingOf 33 = .ok (.if_icmp .ne 18, 3) := by decide +kernel
theorem dX6_countingOf_36 : decode cX6_countingOf 36 = .ok (.aload_n 0, 1) := by decide +kernel
theorem dX6_countingOf_37 : decode cX6_countingOf 37 = .ok (.getfield 69, 3) := by decide +kernel
theorem dX6_countingOf_40 : decode cX6_countingOf 40 = .ok (.iload 4, 2) := by decide +kernel
theorem dX6_countingOf_42 : decode cX6_countingOf 42 = .ok (.iaload, 1) := by decide +kernel
theorem dX6_countingOf_43 : decode cX6_countingOf 43 = .ok (.iload_n 2, 1) := by decide +kernel
theorem dX6_countingOf_44 : decode cX6_countingOf 44 = .ok (.if_icmp .ne 7, 3) := by decide +kernel
theorem dX6_countingOf_47 : decode cX6_countingOf 47 = .ok (.iconst 1, 1) := by decide +kernel
theorem dX6_countingOf_48 : decode cX6_countingOf 48 = .ok (.goto 4, 3) := by decide +kernel
theorem dX6_countingOf_51 : decode cX6_countingOf 51 = .ok (.iconst 0, 1) := by decide +kernel
theorem dX6_countingOf_52 : decode cX6_countingOf 52 = .ok (.istore 5, 2) := by decide +kernel
theorem dX6_countingOf_54 : decode cX6_countingOf 54 = .ok (.iload 5, 2) := by decide +kernel
theorem dX6_countingOf_56 : decode cX6_countingOf 56 = .ok (.ifCond .eq 29, 3) := by decide +kernel
theorem dX6_countingOf_59 : decode cX6_countingOf 59 = .ok (.iload_n 3, 1) := by decide +kernel
theorem dX6_countingOf_60 : decode cX6_countingOf 60 = .ok (.iconst (-1), 1) := by decide +kernel
theorem dX6_countingOf_61 : decode cX6_countingOf 61 = .ok (.if_icmp .eq 19, 3) := by decide +kernel
theorem dX6_countingOf_64 : decode cX6_countingOf 64 = .ok (.aload_n 0, 1) := by decide +kernel
theorem dX6_countingOf_65 : decode cX6_countingOf 65 = .ok (.getfield 87, 3) := by decide +kernel
theorem dX6_countingOf_68 : decode cX6_countingOf 68 = .ok (.iload 4, 2) := by decide +kernel
theorem dX6_countingOf_70 : decode cX6_countingOf 70 = .ok (.iaload, 1) := by decide +kernel
theorem dX6_countingOf_71 : decode cX6_countingOf 71 = .ok (.aload_n 0, 1) := by decide +kernel
theorem dX6_countingOf_72 : decode cX6_countingOf 72 = .ok (.getfield 87, 3) := by decide +kernel
theorem dX6_countingOf_75 : decode cX6_countingOf 75 = .ok (.iload_n 3, 1) := by decide +kernel
theorem dX6_countingOf_76 : decode cX6_countingOf 76 = .ok (.iaload, 1) := by decide +kernel
theorem dX6_countingOf_77 : decode cX6_countingOf 77 = .ok (.if_icmp .le 8, 3) := by decide +kernel
theorem dX6_countingOf_80 : decode cX6_countingOf 80 = .ok (.iload 4, 2) := by decide +kernel
theorem dX6_countingOf_82 : decode cX6_countingOf 82 = .ok (.goto 4, 3) := by decide +kernel
theorem dX6_countingOf_85 : decode cX6_countingOf 85 = .ok (.iload_n 3, 1) := by decide +kernel
theorem dX6_countingOf_86 : decode cX6_countingOf 86 = .ok (.istore_n 3, 1) := by decide +kernel
theorem dX6_countingOf_87 : decode cX6_countingOf 87 = .ok (.iinc 4 1, 3) := by decide +kernel
theorem dX6_countingOf_90 : decode cX6_countingOf 90 = .ok (.goto (-85), 3) := by decide +kernel
theorem dX6_countingOf_93 : decode cX6_countingOf 93 = .ok (.iload_n 3, 1) := by decide +kernel
theorem dX6_countingOf_94 : decode cX6_countingOf 94 = .ok (.ireturn, 1) := by decide +kernel
set_option maxRecDepth 20000 in
theorem ggX6_withdraw_X6_isVersion : GoodIn wsX6_withdraw wsX6_isVersion := goodIn_r _ [10, 11, 12, 13, 9, 14, 27, 28, 29, 30, 31, 32, 33, 34, 35, 36, 37, 38, 39, 40, 41, 42, 43, 44, 45, 46, 47, 48, 49, 50, 51, 52, 53, 54, 55, 56, 57, 58, 59, 60, 61] (by decide +kernel) (by decide +kernel)
set_option maxRecDepth 20000 in
theorem gX6_withdraw_X6_isVersion : GoodIn wsX6_withdraw (wsV RX6 165 RX6 yX6_isVersion wsX6_isVersion) := goodIn_app (goodIn_of _ (by decide +kernel)) ggX6_withdraw_X6_isVersion
set_option maxRecDepth 20000 in
theorem ggX6_withdraw_X6_clockOf : GoodIn wsX6_withdraw wsX6_clockOf := goodIn_ca (goodIn_r _ [18, 19, 20, 21, 27, 28, 29, 30, 31, 32, 33, 34, 35, 36, 37, 38, 39, 40, 41, 42, 43, 44, 45, 46, 47, 48, 49, 50, 51, 52, 53, 54, 55, 56, 57, 58, 59, 60, 61] (by decide +kernel) (by decide +kernel)) (goodIn_sub (fun _ h => List.mem_cons_of_mem _ (List.mem_append_right _ h)) (by decide +kernel))
set_option maxRecDepth 20000 in
theorem gX6_withdraw_X6_clockOf : GoodIn wsX6_withdraw (wsV RX6 182 RX6 yX6_clockOf wsX6_clockOf) := goodIn_app (goodIn_of _ (by decide +kernel)) ggX6_withdraw_X6_clockOf
set_option maxRecDepth 20000 in
theorem ggX6_withdraw_X6_countingOf : GoodIn wsX6_withdraw wsX6_countingOf := goodIn_ca (goodIn_r _ [25, 11, 1, 5, 2, 26, 27, 28, 29, 30, 31, 32, 33, 34, 35, 36, 37, 38, 39, 40, 41, 42, 43, 44, 45, 46, 47, 48, 49, 50, 51, 52, 53, 54, 55, 56, 57, 58, 59, 60, 61] (by decide +kernel) (by decide +kernel)) (goodIn_sub (fun _ h => List.mem_cons_of_mem _ (List.mem_append_right _ h)) (by decide +kernel))
set_option maxRecDepth 20000 in
theorem gX6_withdraw_X6_countingOf : GoodIn wsX6_withdraw (wsV RX6 185 RX6 yX6_countingOf wsX6_countingOf) := goodIn_app (goodIn_of _ (by decide +kernel)) ggX6_withdraw_X6_countingOf
theorem dX6_withdraw_0 : decode cX6_withdraw 0 = .ok (.aload_n 0, 1) := by decide +kernel
theorem dX6_withdraw_1 : decode cX6_withdraw 1 = .ok (.aload_n 0, 1) := by decide +kernel
theorem dX6_withdraw_2 : decode cX6_withdraw 2 = .ok (.iload_n 1, 1) := by decide +kernel
theorem dX6_withdraw_3 : decode cX6_withdraw 3 = .ok (.invokevirtual 165, 3) := by decide +kernel
theorem dX6_withdraw_6 : decode cX6_withdraw 6 = .ok (.ifCond .ne 7, 3) := by decide +kernel
theorem dX6_withdraw_9 : decode cX6_withdraw 9 = .ok (.iconst 1, 1) := by decide +kernel
theorem dX6_withdraw_10 : decode cX6_withdraw 10 = .ok (.goto 42, 3) := by decide +kernel
theorem dX6_withdraw_13 : decode cX6_withdraw 13 = .ok (.aload_n 0, 1) := by decide +kernel
theorem dX6_withdraw_14 : decode cX6_withdraw 14 = .ok (.getfield 81, 3) := by decide +kernel
theorem dX6_withdraw_17 : decode cX6_withdraw 17 = .ok (.iload_n 1, 1) := by decide +kernel
theorem dX6_withdraw_18 : decode cX6_withdraw 18 = .ok (.iaload, 1) := by decide +kernel
theorem dX6_withdraw_19 : decode cX6_withdraw 19 = .ok (.iconst 1, 1) := by decide +kernel
theorem dX6_withdraw_20 : decode cX6_withdraw 20 = .ok (.if_icmp .ne 27, 3) := by decide +kernel
theorem dX6_withdraw_23 : decode cX6_withdraw 23 = .ok (.aload_n 0, 1) := by decide +kernel
theorem dX6_withdraw_24 : decode cX6_withdraw 24 = .ok (.aload_n 0, 1) := by decide +kernel
theorem dX6_withdraw_25 : decode cX6_withdraw 25 = .ok (.getfield 69, 3) := by decide +kernel
theorem dX6_withdraw_28 : decode cX6_withdraw 28 = .ok (.iload_n 1, 1) := by decide +kernel
theorem dX6_withdraw_29 : decode cX6_withdraw 29 = .ok (.iaload, 1) := by decide +kernel
theorem dX6_withdraw_30 : decode cX6_withdraw 30 = .ok (.invokevirtual 182, 3) := by decide +kernel
theorem dX6_withdraw_33 : decode cX6_withdraw 33 = .ok (.aload_n 0, 1) := by decide +kernel
theorem dX6_withdraw_34 : decode cX6_withdraw 34 = .ok (.getfield 50, 3) := by decide +kernel
theorem dX6_withdraw_37 : decode cX6_withdraw 37 = .ok (.aload_n 0, 1) := by decide +kernel
theorem dX6_withdraw_38 : decode cX6_withdraw 38 = .ok (.getfield 69, 3) := by decide +kernel
theorem dX6_withdraw_41 : decode cX6_withdraw 41 = .ok (.iload_n 1, 1) := by decide +kernel
theorem dX6_withdraw_42 : decode cX6_withdraw 42 = .ok (.iaload, 1) := by decide +kernel
theorem dX6_withdraw_43 : decode cX6_withdraw 43 = .ok (.iaload, 1) := by decide +kernel
theorem dX6_withdraw_44 : decode cX6_withdraw 44 = .ok (.if_icmp .le 7, 3) := by decide +kernel
theorem dX6_withdraw_47 : decode cX6_withdraw 47 = .ok (.iconst 2, 1) := by decide +kernel
theorem dX6_withdraw_48 : decode cX6_withdraw 48 = .ok (.goto 4, 3) := by decide +kernel
theorem dX6_withdraw_51 : decode cX6_withdraw 51 = .ok (.iconst 0, 1) := by decide +kernel
theorem dX6_withdraw_52 : decode cX6_withdraw 52 = .ok (.putfield 37, 3) := by decide +kernel
theorem dX6_withdraw_55 : decode cX6_withdraw 55 = .ok (.aload_n 0, 1) := by decide +kernel
theorem dX6_withdraw_56 : decode cX6_withdraw 56 = .ok (.getfield 37, 3) := by decide +kernel
theorem dX6_withdraw_59 : decode cX6_withdraw 59 = .ok (.ifCond .le 5, 3) := by decide +kernel
theorem dX6_withdraw_62 : decode cX6_withdraw 62 = .ok (.iconst 0, 1) := by decide +kernel
theorem dX6_withdraw_63 : decode cX6_withdraw 63 = .ok (.ireturn, 1) := by decide +kernel
theorem dX6_withdraw_64 : decode cX6_withdraw 64 = .ok (.aload_n 0, 1) := by decide +kernel
theorem dX6_withdraw_65 : decode cX6_withdraw 65 = .ok (.getfield 81, 3) := by decide +kernel
theorem dX6_withdraw_68 : decode cX6_withdraw 68 = .ok (.iload_n 1, 1) := by decide +kernel
theorem dX6_withdraw_69 : decode cX6_withdraw 69 = .ok (.iconst 2, 1) := by decide +kernel
theorem dX6_withdraw_70 : decode cX6_withdraw 70 = .ok (.iastore, 1) := by decide +kernel
theorem dX6_withdraw_71 : decode cX6_withdraw 71 = .ok (.aload_n 0, 1) := by decide +kernel
theorem dX6_withdraw_72 : decode cX6_withdraw 72 = .ok (.aload_n 0, 1) := by decide +kernel
theorem dX6_withdraw_73 : decode cX6_withdraw 73 = .ok (.getfield 66, 3) := by decide +kernel
theorem dX6_withdraw_76 : decode cX6_withdraw 76 = .ok (.iload_n 1, 1) := by decide +kernel
theorem dX6_withdraw_77 : decode cX6_withdraw 77 = .ok (.iaload, 1) := by decide +kernel
theorem dX6_withdraw_78 : decode cX6_withdraw 78 = .ok (.aload_n 0, 1) := by decide +kernel
theorem dX6_withdraw_79 : decode cX6_withdraw 79 = .ok (.getfield 69, 3) := by decide +kernel
theorem dX6_withdraw_82 : decode cX6_withdraw 82 = .ok (.iload_n 1, 1) := by decide +kernel
theorem dX6_withdraw_83 : decode cX6_withdraw 83 = .ok (.iaload, 1) := by decide +kernel
theorem dX6_withdraw_84 : decode cX6_withdraw 84 = .ok (.invokevirtual 185, 3) := by decide +kernel
theorem dX6_withdraw_87 : decode cX6_withdraw 87 = .ok (.iconst (-1), 1) := by decide +kernel
theorem dX6_withdraw_88 : decode cX6_withdraw 88 = .ok (.if_icmp .eq 7, 3) := by decide +kernel
theorem dX6_withdraw_91 : decode cX6_withdraw 91 = .ok (.iconst 1, 1) := by decide +kernel
theorem dX6_withdraw_92 : decode cX6_withdraw 92 = .ok (.goto 4, 3) := by decide +kernel
theorem dX6_withdraw_95 : decode cX6_withdraw 95 = .ok (.iconst 0, 1) := by decide +kernel
theorem dX6_withdraw_96 : decode cX6_withdraw 96 = .ok (.ireturn, 1) := by decide +kernel
set_option maxRecDepth 20000 in
theorem ggX6_isIn_X6_isVersion : GoodIn wsX6_isIn wsX6_isVersion := goodIn_r _ [7, 8, 9, 10, 6, 11, 12, 13, 14, 15, 16, 17, 18, 19, 20, 21, 22, 23, 24, 25, 26, 27, 28, 29, 30, 31, 32, 33, 34, 35, 36, 37, 38, 39, 40, 41, 42, 43, 44, 45, 46] (by decide +kernel) (by decide +kernel)
set_option maxRecDepth 20000 in
theorem gX6_isIn_X6_isVersion : GoodIn wsX6_isIn (wsV RX6 165 RX6 yX6_isVersion wsX6_isVersion) := goodIn_app (goodIn_of _ (by decide +kernel)) ggX6_isIn_X6_isVersion
theorem dX6_isIn_0 : decode cX6_isIn 0 = .ok (.aload_n 0, 1) := by decide +kernel
theorem dX6_isIn_1 : decode cX6_isIn 1 = .ok (.aload_n 0, 1) := by decide +kernel
theorem dX6_isIn_2 : decode cX6_isIn 2 = .ok (.iload_n 1, 1) := by decide +kernel
theorem dX6_isIn_3 : decode cX6_isIn 3 = .ok (.invokevirtual 165, 3) := by decide +kernel
theorem dX6_isIn_6 : decode cX6_isIn 6 = .ok (.ifCond .eq 7, 3) := by decide +kernel
theorem dX6_isIn_9 : decode cX6_isIn 9 = .ok (.iconst 0, 1) := by decide +kernel
theorem dX6_isIn_10 : decode cX6_isIn 10 = .ok (.goto 4, 3) := by decide +kernel
theorem dX6_isIn_13 : decode cX6_isIn 13 = .ok (.iconst 1, 1) := by decide +kernel
theorem dX6_isIn_14 : decode cX6_isIn 14 = .ok (.putfield 37, 3) := by decide +kernel
theorem dX6_isIn_17 : decode cX6_isIn 17 = .ok (.aload_n 0, 1) := by decide +kernel
theorem dX6_isIn_18 : decode cX6_isIn 18 = .ok (.getfield 37, 3) := by decide +kernel
theorem dX6_isIn_21 : decode cX6_isIn 21 = .ok (.ifCond .ne 17, 3) := by decide +kernel
theorem dX6_isIn_24 : decode cX6_isIn 24 = .ok (.aload_n 0, 1) := by decide +kernel
theorem dX6_isIn_25 : decode cX6_isIn 25 = .ok (.getfield 81, 3) := by decide +kernel
theorem dX6_isIn_28 : decode cX6_isIn 28 = .ok (.iload_n 1, 1) := by decide +kernel
theorem dX6_isIn_29 : decode cX6_isIn 29 = .ok (.iaload, 1) := by decide +kernel
theorem dX6_isIn_30 : decode cX6_isIn 30 = .ok (.iconst 1, 1) := by decide +kernel
theorem dX6_isIn_31 : decode cX6_isIn 31 = .ok (.if_icmp .ne 7, 3) := by decide +kernel
theorem dX6_isIn_34 : decode cX6_isIn 34 = .ok (.iconst 1, 1) := by decide +kernel
theorem dX6_isIn_35 : decode cX6_isIn 35 = .ok (.goto 4, 3) := by decide +kernel
theorem dX6_isIn_38 : decode cX6_isIn 38 = .ok (.iconst 0, 1) := by decide +kernel
theorem dX6_isIn_39 : decode cX6_isIn 39 = .ok (.ireturn, 1) := by decide +kernel
set_option maxRecDepth 20000 in
theorem ggX6_ownLate_X6_greater : GoodIn wsX6_ownLate wsX6_greater := goodIn_r _ [9] (by decide +kernel) (by decide +kernel)
set_option maxRecDepth 20000 in
theorem gX6_ownLate_X6_greater : GoodIn wsX6_ownLate (va_wsS RX6 188 yX6_greater wsX6_greater) := goodIn_app (goodIn_of _ (by decide +kernel)) ggX6_ownLate_X6_greater
theorem dX6_ownLate_0 : decode cX6_ownLate 0 = .ok (.iconst 0, 1) := by decide +kernel
theorem dX6_ownLate_1 : decode cX6_ownLate 1 = .ok (.aload_n 0, 1) := by decide +kernel
theorem dX6_ownLate_2 : decode cX6_ownLate 2 = .ok (.getfield 84, 3) := by decide +kernel
theorem dX6_ownLate_5 : decode cX6_ownLate 5 = .ok (.iload_n 1, 1) := by decide +kernel
theorem dX6_ownLate_6 : decode cX6_ownLate 6 = .ok (.iaload, 1) := by decide +kernel
theorem dX6_ownLate_7 : decode cX6_ownLate 7 = .ok (.aload_n 0, 1) := by decide +kernel
theorem dX6_ownLate_8 : decode cX6_ownLate 8 = .ok (.getfield 40, 3) := by decide +kernel
theorem dX6_ownLate_11 : decode cX6_ownLate 11 = .ok (.aload_n 0, 1) := by decide +kernel
theorem dX6_ownLate_12 : decode cX6_ownLate 12 = .ok (.getfield 47, 3) := by decide +kernel
theorem dX6_ownLate_15 : decode cX6_ownLate 15 = .ok (.aload_n 0, 1) := by decide +kernel
theorem dX6_ownLate_16 : decode cX6_ownLate 16 = .ok (.getfield 69, 3) := by decide +kernel
theorem dX6_ownLate_19 : decode cX6_ownLate 19 = .ok (.iload_n 1, 1) := by decide +kernel
theorem dX6_ownLate_20 : decode cX6_ownLate 20 = .ok (.iaload, 1) := by decide +kernel
theorem dX6_ownLate_21 : decode cX6_ownLate 21 = .ok (.iaload, 1) := by decide +kernel
theorem dX6_ownLate_22 : decode cX6_ownLate 22 = .ok (.iaload, 1) := by decide +kernel
theorem dX6_ownLate_23 : decode cX6_ownLate 23 = .ok (.iadd, 1) := by decide +kernel
theorem dX6_ownLate_24 : decode cX6_ownLate 24 = .ok (.aload_n 0, 1) := by decide +kernel
theorem dX6_ownLate_25 : decode cX6_ownLate 25 = .ok (.getfield 50, 3) := by decide +kernel
theorem dX6_ownLate_28 : decode cX6_ownLate 28 = .ok (.aload_n 0, 1) := by decide +kernel
theorem dX6_ownLate_29 : decode cX6_ownLate 29 = .ok (.getfield 69, 3) := by decide +kernel
theorem dX6_ownLate_32 : decode cX6_ownLate 32 = .ok (.iload_n 1, 1) := by decide +kernel
theorem dX6_ownLate_33 : decode cX6_ownLate 33 = .ok (.iaload, 1) := by decide +kernel
theorem dX6_ownLate_34 : decode cX6_ownLate 34 = .ok (.iaload, 1) := by decide +kernel
theorem dX6_ownLate_35 : decode cX6_ownLate 35 = .ok (.isub, 1) := by decide +kernel
theorem dX6_ownLate_36 : decode cX6_ownLate 36 = .ok (.invokestatic 188, 3) := by decide +kernel
theorem dX6_ownLate_39 : decode cX6_ownLate 39 = .ok (.ireturn, 1) := by decide +kernel
set_option maxRecDepth 20000 in
theorem ggX6_lateOf_X6_ownLate : GoodIn wsX6_lateOf wsX6_ownLate := goodIn_ca (goodIn_r _ [8, 9, 10, 11, 12, 13, 14, 15, 7, 16, 25, 26, 27, 28, 29, 30, 31, 32, 33, 34, 35, 36, 37, 38, 39, 40, 41, 42, 43, 44, 45, 46, 47, 48, 49, 50, 51, 52, 53, 54, 55, 56, 57, 58, 59] (by decide +kernel) (by decide +kernel)) (goodIn_sub (fun _ h => List.mem_cons_of_mem _ (List.mem_append_right _ h)) (by decide +kernel))
set_option maxRecDepth 20000 in
theorem gX6_lateOf_X6_ownLate : GoodIn wsX6_lateOf (wsV RX6 191 RX6 yX6_ownLate wsX6_ownLate) := goodIn_app (goodIn_of _ (by decide +kernel)) ggX6_lateOf_X6_ownLate
set_option maxRecDepth 20000 in
theorem ggX6_lateOf_X6_common : GoodIn wsX6_lateOf wsX6_common := goodIn_ca (goodIn_r _ [20, 3, 21, 25, 26, 27, 28, 29, 30, 31, 32, 33, 34, 35, 36, 37, 38, 39, 40, 41, 42, 43, 44, 45, 46, 47, 48, 49, 50, 51, 52, 53, 54, 55, 56, 57, 58, 59] (by decide +kernel) (by decide +kernel)) (goodIn_sub (fun _ h => List.mem_cons_of_mem _ (List.mem_append_right _ h)) (by decide +kernel))
set_option maxRecDepth 20000 in
theorem gX6_lateOf_X6_common : GoodIn wsX6_lateOf (wsV RX6 179 RX6 yX6_common wsX6_common) := goodIn_app (goodIn_of _ (by decide +kernel)) ggX6_lateOf_X6_common
set_option maxRecDepth 20000 in
theorem ggX6_lateOf_X6_lesser : GoodIn wsX6_lateOf wsX6_lesser := goodIn_r _ [24] (by decide +kernel) (by decide +kernel)
set_option maxRecDepth 20000 in
theorem gX6_lateOf_X6_lesser : GoodIn wsX6_lateOf (va_wsS RX6 194 yX6_lesser wsX6_lesser) := goodIn_app (goodIn_of _ (by decide +kernel)) ggX6_lateOf_X6_lesser
theorem dX6_lateOf_0 : decode cX6_lateOf 0 = .ok (.aload_n 0, 1) := by decide +kernel
theorem dX6_lateOf_1 : decode cX6_lateOf 1 = .ok (.iload_n 1, 1) := by decide +kernel
theorem dX6_lateOf_2 : decode cX6_lateOf 2 = .ok (.invokevirtual 191, 3) := by decide +kernel
theorem dX6_lateOf_5 : decode cX6_lateOf 5 = .ok (.istore_n 2, 1) := by decide +kernel
theorem dX6_lateOf_6 : decode cX6_lateOf 6 = .ok (.aload_n 0, 1) := by decide +kernel
theorem dX6_lateOf_7 : decode cX6_lateOf 7 = .ok (.getfield 72, 3) := by decide +kernel
theorem dX6_lateOf_10 : decode cX6_lateOf 10 = .ok (.iload_n 1, 1) := by decide +kernel
theorem dX6_lateOf_11 : decode cX6_lateOf 11 = .ok (.iaload, 1) := by decide +kernel
theorem dX6_lateOf_12 : decode cX6_lateOf 12 = .ok (.istore_n 3, 1) := by decide +kernel
theorem dX6_lateOf_13 : decode cX6_lateOf 13 = .ok (.iload_n 3, 1) := by decide +kernel
theorem dX6_lateOf_14 : decode cX6_lateOf 14 = .ok (.iconst (-1), 1) := by decide +kernel
theorem dX6_lateOf_15 : decode cX6_lateOf 15 = .ok (.if_icmp .eq 50, 3) := by decide +kernel
theorem dX6_lateOf_18 : decode cX6_lateOf 18 = .ok (.aload_n 0, 1) := by decide +kernel
theorem dX6_lateOf_19 : decode cX6_lateOf 19 = .ok (.getfield 81, 3) := by decide +kernel
theorem dX6_lateOf_22 : decode cX6_lateOf 22 = .ok (.iload_n 3, 1) := by decide +kernel
theorem dX6_lateOf_23 : decode cX6_lateOf 23 = .ok (.iaload, 1) := by decide +kernel
theorem dX6_lateOf_24 : decode cX6_lateOf 24 = .ok (.iconst 1, 1) := by decide +kernel
theorem dX6_lateOf_25 : decode cX6_lateOf 25 = .ok (.if_icmp .ne 30, 3) := by decide +kernel
theorem dX6_lateOf_28 : decode cX6_lateOf 28 = .ok (.aload_n 0, 1) := by decide +kernel
theorem dX6_lateOf_29 : decode cX6_lateOf 29 = .ok (.iload_n 1, 1) := by decide +kernel
theorem dX6_lateOf_30 : decode cX6_lateOf 30 = .ok (.iload_n 3, 1) := by decide +kernel
theorem dX6_lateOf_31 : decode cX6_lateOf 31 = .ok (.invokevirtual 179, 3) := by decide +kernel
theorem dX6_lateOf_34 : decode cX6_lateOf 34 = .ok (.aload_n 0, 1) := by decide +kernel
theorem dX6_lateOf_35 : decode cX6_lateOf 35 = .ok (.getfield 99, 3) := by decide +kernel
theorem dX6_lateOf_38 : decode cX6_lateOf 38 = .ok (.iload_n 1, 1) := by decide +kernel
theorem dX6_lateOf_39 : decode cX6_lateOf 39 = .ok (.iaload, 1) := by decide +kernel
theorem dX6_lateOf_40 : decode cX6_lateOf 40 = .ok (.iconst 2, 1) := by decide +kernel
theorem dX6_lateOf_41 : decode cX6_lateOf 41 = .ok (.idiv, 1) := by decide +kernel
theorem dX6_lateOf_42 : decode cX6_lateOf 42 = .ok (.if_icmp .lt 13, 3) := by decide +kernel
theorem dX6_lateOf_45 : decode cX6_lateOf 45 = .ok (.iload_n 2, 1) := by decide +kernel
theorem dX6_lateOf_46 : decode cX6_lateOf 46 = .ok (.aload_n 0, 1) := by decide +kernel
theorem dX6_lateOf_47 : decode cX6_lateOf 47 = .ok (.iload_n 3, 1) := by decide +kernel
theorem dX6_lateOf_48 : decode cX6_lateOf 48 = .ok (.invokevirtual 191, 3) := by decide +kernel
theorem dX6_lateOf_51 : decode cX6_lateOf 51 = .ok (.invokestatic 194, 3) := by decide +kernel
theorem dX6_lateOf_54 : decode cX6_lateOf 54 = .ok (.istore_n 2, 1) := by decide +kernel
theorem dX6_lateOf_55 : decode cX6_lateOf 55 = .ok (.aload_n 0, 1) := by decide +kernel
theorem dX6_lateOf_56 : decode cX6_lateOf 56 = .ok (.getfield 72, 3) := by decide +kernel
theorem dX6_lateOf_59 : decode cX6_lateOf 59 = .ok (.iload_n 3, 1) := by decide +kernel
theorem dX6_lateOf_60 : decode cX6_lateOf 60 = .ok (.iaload, 1) := by decide +kernel
theorem dX6_lateOf_61 : decode cX6_lateOf 61 = .ok (.istore_n 3, 1) := by decide +kernel
theorem dX6_lateOf_62 : decode cX6_lateOf 62 = .ok (.goto (-49), 3) := by decide +kernel
theorem dX6_lateOf_65 : decode cX6_lateOf 65 = .ok (.iload_n 2, 1) := by decide +kernel
theorem dX6_lateOf_66 : decode cX6_lateOf 66 = .ok (.ireturn, 1) := by decide +kernel
set_option maxRecDepth 20000 in
theorem ggX6_late_X6_isVersion : GoodIn wsX6_late wsX6_isVersion := goodIn_r _ [6, 7, 8, 9, 5, 10, 46, 47, 48, 49, 50, 51, 52, 53, 54, 55, 56, 57, 58, 59, 60, 61, 62, 63, 64, 65, 66, 67, 68, 69, 70, 71, 72, 73, 74, 75, 76, 77, 78, 79, 80] (by decide +kernel) (by decide +kernel)
set_option maxRecDepth 20000 in
theorem gX6_late_X6_isVersion : GoodIn wsX6_late (wsV RX6 165 RX6 yX6_isVersion wsX6_isVersion) := goodIn_app (goodIn_of _ (by decide +kernel)) ggX6_late_X6_isVersion
set_option maxRecDepth 20000 in
theorem ggX6_late_X6_fails : GoodIn wsX6_late wsX6_fails := goodIn_r _ [14, 15, 46, 47, 48, 49, 50, 51, 52, 53, 54, 55, 56, 57, 58, 59, 60, 61, 62, 63, 64, 65, 66, 67, 68, 69, 70, 71, 72, 73, 74, 75, 76, 77, 78, 79, 80] (by decide +kernel) (by decide +kernel)
set_option maxRecDepth 20000 in
theorem gX6_late_X6_fails : GoodIn wsX6_late (wsV RX6 122 RX6 yX6_fails wsX6_fails) := goodIn_app (goodIn_of _ (by decide +kernel)) ggX6_late_X6_fails
set_option maxRecDepth 20000 in
theorem ggX6_late_X6_lateOf : GoodIn wsX6_late wsX6_lateOf := goodIn_ca (goodIn_r _ [19, 20, 1, 21, 22, 23, 24, 5, 25, 26, 27, 28, 29, 30, 31, 32, 33, 34, 35, 36, 37, 38, 39, 40, 41, 46, 47, 48, 49, 50, 51, 52, 53, 54, 55, 56, 57, 58, 59, 60, 61, 62, 63, 64, 65, 66, 67, 68, 69, 70, 71, 72, 73, 74, 75, 76, 77, 78, 79, 80] (by decide +kernel) (by decide +kernel)) (goodIn_sub (fun _ h => List.mem_cons_of_mem _ (List.mem_append_right _ h)) (by decide +kernel))
set_option maxRecDepth 20000 in
theorem gX6_late_X6_lateOf : GoodIn wsX6_late (wsV RX6 197 RX6 yX6_lateOf wsX6_lateOf) := goodIn_app (goodIn_of _ (by decide +kernel)) ggX6_late_X6_lateOf
set_option maxRecDepth 20000 in
theorem ggX6_late_X6_tells : GoodIn wsX6_late wsX6_tells := goodIn_r _ [45, 15, 46, 47, 48, 49, 50, 51, 52, 53, 54, 55, 56, 57, 58, 59, 60, 61, 62, 63, 64, 65, 66, 67, 68, 69, 70, 71, 72, 73, 74, 75, 76, 77, 78, 79, 80] (by decide +kernel) (by decide +kernel)
set_option maxRecDepth 20000 in
theorem gX6_late_X6_tells : GoodIn wsX6_late (wsV RX6 126 RX6 yX6_tells wsX6_tells) := goodIn_app (goodIn_of _ (by decide +kernel)) ggX6_late_X6_tells
theorem dX6_late_0 : decode cX6_late 0 = .ok (.aload_n 0, 1) := by decide +kernel
theorem dX6_late_1 : decode cX6_late 1 = .ok (.iload_n 1, 1) := by decide +kernel
theorem dX6_late_2 : decode cX6_late 2 = .ok (.invokevirtual 165, 3) := by decide +kernel
theorem dX6_late_5 : decode cX6_late 5 = .ok (.ifCond .ne 9, 3) := by decide +kernel
theorem dX6_late_8 : decode cX6_late 8 = .ok (.aload_n 0, 1) := by decide +kernel
theorem dX6_late_9 : decode cX6_late 9 = .ok (.iconst 1, 1) := by decide +kernel
theorem dX6_late_10 : decode cX6_late 10 = .ok (.invokevirtual 122, 3) := by decide +kernel
theorem dX6_late_13 : decode cX6_late 13 = .ok (.ireturn, 1) := by decide +kernel
theorem dX6_late_14 : decode cX6_late 14 = .ok (.aload_n 0, 1) := by decide +kernel
theorem dX6_late_15 : decode cX6_late 15 = .ok (.getfield 81, 3) := by decide +kernel
theorem dX6_late_18 : decode cX6_late 18 = .ok (.iload_n 1, 1) := by decide +kernel
theorem dX6_late_19 : decode cX6_late 19 = .ok (.iaload, 1) := by decide +kernel
theorem dX6_late_20 : decode cX6_late 20 = .ok (.iconst 1, 1) := by decide +kernel
theorem dX6_late_21 : decode cX6_late 21 = .ok (.if_icmp .ne 15, 3) := by decide +kernel
theorem dX6_late_24 : decode cX6_late 24 = .ok (.aload_n 0, 1) := by decide +kernel
theorem dX6_late_25 : decode cX6_late 25 = .ok (.aload_n 0, 1) := by decide +kernel
theorem dX6_late_26 : decode cX6_late 26 = .ok (.iload_n 1, 1) := by decide +kernel
theorem dX6_late_27 : decode cX6_late 27 = .ok (.invokevirtual 197, 3) := by decide +kernel
theorem dX6_late_30 : decode cX6_late 30 = .ok (.invokevirtual 126, 3) := by decide +kernel
theorem dX6_late_33 : decode cX6_late 33 = .ok (.goto 8, 3) := by decide +kernel
theorem dX6_late_36 : decode cX6_late 36 = .ok (.aload_n 0, 1) := by decide +kernel
theorem dX6_late_37 : decode cX6_late 37 = .ok (.iconst 2, 1) := by decide +kernel
theorem dX6_late_38 : decode cX6_late 38 = .ok (.invokevirtual 122, 3) := by decide +kernel
theorem dX6_late_41 : decode cX6_late 41 = .ok (.ireturn, 1) := by decide +kernel
set_option maxRecDepth 20000 in
theorem ggX6_offOf_X6_lesser : GoodIn wsX6_offOf wsX6_lesser := goodIn_r _ [6] (by decide +kernel) (by decide +kernel)
set_option maxRecDepth 20000 in
theorem gX6_offOf_X6_lesser : GoodIn wsX6_offOf (va_wsS RX6 194 yX6_lesser wsX6_lesser) := goodIn_app (goodIn_of _ (by decide +kernel)) ggX6_offOf_X6_lesser
theorem dX6_offOf_0 : decode cX6_offOf 0 = .ok (.aload_n 0, 1) := by decide +kernel
theorem dX6_offOf_1 : decode cX6_offOf 1 = .ok (.getfield 56, 3) := by decide +kernel
theorem dX6_offOf_4 : decode cX6_offOf 4 = .ok (.iload_n 1, 1) := by decide +kernel
theorem dX6_offOf_5 : decode cX6_offOf 5 = .ok (.iaload, 1) := by decide +kernel
theorem dX6_offOf_6 : decode cX6_offOf 6 = .ok (.istore_n 3, 1) := by decide +kernel
theorem dX6_offOf_7 : decode cX6_offOf 7 = .ok (.iload_n 2, 1) := by decide +kernel
theorem dX6_offOf_8 : decode cX6_offOf 8 = .ok (.ifCond .ne 5, 3) := by decide +kernel
theorem dX6_offOf_11 : decode cX6_offOf 11 = .ok (.iconst 0, 1) := by decide +kernel
theorem dX6_offOf_12 : decode cX6_offOf 12 = .ok (.ireturn, 1) := by decide +kernel
theorem dX6_offOf_13 : decode cX6_offOf 13 = .ok (.aload_n 0, 1) := by decide +kernel
theorem dX6_offOf_14 : decode cX6_offOf 14 = .ok (.getfield 59, 3) := by decide +kernel
theorem dX6_offOf_17 : decode cX6_offOf 17 = .ok (.iload_n 1, 1) := by decide +kernel
theorem dX6_offOf_18 : decode cX6_offOf 18 = .ok (.caload, 1) := by decide +kernel
theorem dX6_offOf_19 : decode cX6_offOf 19 = .ok (.tableswitch 67 100 104 #[43, 67, 67, 55, 33], 33) := by decide +kernel
theorem dX6_offOf_52 : decode cX6_offOf 52 = .ok (.iload_n 3, 1) := by decide +kernel
theorem dX6_offOf_53 : decode cX6_offOf 53 = .ok (.iload_n 2, 1) := by decide +kernel
theorem dX6_offOf_54 : decode cX6_offOf 54 = .ok (.bipush 59, 2) := by decide +kernel
theorem dX6_offOf_56 : decode cX6_offOf 56 = .ok (.iadd, 1) := by decide +kernel
theorem dX6_offOf_57 : decode cX6_offOf 57 = .ok (.bipush 60, 2) := by decide +kernel
theorem dX6_offOf_59 : decode cX6_offOf 59 = .ok (.idiv, 1) := by decide +kernel
theorem dX6_offOf_60 : decode cX6_offOf 60 = .ok (.imul, 1) := by decide +kernel
theorem dX6_offOf_61 : decode cX6_offOf 61 = .ok (.ireturn, 1) := by decide +kernel
theorem dX6_offOf_62 : decode cX6_offOf 62 = .ok (.iload_n 3, 1) := by decide +kernel
theorem dX6_offOf_63 : decode cX6_offOf 63 = .ok (.iload_n 2, 1) := by decide +kernel
theorem dX6_offOf_64 : decode cX6_offOf 64 = .ok (.sipush 1439, 3) := by decide +kernel
theorem dX6_offOf_67 : decode cX6_offOf 67 = .ok (.iadd, 1) := by decide +kernel
theorem dX6_offOf_68 : decode cX6_offOf 68 = .ok (.sipush 1440, 3) := by decide +kernel
theorem dX6_offOf_71 : decode cX6_offOf 71 = .ok (.idiv, 1) := by decide +kernel
theorem dX6_offOf_72 : decode cX6_offOf 72 = .ok (.imul, 1) := by decide +kernel
theorem dX6_offOf_73 : decode cX6_offOf 73 = .ok (.ireturn, 1) := by decide +kernel
theorem dX6_offOf_74 : decode cX6_offOf 74 = .ok (.iload_n 2, 1) := by decide +kernel
theorem dX6_offOf_75 : decode cX6_offOf 75 = .ok (.iload_n 3, 1) := by decide +kernel
theorem dX6_offOf_76 : decode cX6_offOf 76 = .ok (.if_icmp .le 8, 3) := by decide +kernel
theorem dX6_offOf_79 : decode cX6_offOf 79 = .ok (.bipush 10, 2) := by decide +kernel
theorem dX6_offOf_81 : decode cX6_offOf 81 = .ok (.goto 4, 3) := by decide +kernel
theorem dX6_offOf_84 : decode cX6_offOf 84 = .ok (.iconst 0, 1) := by decide +kernel
theorem dX6_offOf_85 : decode cX6_offOf 85 = .ok (.ireturn, 1) := by decide +kernel
theorem dX6_offOf_86 : decode cX6_offOf 86 = .ok (.iload_n 3, 1) := by decide +kernel
theorem dX6_offOf_87 : decode cX6_offOf 87 = .ok (.iconst 1, 1) := by decide +kernel
theorem dX6_offOf_88 : decode cX6_offOf 88 = .ok (.bipush 6, 2) := by decide +kernel
theorem dX6_offOf_90 : decode cX6_offOf 90 = .ok (.iload_n 2, 1) := by decide +kernel
theorem dX6_offOf_91 : decode cX6_offOf 91 = .ok (.bipush 60, 2) := by decide +kernel
theorem dX6_offOf_93 : decode cX6_offOf 93 = .ok (.idiv, 1) := by decide +kernel
theorem dX6_offOf_94 : decode cX6_offOf 94 = .ok (.invokestatic 194, 3) := by decide +kernel
theorem dX6_offOf_97 : decode cX6_offOf 97 = .ok (.ishl, 1) := by decide +kernel
theorem dX6_offOf_98 : decode cX6_offOf 98 = .ok (.imul, 1) := by decide +kernel
theorem dX6_offOf_99 : decode cX6_offOf 99 = .ok (.ireturn, 1) := by decide +kernel
set_option maxRecDepth 20000 in
theorem ggX6_off_X6_isTask : GoodIn wsX6_off wsX6_isTask := goodIn_r _ [6, 7, 8, 9, 5, 10, 29, 30, 31, 32, 33, 34, 35, 36, 37, 38, 39, 40, 41, 42, 43, 44, 45, 46, 47, 48, 49, 50, 51, 52, 53, 54, 55, 56, 57, 58, 59, 60, 61, 62, 63] (by decide +kernel) (by decide +kernel)
set_option maxRecDepth 20000 in
theorem gX6_off_X6_isTask : GoodIn wsX6_off (wsV RX6 162 RX6 yX6_isTask wsX6_isTask) := goodIn_app (goodIn_of _ (by decide +kernel)) ggX6_off_X6_isTask
set_option maxRecDepth 20000 in
theorem ggX6_off_X6_fails : GoodIn wsX6_off wsX6_fails := goodIn_r _ [14, 15, 29, 30, 31, 32, 33, 34, 35, 36, 37, 38, 39, 40, 41, 42, 43, 44, 45, 46, 47, 48, 49, 50, 51, 52, 53, 54, 55, 56, 57, 58, 59, 60, 61, 62, 63] (by decide +kernel) (by decide +kernel)
set_option maxRecDepth 20000 in
theorem gX6_off_X6_fails : GoodIn wsX6_off (wsV RX6 122 RX6 yX6_fails wsX6_fails) := goodIn_app (goodIn_of _ (by decide +kernel)) ggX6_off_X6_fails
set_option maxRecDepth 20000 in
theorem ggX6_off_X6_in : GoodIn wsX6_off wsX6_in := goodIn_r _ [10] (by decide +kernel) (by decide +kernel)
set_option maxRecDepth 20000 in
theorem gX6_off_X6_in : GoodIn wsX6_off (va_wsS RX6 118 yX6_in wsX6_in) := goodIn_app (goodIn_of _ (by decide +kernel)) ggX6_off_X6_in
set_option maxRecDepth 20000 in
theorem ggX6_off_X6_offOf : GoodIn wsX6_off wsX6_offOf := goodIn_ca (goodIn_r _ [19, 20, 21, 22, 23, 5, 24, 29, 30, 31, 32, 33, 34, 35, 36, 37, 38, 39, 40, 41, 42, 43, 44, 45, 46, 47, 48, 49, 50, 51, 52, 53, 54, 55, 56, 57, 58, 59, 60, 61, 62, 63] (by decide +kernel) (by decide +kernel)) (goodIn_sub (fun _ h => List.mem_cons_of_mem _ (List.mem_append_right _ h)) (by decide +kernel))
set_option maxRecDepth 20000 in
theorem gX6_off_X6_offOf : GoodIn wsX6_off (wsV RX6 200 RX6 yX6_offOf wsX6_offOf) := goodIn_app (goodIn_of _ (by decide +kernel)) ggX6_off_X6_offOf
set_option maxRecDepth 20000 in
theorem ggX6_off_X6_tells : GoodIn wsX6_off wsX6_tells := goodIn_r _ [28, 15, 29, 30, 31, 32, 33, 34, 35, 36, 37, 38, 39, 40, 41, 42, 43, 44, 45, 46, 47, 48, 49, 50, 51, 52, 53, 54, 55, 56, 57, 58, 59, 60, 61, 62, 63] (by decide +kernel) (by decide +kernel)
set_option maxRecDepth 20000 in
theorem gX6_off_X6_tells : GoodIn wsX6_off (wsV RX6 126 RX6 yX6_tells wsX6_tells) := goodIn_app (goodIn_of _ (by decide +kernel)) ggX6_off_X6_tells
theorem dX6_off_0 : decode cX6_off 0 = .ok (.aload_n 0, 1) := by decide +kernel
theorem dX6_off_1 : decode cX6_off 1 = .ok (.iload_n 1, 1) := by decide +kernel
theorem dX6_off_2 : decode cX6_off 2 = .ok (.invokevirtual 162, 3) := by decide +kernel
theorem dX6_off_5 : decode cX6_off 5 = .ok (.ifCond .ne 9, 3) := by decide +kernel
theorem dX6_off_8 : decode cX6_off 8 = .ok (.aload_n 0, 1) := by decide +kernel
theorem dX6_off_9 : decode cX6_off 9 = .ok (.iconst 1, 1) := by decide +kernel
theorem dX6_off_10 : decode cX6_off 10 = .ok (.invokevirtual 122, 3) := by decide +kernel
theorem dX6_off_13 : decode cX6_off 13 = .ok (.ireturn, 1) := by decide +kernel
theorem dX6_off_14 : decode cX6_off 14 = .ok (.iload_n 2, 1) := by decide +kernel
theorem dX6_off_15 : decode cX6_off 15 = .ok (.iconst 0, 1) := by decide +kernel
theorem dX6_off_16 : decode cX6_off 16 = .ok (.ldc 133, 2) := by decide +kernel
theorem dX6_off_18 : decode cX6_off 18 = .ok (.invokestatic 118, 3) := by decide +kernel
theorem dX6_off_21 : decode cX6_off 21 = .ok (.ifCond .eq 16, 3) := by decide +kernel
theorem dX6_off_24 : decode cX6_off 24 = .ok (.aload_n 0, 1) := by decide +kernel
theorem dX6_off_25 : decode cX6_off 25 = .ok (.aload_n 0, 1) := by decide +kernel
theorem dX6_off_26 : decode cX6_off 26 = .ok (.iload_n 1, 1) := by decide +kernel
theorem dX6_off_27 : decode cX6_off 27 = .ok (.iload_n 2, 1) := by decide +kernel
theorem dX6_off_28 : decode cX6_off 28 = .ok (.invokevirtual 200, 3) := by decide +kernel
theorem dX6_off_31 : decode cX6_off 31 = .ok (.invokevirtual 126, 3) := by decide +kernel
theorem dX6_off_34 : decode cX6_off 34 = .ok (.goto 8, 3) := by decide +kernel
theorem dX6_off_37 : decode cX6_off 37 = .ok (.aload_n 0, 1) := by decide +kernel
theorem dX6_off_38 : decode cX6_off 38 = .ok (.iconst 2, 1) := by decide +kernel
theorem dX6_off_39 : decode cX6_off 39 = .ok (.invokevirtual 122, 3) := by decide +kernel
theorem dX6_off_42 : decode cX6_off 42 = .ok (.ireturn, 1) := by decide +kernel
set_option maxRecDepth 20000 in
theorem ggX6_points_X6_isVersion : GoodIn wsX6_points wsX6_isVersion := goodIn_r _ [6, 7, 8, 9, 5, 10, 20, 21, 22, 23, 24, 25, 26, 27, 28, 29, 30, 31, 32, 33, 34, 35, 36, 37, 38, 39, 40, 41, 42, 43, 44, 45, 46, 47, 48, 49, 50, 51, 52, 53, 54] (by decide +kernel) (by decide +kernel)
set_option maxRecDepth 20000 in
theorem gX6_points_X6_isVersion : GoodIn wsX6_points (wsV RX6 165 RX6 yX6_isVersion wsX6_isVersion) := goodIn_app (goodIn_of _ (by decide +kernel)) ggX6_points_X6_isVersion
set_option maxRecDepth 20000 in
theorem ggX6_points_X6_fails : GoodIn wsX6_points wsX6_fails := goodIn_r _ [14, 15, 20, 21, 22, 23, 24, 25, 26, 27, 28, 29, 30, 31, 32, 33, 34, 35, 36, 37, 38, 39, 40, 41, 42, 43, 44, 45, 46, 47, 48, 49, 50, 51, 52, 53, 54] (by decide +kernel) (by decide +kernel)
set_option maxRecDepth 20000 in
theorem gX6_points_X6_fails : GoodIn wsX6_points (wsV RX6 122 RX6 yX6_fails wsX6_fails) := goodIn_app (goodIn_of _ (by decide +kernel)) ggX6_points_X6_fails
set_option maxRecDepth 20000 in
theorem ggX6_points_X6_in : GoodIn wsX6_points wsX6_in := goodIn_r _ [10] (by decide +kernel) (by decide +kernel)
set_option maxRecDepth 20000 in
theorem gX6_points_X6_in : GoodIn wsX6_points (va_wsS RX6 118 yX6_in wsX6_in) := goodIn_app (goodIn_of _ (by decide +kernel)) ggX6_points_X6_in
set_option maxRecDepth 20000 in
theorem ggX6_points_X6_tells : GoodIn wsX6_points wsX6_tells := goodIn_r _ [19, 15, 20, 21, 22, 23, 24, 25, 26, 27, 28, 29, 30, 31, 32, 33, 34, 35, 36, 37, 38, 39, 40, 41, 42, 43, 44, 45, 46, 47, 48, 49, 50, 51, 52, 53, 54] (by decide +kernel) (by decide +kernel)
set_option maxRecDepth 20000 in
theorem gX6_points_X6_tells : GoodIn wsX6_points (wsV RX6 126 RX6 yX6_tells wsX6_tells) := goodIn_app (goodIn_of _ (by decide +kernel)) ggX6_points_X6_tells
theorem dX6_points_0 : decode cX6_points 0 = .ok (.aload_n 0, 1) := by decide +kernel
theorem dX6_points_1 : decode cX6_points 1 = .ok (.iload_n 1, 1) := by decide +kernel
theorem dX6_points_2 : decode cX6_points 2 = .ok (.invokevirtual 165, 3) := by decide +kernel
theorem dX6_points_5 : decode cX6_points 5 = .ok (.ifCond .ne 9, 3) := by decide +kernel
theorem dX6_points_8 : decode cX6_points 8 = .ok (.aload_n 0, 1) := by decide +kernel
theorem dX6_points_9 : decode cX6_points 9 = .ok (.iconst 1, 1) := by decide +kernel
theorem dX6_points_10 : decode cX6_points 10 = .ok (.invokevirtual 122, 3) := by decide +kernel
theorem dX6_points_13 : decode cX6_points 13 = .ok (.ireturn, 1) := by decide +kernel
theorem dX6_points_14 : decode cX6_points 14 = .ok (.iload_n 2, 1) := by decide +kernel
theorem dX6_points_15 : decode cX6_points 15 = .ok (.iconst 0, 1) := by decide +kernel
theorem dX6_points_16 : decode cX6_points 16 = .ok (.bipush 100, 2) := by decide +kernel
theorem dX6_points_18 : decode cX6_points 18 = .ok (.invokestatic 118, 3) := by decide +kernel
theorem dX6_points_21 : decode cX6_points 21 = .ok (.ifCond .ne 9, 3) := by decide +kernel
theorem dX6_points_24 : decode cX6_points 24 = .ok (.aload_n 0, 1) := by decide +kernel
theorem dX6_points_25 : decode cX6_points 25 = .ok (.iconst 2, 1) := by decide +kernel
theorem dX6_points_26 : decode cX6_points 26 = .ok (.invokevirtual 122, 3) := by decide +kernel
theorem dX6_points_29 : decode cX6_points 29 = .ok (.ireturn, 1) := by decide +kernel
theorem dX6_points_30 : decode cX6_points 30 = .ok (.aload_n 0, 1) := by decide +kernel
theorem dX6_points_31 : decode cX6_points 31 = .ok (.getfield 90, 3) := by decide +kernel
theorem dX6_points_34 : decode cX6_points 34 = .ok (.iload_n 1, 1) := by decide +kernel
theorem dX6_points_35 : decode cX6_points 35 = .ok (.iaload, 1) := by decide +kernel
theorem dX6_points_36 : decode cX6_points 36 = .ok (.istore_n 3, 1) := by decide +kernel
theorem dX6_points_37 : decode cX6_points 37 = .ok (.aload_n 0, 1) := by decide +kernel
theorem dX6_points_38 : decode cX6_points 38 = .ok (.getfield 90, 3) := by decide +kernel
theorem dX6_points_41 : decode cX6_points 41 = .ok (.iload_n 1, 1) := by decide +kernel
theorem dX6_points_42 : decode cX6_points 42 = .ok (.iload_n 2, 1) := by decide +kernel
theorem dX6_points_43 : decode cX6_points 43 = .ok (.iastore, 1) := by decide +kernel
theorem dX6_points_44 : decode cX6_points 44 = .ok (.aload_n 0, 1) := by decide +kernel
theorem dX6_points_45 : decode cX6_points 45 = .ok (.iload_n 3, 1) := by decide +kernel
theorem dX6_points_46 : decode cX6_points 46 = .ok (.invokevirtual 126, 3) := by decide +kernel
theorem dX6_points_49 : decode cX6_points 49 = .ok (.ireturn, 1) := by decide +kernel
set_option maxRecDepth 20000 in
theorem ggX6_counting_X6_isPupil : GoodIn wsX6_counting wsX6_isPupil := goodIn_r _ [5, 6, 7, 8, 4, 9, 33, 34, 35, 36, 37, 38, 39, 40, 41, 42, 43, 44, 45, 46, 47, 48, 49, 50, 51, 52, 53, 54, 55, 56, 57, 58, 59, 60, 61, 62, 63, 64, 65, 66, 67] (by decide +kernel) (by decide +kernel)
set_option maxRecDepth 20000 in
theorem gX6_counting_X6_isPupil : GoodIn wsX6_counting (wsV RX6 159 RX6 yX6_isPupil wsX6_isPupil) := goodIn_app (goodIn_of _ (by decide +kernel)) ggX6_counting_X6_isPupil
set_option maxRecDepth 20000 in
theorem ggX6_counting_X6_isTask : GoodIn wsX6_counting wsX6_isTask := goodIn_r _ [13, 14, 7, 8, 4, 9, 33, 34, 35, 36, 37, 38, 39, 40, 41, 42, 43, 44, 45, 46, 47, 48, 49, 50, 51, 52, 53, 54, 55, 56, 57, 58, 59, 60, 61, 62, 63, 64, 65, 66, 67] (by decide +kernel) (by decide +kernel)
set_option maxRecDepth 20000 in
theorem gX6_counting_X6_isTask : GoodIn wsX6_counting (wsV RX6 162 RX6 yX6_isTask wsX6_isTask) := goodIn_app (goodIn_of _ (by decide +kernel)) ggX6_counting_X6_isTask
set_option maxRecDepth 20000 in
theorem ggX6_counting_X6_fails : GoodIn wsX6_counting wsX6_fails := goodIn_r _ [18, 19, 33, 34, 35, 36, 37, 38, 39, 40, 41, 42, 43, 44, 45, 46, 47, 48, 49, 50, 51, 52, 53, 54, 55, 56, 57, 58, 59, 60, 61, 62, 63, 64, 65, 66, 67] (by decide +kernel) (by decide +kernel)
set_option maxRecDepth 20000 in
theorem gX6_counting_X6_fails : GoodIn wsX6_counting (wsV RX6 122 RX6 yX6_fails wsX6_fails) := goodIn_app (goodIn_of _ (by decide +kernel)) ggX6_counting_X6_fails
set_option maxRecDepth 20000 in
theorem ggX6_counting_X6_countingOf : GoodIn wsX6_counting wsX6_countingOf := goodIn_ca (goodIn_r _ [23, 24, 25, 26, 27, 28, 33, 34, 35, 36, 37, 38, 39, 40, 41, 42, 43, 44, 45, 46, 47, 48, 49, 50, 51, 52, 53, 54, 55, 56, 57, 58, 59, 60, 61, 62, 63, 64, 65, 66, 67] (by decide +kernel) (by decide +kernel)) (goodIn_sub (fun _ h => List.mem_cons_of_mem _ (List.mem_append_right _ h)) (by decide +kernel))
set_option maxRecDepth 20000 in
theorem gX6_counting_X6_countingOf : GoodIn wsX6_counting (wsV RX6 185 RX6 yX6_countingOf wsX6_countingOf) := goodIn_app (goodIn_of _ (by decide +kernel)) ggX6_counting_X6_countingOf
set_option maxRecDepth 20000 in
theorem ggX6_counting_X6_tells : GoodIn wsX6_counting wsX6_tells := goodIn_r _ [32, 19, 33, 34, 35, 36, 37, 38, 39, 40, 41, 42, 43, 44, 45, 46, 47, 48, 49, 50, 51, 52, 53, 54, 55, 56, 57, 58, 59, 60, 61, 62, 63, 64, 65, 66, 67] (by decide +kernel) (by decide +kernel)
set_option maxRecDepth 20000 in
theorem gX6_counting_X6_tells : GoodIn wsX6_counting (wsV RX6 126 RX6 yX6_tells wsX6_tells) := goodIn_app (goodIn_of _ (by decide +kernel)) ggX6_counting_X6_tells
theorem dX6_counting_0 : decode cX6_counting 0 = .ok (.aload_n 0, 1) := by decide +kernel
theorem dX6_counting_1 : decode cX6_counting 1 = .ok (.iload_n 1, 1) := by decide +kernel
theorem dX6_counting_2 : decode cX6_counting 2 = .ok (.invokevirtual 159, 3) := by decide +kernel
theorem dX6_counting_5 : decode cX6_counting 5 = .ok (.ifCond .eq 11, 3) := by decide +kernel
theorem dX6_counting_8 : decode cX6_counting 8 = .ok (.aload_n 0, 1) := by decide +kernel
theorem dX6_counting_9 : decode cX6_counting 9 = .ok (.iload_n 2, 1) := by decide +kernel
theorem dX6_counting_10 : decode cX6_counting 10 = .ok (.invokevirtual 162, 3) := by decide +kernel
theorem dX6_counting_13 : decode cX6_counting 13 = .ok (.ifCond .ne 9, 3) := by decide +kernel
theorem dX6_counting_16 : decode cX6_counting 16 = .ok (.aload_n 0, 1) := by decide +kernel
theorem dX6_counting_17 : decode cX6_counting 17 = .ok (.iconst 1, 1) := by decide +kernel
theorem dX6_counting_18 : decode cX6_counting 18 = .ok (.invokevirtual 122, 3) := by decide +kernel
theorem dX6_counting_21 : decode cX6_counting 21 = .ok (.ireturn, 1) := by decide +kernel
theorem dX6_counting_22 : decode cX6_counting 22 = .ok (.aload_n 0, 1) := by decide +kernel
theorem dX6_counting_23 : decode cX6_counting 23 = .ok (.iload_n 1, 1) := by decide +kernel
theorem dX6_counting_24 : decode cX6_counting 24 = .ok (.iload_n 2, 1) := by decide +kernel
theorem dX6_counting_25 : decode cX6_counting 25 = .ok (.invokevirtual 185, 3) := by decide +kernel
theorem dX6_counting_28 : decode cX6_counting 28 = .ok (.istore_n 3, 1) := by decide +kernel
theorem dX6_counting_29 : decode cX6_counting 29 = .ok (.iload_n 3, 1) := by decide +kernel
theorem dX6_counting_30 : decode cX6_counting 30 = .ok (.iconst (-1), 1) := by decide +kernel
theorem dX6_counting_31 : decode cX6_counting 31 = .ok (.if_icmp .ne 11, 3) := by decide +kernel
theorem dX6_counting_34 : decode cX6_counting 34 = .ok (.aload_n 0, 1) := by decide +kernel
theorem dX6_counting_35 : decode cX6_counting 35 = .ok (.iconst 2, 1) := by decide +kernel
theorem dX6_counting_36 : decode cX6_counting 36 = .ok (.invokevirtual 122, 3) := by decide +kernel
theorem dX6_counting_39 : decode cX6_counting 39 = .ok (.goto 8, 3) := by decide +kernel
theorem dX6_counting_42 : decode cX6_counting 42 = .ok (.aload_n 0, 1) := by decide +kernel
theorem dX6_counting_43 : decode cX6_counting 43 = .ok (.iload_n 3, 1) := by decide +kernel
theorem dX6_counting_44 : decode cX6_counting 44 = .ok (.invokevirtual 126, 3) := by decide +kernel
theorem dX6_counting_47 : decode cX6_counting 47 = .ok (.ireturn, 1) := by decide +kernel
theorem dX6_isFrozenOf_0 : decode cX6_isFrozenOf 0 = .ok (.iconst 0, 1) := by decide +kernel
theorem dX6_isFrozenOf_1 : decode cX6_isFrozenOf 1 = .ok (.istore_n 3, 1) := by decide +kernel
theorem dX6_isFrozenOf_2 : decode cX6_isFrozenOf 2 = .ok (.iconst 0, 1) := by decide +kernel
theorem dX6_isFrozenOf_3 : decode cX6_isFrozenOf 3 = .ok (.istore 4, 2) := by decide +kernel
theorem dX6_isFrozenOf_5 : decode cX6_isFrozenOf 5 = .ok (.iload 4, 2) := by decide +kernel
theorem dX6_isFrozenOf_7 : decode cX6_isFrozenOf 7 = .ok (.aload_n 0, 1) := by decide +kernel
theorem dX6_isFrozenOf_8 : decode cX6_isFrozenOf 8 = .ok (.getfield 28, 3) := by decide +kernel
theorem dX6_isFrozenOf_11 : decode cX6_isFrozenOf 11 = .ok (.if_icmp .ge 118, 3) := by decide +kernel
theorem dX6_isFrozenOf_14 : decode cX6_isFrozenOf 14 = .ok (.aload_n 0, 1) := by decide +kernel
theorem dX6_isFrozenOf_15 : decode cX6_isFrozenOf 15 = .ok (.getfield 66, 3) := by decide +kernel
theorem dX6_isFrozenOf_18 : decode cX6_isFrozenOf 18 = .ok (.aload_n 0, 1) := by decide +kernel
theorem dX6_isFrozenOf_19 : decode cX6_isFrozenOf 19 = .ok (.getfield 102, 3) := by decide +kernel
theorem dX6_isFrozenOf_22 : decode cX6_isFrozenOf 22 = .ok (.iload 4, 2) := by decide +kernel
theorem dX6_isFrozenOf_24 : decode cX6_isFrozenOf 24 = .ok (.iaload, 1) := by decide +kernel
theorem dX6_isFrozenOf_25 : decode cX6_isFrozenOf 25 = .ok (.iaload, 1) := by decide +kernel
theorem dX6_isFrozenOf_26 : decode cX6_isFrozenOf 26 = .ok (.iload_n 1, 1) := by decide +kernel
theorem dX6_isFrozenOf_27 : decode cX6_isFrozenOf 27 = .ok (.if_icmp .ne 23, 3) := by decide +kernel
theorem dX6_isFrozenOf_30 : decode cX6_isFrozenOf 30 = .ok (.aload_n 0, 1) := by decide +kernel
theorem dX6_isFrozenOf_31 : decode cX6_isFrozenOf 31 = .ok (.getfield 69, 3) := by decide +kernel
theorem dX6_isFrozenOf_34 : decode cX6_isFrozenOf 34 = .ok (.aload_n 0, 1) := by decide +kernel
theorem dX6_isFrozenOf_35 : decode cX6_isFrozenOf 35 = .ok (.getfield 102, 3) := by decide +kernel
theorem dX6_isFrozenOf_38 : decode cX6_isFrozenOf 38 = .ok (.iload 4, 2) := by decide +kernel
theorem dX6_isFrozenOf_40 : decode cX6_isFrozenOf 40 = .ok (.iaload, 1) := by decide +kernel
theorem dX6_isFrozenOf_41 : decode cX6_isFrozenOf 41 = .ok (.iaload, 1) := by decide +kernel
theorem dX6_isFrozenOf_42 : decode cX6_isFrozenOf 42 = .ok (.iload_n 2, 1) := by decide +kernel
theorem dX6_isFrozenOf_43 : decode cX6_isFrozenOf 43 = .ok (.if_icmp .ne 7, 3) := by decide +kernel
theorem dX6_isFrozenOf_46 : decode cX6_isFrozenOf 46 = .ok (.iconst 1, 1) := by decide +kernel
theorem dX6_isFrozenOf_47 : decode cX6_isFrozenOf 47 = .ok (.goto 4, 3) := by decide +kernel
theorem dX6_isFrozenOf_50 : decode cX6_isFrozenOf 50 = .ok (.iconst 0, 1) := by decide +kernel
theorem dX6_isFrozenOf_51 : decode cX6_isFrozenOf 51 = .ok (.istore 5, 2) := by decide +kernel
theorem dX6_isFrozenOf_53 : decode cX6_isFrozenOf 53 = .ok (.aload_n 0, 1) := by decide +kernel
theorem dX6_isFrozenOf_54 : decode cX6_isFrozenOf 54 = .ok (.getfield 66, 3) := by decide +kernel
theorem dX6_isFrozenOf_57 : decode cX6_isFrozenOf 57 = .ok (.aload_n 0, 1) := by decide +kernel
theorem dX6_isFrozenOf_58 : decode cX6_isFrozenOf 58 = .ok (.getfield 105, 3) := by decide +kernel
theorem dX6_isFrozenOf_61 : decode cX6_isFrozenOf 61 = .ok (.iload 4, 2) := by decide +kernel
theorem dX6_isFrozenOf_63 : decode cX6_isFrozenOf 63 = .ok (.iaload, 1) := by decide +kernel
theorem dX6_isFrozenOf_64 : decode cX6_isFrozenOf 64 = .ok (.iaload, 1) := by decide +kernel
theorem dX6_isFrozenOf_65 : decode cX6_isFrozenOf 65 = .ok (.iload_n 1, 1) := by decide +kernel
theorem dX6_isFrozenOf_66 : decode cX6_isFrozenOf 66 = .ok (.if_icmp .ne 23, 3) := by decide +kernel
theorem dX6_isFrozenOf_69 : decode cX6_isFrozenOf 69 = .ok (.aload_n 0, 1) := by decide +kernel
theorem dX6_isFrozenOf_70 : decode cX6_isFrozenOf 70 = .ok (.getfield 69, 3) := by decide +kernel
theorem dX6_isFrozenOf_73 : decode cX6_isFrozenOf 73 = .ok (.aload_n 0, 1) := by decide +kernel
theorem dX6_isFrozenOf_74 : decode cX6_isFrozenOf 74 = .ok (.getfield 105, 3) := by decide +kernel
theorem dX6_isFrozenOf_77 : decode cX6_isFrozenOf 77 = .ok (.iload 4, 2) := by decide +kernel
theorem dX6_isFrozenOf_79 : decode cX6_isFrozenOf 79 = .ok (.iaload, 1) := by decide +kernel
theorem dX6_isFrozenOf_80 : decode cX6_isFrozenOf 80 = .ok (.iaload, 1) := by decide +kernel
theorem dX6_isFrozenOf_81 : decode cX6_isFrozenOf 81 = .ok (.iload_n 2, 1) := by decide +kernel
theorem dX6_isFrozenOf_82 : decode cX6_isFrozenOf 82 = .ok (.if_icmp .ne 7, 3) := by decide +kernel
theorem dX6_isFrozenOf_85 : decode cX6_isFrozenOf 85 = .ok (.iconst 1, 1) := by decide +kernel
theorem dX6_isFrozenOf_86 : decode cX6_isFrozenOf 86 = .ok (.goto 4, 3) := by decide +kernel
theorem dX6_isFrozenOf_89 : decode cX6_isFrozenOf 89 = .ok (.iconst 0, 1) := by decide +kernel
theorem dX6_isFrozenOf_90 : decode cX6_isFrozenOf 90 = .ok (.istore 6, 2) := by decide +kernel
theorem dX6_isFrozenOf_92 : decode cX6_isFrozenOf 92 = .ok (.iload_n 3, 1) := by decide +kernel
theorem dX6_isFrozenOf_93 : decode cX6_isFrozenOf 93 = .ok (.ifCond .ne 24, 3) := by decide +kernel
theorem dX6_isFrozenOf_96 : decode cX6_isFrozenOf 96 = .ok (.aload_n 0, 1) := by decide +kernel
theorem dX6_isFrozenOf_97 : decode cX6_isFrozenOf 97 = .ok (.getfield 111, 3) := by decide +kernel
theorem dX6_isFrozenOf_100 : decode cX6_isFrozenOf 100 = .ok (.iload 4, 2) := by decide +kernel
theorem dX6_isFrozenOf_102 : decode cX6_isFrozenOf 102 = .ok (.iaload, 1) := by decide +kernel
theorem dX6_isFrozenOf_103 : decode cX6_isFrozenOf 103 = .ok (.iconst (-1), 1) := by decide +kernel
theorem dX6_isFrozenOf_104 : decode cX6_isFrozenOf 104 = .ok (.if_icmp .ne 17, 3) := by decide +kernel
theorem dX6_isFrozenOf_107 : decode cX6_isFrozenOf 107 = .ok (.iload 5, 2) := by decide +kernel
theorem dX6_isFrozenOf_109 : decode cX6_isFrozenOf 109 = .ok (.ifCond .ne 8, 3) := by decide +kernel
theorem dX6_isFrozenOf_112 : decode cX6_isFrozenOf 112 = .ok (.iload 6, 2) := by decide +kernel
theorem dX6_isFrozenOf_114 : decode cX6_isFrozenOf 114 = .ok (.ifCond .eq 7, 3) := by decide +kernel
theorem dX6_isFrozenOf_117 : decode cX6_isFrozenOf 117 = .ok (.iconst 1, 1) := by decide +kernel
theorem dX6_isFrozenOf_118 : decode cX6_isFrozenOf 118 = .ok (.goto 4, 3) := by decide +kernel
theorem dX6_isFrozenOf_121 : decode cX6_isFrozenOf 121 = .ok (.iconst 0, 1) := by decide +kernel
theorem dX6_isFrozenOf_122 : decode cX6_isFrozenOf 122 = .ok (.istore_n 3, 1) := by decide +kernel
theorem dX6_isFrozenOf_123 : decode cX6_isFrozenOf 123 = .ok (.iinc 4 1, 3) := by decide +kernel
theorem dX6_isFrozenOf_126 : decode cX6_isFrozenOf 126 = .ok (.goto (-121), 3) := by decide +kernel
theorem dX6_isFrozenOf_129 : decode cX6_isFrozenOf 129 = .ok (.iload_n 3, 1) := by decide +kernel
theorem dX6_isFrozenOf_130 : decode cX6_isFrozenOf 130 = .ok (.ireturn, 1) := by decide +kernel
set_option maxRecDepth 20000 in
theorem ggX6_markOf_X6_countingOf : GoodIn wsX6_markOf wsX6_countingOf := goodIn_ca (goodIn_r _ [8, 9, 10, 11, 12, 13, 45, 46, 47, 48, 49, 50, 51, 52, 53, 54, 55, 56, 57, 58, 59, 60, 61, 62, 63, 64, 65, 66, 67, 68, 69, 70, 71, 72, 73, 74, 75, 76, 77, 78, 79] (by decide +kernel) (by decide +kernel)) (goodIn_sub (fun _ h => List.mem_cons_of_mem _ (List.mem_append_right _ h)) (by decide +kernel))
set_option maxRecDepth 20000 in
theorem gX6_markOf_X6_countingOf : GoodIn wsX6_markOf (wsV RX6 185 RX6 yX6_countingOf wsX6_countingOf) := goodIn_app (goodIn_of _ (by decide +kernel)) ggX6_markOf_X6_countingOf
set_option maxRecDepth 20000 in
theorem ggX6_markOf_X6_lateOf : GoodIn wsX6_markOf wsX6_lateOf := goodIn_ca (goodIn_r _ [17, 18, 10, 19, 20, 21, 22, 7, 23, 24, 25, 26, 12, 27, 28, 29, 30, 31, 32, 33, 34, 35, 36, 37, 38, 45, 46, 47, 48, 49, 50, 51, 52, 53, 54, 55, 56, 57, 58, 59, 60, 61, 62, 63, 64, 65, 66, 67, 68, 69, 70, 71, 72, 73, 74, 75, 76, 77, 78, 79] (by decide +kernel) (by decide +kernel)) (goodIn_sub (fun _ h => List.mem_cons_of_mem _ (List.mem_append_right _ h)) (by decide +kernel))
set_option maxRecDepth 20000 in
theorem gX6_markOf_X6_lateOf : GoodIn wsX6_markOf (wsV RX6 197 RX6 yX6_lateOf wsX6_lateOf) := goodIn_app (goodIn_of _ (by decide +kernel)) ggX6_markOf_X6_lateOf
set_option maxRecDepth 20000 in
theorem ggX6_markOf_X6_offOf : GoodIn wsX6_markOf wsX6_offOf := goodIn_ca (goodIn_r _ [42, 43, 44, 36, 37, 7, 38, 45, 46, 47, 48, 49, 50, 51, 52, 53, 54, 55, 56, 57, 58, 59, 60, 61, 62, 63, 64, 65, 66, 67, 68, 69, 70, 71, 72, 73, 74, 75, 76, 77, 78, 79] (by decide +kernel) (by decide +kernel)) (goodIn_sub (fun _ h => List.mem_cons_of_mem _ (List.mem_append_right _ h)) (by decide +kernel))
set_option maxRecDepth 20000 in
theorem gX6_markOf_X6_offOf : GoodIn wsX6_markOf (wsV RX6 200 RX6 yX6_offOf wsX6_offOf) := goodIn_app (goodIn_of _ (by decide +kernel)) ggX6_markOf_X6_offOf
set_option maxRecDepth 20000 in
theorem ggX6_markOf_X6_greater : GoodIn wsX6_markOf wsX6_greater := goodIn_r _ [30] (by decide +kernel) (by decide +kernel)
set_option maxRecDepth 20000 in
theorem gX6_markOf_X6_greater : GoodIn wsX6_markOf (va_wsS RX6 188 yX6_greater wsX6_greater) := goodIn_app (goodIn_of _ (by decide +kernel)) ggX6_markOf_X6_greater
theorem dX6_markOf_0 : decode cX6_markOf 0 = .ok (.aload_n 0, 1) := by decide +kernel
theorem dX6_markOf_1 : decode cX6_markOf 1 = .ok (.iload_n 1, 1) := by decide +kernel
theorem dX6_markOf_2 : decode cX6_markOf 2 = .ok (.iload_n 2, 1) := by decide +kernel
theorem dX6_markOf_3 : decode cX6_markOf 3 = .ok (.invokevirtual 185, 3) := by decide +kernel
theorem dX6_markOf_6 : decode cX6_markOf 6 = .ok (.istore_n 3, 1) := by decide +kernel
theorem dX6_markOf_7 : decode cX6_markOf 7 = .ok (.aload_n 0, 1) := by decide +kernel
theorem dX6_markOf_8 : decode cX6_markOf 8 = .ok (.getfield 114, 3) := by decide +kernel
theorem dX6_markOf_11 : decode cX6_markOf 11 = .ok (.bipush 10, 2) := by decide +kernel
theorem dX6_markOf_13 : decode cX6_markOf 13 = .ok (.iload_n 1, 1) := by decide +kernel
theorem dX6_markOf_14 : decode cX6_markOf 14 = .ok (.imul, 1) := by decide +kernel
theorem dX6_markOf_15 : decode cX6_markOf 15 = .ok (.iload_n 2, 1) := by decide +kernel
theorem dX6_markOf_16 : decode cX6_markOf 16 = .ok (.iadd, 1) := by decide +kernel
theorem dX6_markOf_17 : decode cX6_markOf 17 = .ok (.baload, 1) := by decide +kernel
theorem dX6_markOf_18 : decode cX6_markOf 18 = .ok (.ifCond .ne 8, 3) := by decide +kernel
theorem dX6_markOf_21 : decode cX6_markOf 21 = .ok (.iload_n 3, 1) := by decide +kernel
theorem dX6_markOf_22 : decode cX6_markOf 22 = .ok (.iconst (-1), 1) := by decide +kernel
theorem dX6_markOf_23 : decode cX6_markOf 23 = .ok (.if_icmp .ne 5, 3) := by decide +kernel
theorem dX6_markOf_26 : decode cX6_markOf 26 = .ok (.iconst 0, 1) := by decide +kernel
theorem dX6_markOf_27 : decode cX6_markOf 27 = .ok (.ireturn, 1) := by decide +kernel
theorem dX6_markOf_28 : decode cX6_markOf 28 = .ok (.iconst 0, 1) := by decide +kernel
theorem dX6_markOf_29 : decode cX6_markOf 29 = .ok (.aload_n 0, 1) := by decide +kernel
theorem dX6_markOf_30 : decode cX6_markOf 30 = .ok (.getfield 53, 3) := by decide +kernel
theorem dX6_markOf_33 : decode cX6_markOf 33 = .ok (.iload_n 2, 1) := by decide +kernel
theorem dX6_markOf_34 : decode cX6_markOf 34 = .ok (.iaload, 1) := by decide +kernel
theorem dX6_markOf_35 : decode cX6_markOf 35 = .ok (.aload_n 0, 1) := by decide +kernel
theorem dX6_markOf_36 : decode cX6_markOf 36 = .ok (.getfield 90, 3) := by decide +kernel
theorem dX6_markOf_39 : decode cX6_markOf 39 = .ok (.iload_n 3, 1) := by decide +kernel
theorem dX6_markOf_40 : decode cX6_markOf 40 = .ok (.iaload, 1) := by decide +kernel
theorem dX6_markOf_41 : decode cX6_markOf 41 = .ok (.imul, 1) := by decide +kernel
theorem dX6_markOf_42 : decode cX6_markOf 42 = .ok (.bipush 100, 2) := by decide +kernel
theorem dX6_markOf_44 : decode cX6_markOf 44 = .ok (.idiv, 1) := by decide +kernel
theorem dX6_markOf_45 : decode cX6_markOf 45 = .ok (.aload_n 0, 1) := by decide +kernel
theorem dX6_markOf_46 : decode cX6_markOf 46 = .ok (.iload_n 2, 1) := by decide +kernel
theorem dX6_markOf_47 : decode cX6_markOf 47 = .ok (.aload_n 0, 1) := by decide +kernel
theorem dX6_markOf_48 : decode cX6_markOf 48 = .ok (.iload_n 3, 1) := by decide +kernel
theorem dX6_markOf_49 : decode cX6_markOf 49 = .ok (.invokevirtual 197, 3) := by decide +kernel
theorem dX6_markOf_52 : decode cX6_markOf 52 = .ok (.invokevirtual 200, 3) := by decide +kernel
theorem dX6_markOf_55 : decode cX6_markOf 55 = .ok (.isub, 1) := by decide +kernel
theorem dX6_markOf_56 : decode cX6_markOf 56 = .ok (.invokestatic 188, 3) := by decide +kernel
theorem dX6_markOf_59 : decode cX6_markOf 59 = .ok (.ireturn, 1) := by decide +kernel
set_option maxRecDepth 20000 in
theorem ggX6_mark_X6_isPupil : GoodIn wsX6_mark wsX6_isPupil := goodIn_r _ [5, 6, 7, 8, 4, 9, 79, 80, 81, 82, 83, 84, 85, 86, 87, 88, 89, 90, 91, 92, 93, 94, 95, 96, 97, 98, 99, 100, 101, 102, 103, 104, 105, 106, 107, 108, 109, 110, 111, 112, 113] (by decide +kernel) (by decide +kernel)
set_option maxRecDepth 20000 in
theorem gX6_mark_X6_isPupil : GoodIn wsX6_mark (wsV RX6 159 RX6 yX6_isPupil wsX6_isPupil) := goodIn_app (goodIn_of _ (by decide +kernel)) ggX6_mark_X6_isPupil
set_option maxRecDepth 20000 in
theorem ggX6_mark_X6_isTask : GoodIn wsX6_mark wsX6_isTask := goodIn_r _ [13, 14, 7, 8, 4, 9, 79, 80, 81, 82, 83, 84, 85, 86, 87, 88, 89, 90, 91, 92, 93, 94, 95, 96, 97, 98, 99, 100, 101, 102, 103, 104, 105, 106, 107, 108, 109, 110, 111, 112, 113] (by decide +kernel) (by decide +kernel)
set_option maxRecDepth 20000 in
theorem gX6_mark_X6_isTask : GoodIn wsX6_mark (wsV RX6 162 RX6 yX6_isTask wsX6_isTask) := goodIn_app (goodIn_of _ (by decide +kernel)) ggX6_mark_X6_isTask
set_option maxRecDepth 20000 in
theorem ggX6_mark_X6_fails : GoodIn wsX6_mark wsX6_fails := goodIn_r _ [18, 19, 79, 80, 81, 82, 83, 84, 85, 86, 87, 88, 89, 90, 91, 92, 93, 94, 95, 96, 97, 98, 99, 100, 101, 102, 103, 104, 105, 106, 107, 108, 109, 110, 111, 112, 113] (by decide +kernel) (by decide +kernel)
set_option maxRecDepth 20000 in
theorem gX6_mark_X6_fails : GoodIn wsX6_mark (wsV RX6 122 RX6 yX6_fails wsX6_fails) := goodIn_app (goodIn_of _ (by decide +kernel)) ggX6_mark_X6_fails
set_option maxRecDepth 20000 in
theorem ggX6_mark_X6_isFrozenOf : GoodIn wsX6_mark wsX6_isFrozenOf := goodIn_ca (goodIn_r _ [23, 24, 25, 26, 27, 28, 29, 79, 80, 81, 82, 83, 84, 85, 86, 87, 88, 89, 90, 91, 92, 93, 94, 95, 96, 97, 98, 99, 100, 101, 102, 103, 104, 105, 106, 107, 108, 109, 110, 111, 112, 113] (by decide +kernel) (by decide +kernel)) (goodIn_sub (fun _ h => List.mem_cons_of_mem _ (List.mem_append_right _ h)) (by decide +kernel))
set_option maxRecDepth 20000 in
theorem gX6_mark_X6_isFrozenOf : GoodIn wsX6_mark (wsV RX6 203 RX6 yX6_isFrozenOf wsX6_isFrozenOf) := goodIn_app (goodIn_of _ (by decide +kernel)) ggX6_mark_X6_isFrozenOf
set_option maxRecDepth 20000 in
theorem ggX6_mark_X6_markOf : GoodIn wsX6_mark wsX6_markOf := goodIn_ca (goodIn_r _ [33, 34, 35, 36, 37, 38, 39, 4, 40, 41, 42, 25, 27, 43, 44, 45, 46, 47, 48, 49, 50, 51, 52, 53, 54, 55, 56, 57, 58, 59, 60, 61, 62, 63, 64, 65, 66, 67, 68, 69, 70, 71, 72, 73, 74, 79, 80, 81, 82, 83, 84, 85, 86, 87, 88, 89, 90, 91, 92, 93, 94, 95, 96, 97, 98, 99, 100, 101, 102, 103, 104, 105, 106, 107, 108, 109, 110, 111, 112, 113] (by decide +kernel) (by decide +kernel)) (goodIn_sub (fun _ h => List.mem_cons_of_mem _ (List.mem_append_right _ h)) (by decide +kernel))
set_option maxRecDepth 20000 in
theorem gX6_mark_X6_markOf : GoodIn wsX6_mark (wsV RX6 206 RX6 yX6_markOf wsX6_markOf) := goodIn_app (goodIn_of _ (by decide +kernel)) ggX6_mark_X6_markOf
set_option maxRecDepth 20000 in
theorem ggX6_mark_X6_tells : GoodIn wsX6_mark wsX6_tells := goodIn_r _ [78, 19, 79, 80, 81, 82, 83, 84, 85, 86, 87, 88, 89, 90, 91, 92, 93, 94, 95, 96, 97, 98, 99, 100, 101, 102, 103, 104, 105, 106, 107, 108, 109, 110, 111, 112, 113] (by decide +kernel) (by decide +kernel)
set_option maxRecDepth 20000 in
theorem gX6_mark_X6_tells : GoodIn wsX6_mark (wsV RX6 126 RX6 yX6_tells wsX6_tells) := goodIn_app (goodIn_of _ (by decide +kernel)) ggX6_mark_X6_tells
theorem dX6_mark_0 : decode cX6_mark 0 = .ok (.aload_n 0, 1) := by decide +kernel
theorem dX6_mark_1 : decode cX6_mark 1 = .ok (.iload_n 1, 1) := by decide +kernel
theorem dX6_mark_2 : decode cX6_mark 2 = .ok (.invokevirtual 159, 3) := by decide +kernel
theorem dX6_mark_5 : decode cX6_mark 5 = .ok (.ifCond .eq 11, 3) := by decide +kernel
theorem dX6_mark_8 : decode cX6_mark 8 = .ok (.aload_n 0, 1) := by decide +kernel
theorem dX6_mark_9 : decode cX6_mark 9 = .ok (.iload_n 2, 1) := by decide +kernel
theorem dX6_mark_10 : decode cX6_mark 10 = .ok (.invokevirtual 162, 3) := by decide +kernel
theorem dX6_mark_13 : decode cX6_mark 13 = .ok (.ifCond .ne 9, 3) := by decide +kernel
theorem dX6_mark_16 : decode cX6_mark 16 = .ok (.aload_n 0, 1) := by decide +kernel
theorem dX6_mark_17 : decode cX6_mark 17 = .ok (.iconst 1, 1) := by decide +kernel
theorem dX6_mark_18 : decode cX6_mark 18 = .ok (.invokevirtual 122, 3) := by decide +kernel
theorem dX6_mark_21 : decode cX6_mark 21 = .ok (.ireturn, 1) := by decide +kernel
theorem dX6_mark_22 : decode cX6_mark 22 = .ok (.aload_n 0, 1) := by decide +kernel
theorem dX6_mark_23 : decode cX6_mark 23 = .ok (.iload_n 1, 1) := by decide +kernel
theorem dX6_mark_24 : decode cX6_mark 24 = .ok (.iload_n 2, 1) := by decide +kernel
theorem dX6_mark_25 : decode cX6_mark 25 = .ok (.invokevirtual 203, 3) := by decide +kernel
theorem dX6_mark_28 : decode cX6_mark 28 = .ok (.ifCond .eq 11, 3) := by decide +kernel
theorem dX6_mark_31 : decode cX6_mark 31 = .ok (.aload_n 0, 1) := by decide +kernel
theorem dX6_mark_32 : decode cX6_mark 32 = .ok (.iconst 2, 1) := by decide +kernel
theorem dX6_mark_33 : decode cX6_mark 33 = .ok (.invokevirtual 122, 3) := by decide +kernel
theorem dX6_mark_36 : decode cX6_mark 36 = .ok (.goto 13, 3) := by decide +kernel
theorem dX6_mark_39 : decode cX6_mark 39 = .ok (.aload_n 0, 1) := by decide +kernel
theorem dX6_mark_40 : decode cX6_mark 40 = .ok (.aload_n 0, 1) := by decide +kernel
theorem dX6_mark_41 : decode cX6_mark 41 = .ok (.iload_n 1, 1) := by decide +kernel
theorem dX6_mark_42 : decode cX6_mark 42 = .ok (.iload_n 2, 1) := by decide +kernel
theorem dX6_mark_43 : decode cX6_mark 43 = .ok (.invokevirtual 206, 3) := by decide +kernel
theorem dX6_mark_46 : decode cX6_mark 46 = .ok (.invokevirtual 126, 3) := by decide +kernel
theorem dX6_mark_49 : decode cX6_mark 49 = .ok (.ireturn, 1) := by decide +kernel
set_option maxRecDepth 20000 in
theorem ggX6_isFrozen_X6_isPupil : GoodIn wsX6_isFrozen wsX6_isPupil := goodIn_r _ [6, 7, 8, 9, 5, 10, 26, 27, 28, 29, 30, 31, 32, 33, 34, 35, 36, 37, 38, 39, 40, 41, 42, 43, 44, 45, 46, 47, 48, 49, 50, 51, 52, 53, 54, 55, 56, 57, 58, 59, 60] (by decide +kernel) (by decide +kernel)
set_option maxRecDepth 20000 in
theorem gX6_isFrozen_X6_isPupil : GoodIn wsX6_isFrozen (wsV RX6 159 RX6 yX6_isPupil wsX6_isPupil) := goodIn_app (goodIn_of _ (by decide +kernel)) ggX6_isFrozen_X6_isPupil
set_option maxRecDepth 20000 in
theorem ggX6_isFrozen_X6_isTask : GoodIn wsX6_isFrozen wsX6_isTask := goodIn_r _ [14, 15, 8, 9, 5, 10, 26, 27, 28, 29, 30, 31, 32, 33, 34, 35, 36, 37, 38, 39, 40, 41, 42, 43, 44, 45, 46, 47, 48, 49, 50, 51, 52, 53, 54, 55, 56, 57, 58, 59, 60] (by decide +kernel) (by decide +kernel)
set_option maxRecDepth 20000 in
theorem gX6_isFrozen_X6_isTask : GoodIn wsX6_isFrozen (wsV RX6 162 RX6 yX6_isTask wsX6_isTask) := goodIn_app (goodIn_of _ (by decide +kernel)) ggX6_isFrozen_X6_isTask
set_option maxRecDepth 20000 in
theorem ggX6_isFrozen_X6_isFrozenOf : GoodIn wsX6_isFrozen wsX6_isFrozenOf := goodIn_ca (goodIn_r _ [19, 20, 21, 22, 23, 24, 25, 26, 27, 28, 29, 30, 31, 32, 33, 34, 35, 36, 37, 38, 39, 40, 41, 42, 43, 44, 45, 46, 47, 48, 49, 50, 51, 52, 53, 54, 55, 56, 57, 58, 59, 60] (by decide +kernel) (by decide +kernel)) (goodIn_sub (fun _ h => List.mem_cons_of_mem _ (List.mem_append_right _ h)) (by decide +kernel))
set_option maxRecDepth 20000 in
theorem gX6_isFrozen_X6_isFrozenOf : GoodIn wsX6_isFrozen (wsV RX6 203 RX6 yX6_isFrozenOf wsX6_isFrozenOf) := goodIn_app (goodIn_of _ (by decide +kernel)) ggX6_isFrozen_X6_isFrozenOf
theorem dX6_isFrozen_0 : decode cX6_isFrozen 0 = .ok (.aload_n 0, 1) := by decide +kernel
theorem dX6_isFrozen_1 : decode cX6_isFrozen 1 = .ok (.aload_n 0, 1) := by decide +kernel
theorem dX6_isFrozen_2 : decode cX6_isFrozen 2 = .ok (.iload_n 1, 1) := by decide +kernel
theorem dX6_isFrozen_3 : decode cX6_isFrozen 3 = .ok (.invokevirtual 159, 3) := by decide +kernel
theorem dX6_isFrozen_6 : decode cX6_isFrozen 6 = .ok (.ifCond .eq 15, 3) := by decide +kernel
theorem dX6_isFrozen_9 : decode cX6_isFrozen 9 = .ok (.aload_n 0, 1) := by decide +kernel
theorem dX6_isFrozen_10 : decode cX6_isFrozen 10 = .ok (.iload_n 2, 1) := by decide +kernel
theorem dX6_isFrozen_11 : decode cX6_isFrozen 11 = .ok (.invokevirtual 162, 3) := by decide +kernel
theorem dX6_isFrozen_14 : decode cX6_isFrozen 14 = .ok (.ifCond .eq 7, 3) := by decide +kernel
theorem dX6_isFrozen_17 : decode cX6_isFrozen 17 = .ok (.iconst 0, 1) := by decide +kernel
theorem dX6_isFrozen_18 : decode cX6_isFrozen 18 = .ok (.goto 4, 3) := by decide +kernel
theorem dX6_isFrozen_21 : decode cX6_isFrozen 21 = .ok (.iconst 1, 1) := by decide +kernel
theorem dX6_isFrozen_22 : decode cX6_isFrozen 22 = .ok (.putfield 37, 3) := by decide +kernel
theorem dX6_isFrozen_25 : decode cX6_isFrozen 25 = .ok (.aload_n 0, 1) := by decide +kernel
theorem dX6_isFrozen_26 : decode cX6_isFrozen 26 = .ok (.getfield 37, 3) := by decide +kernel
theorem dX6_isFrozen_29 : decode cX6_isFrozen 29 = .ok (.ifCond .ne 16, 3) := by decide +kernel
theorem dX6_isFrozen_32 : decode cX6_isFrozen 32 = .ok (.aload_n 0, 1) := by decide +kernel
theorem dX6_isFrozen_33 : decode cX6_isFrozen 33 = .ok (.iload_n 1, 1) := by decide +kernel
theorem dX6_isFrozen_34 : decode cX6_isFrozen 34 = .ok (.iload_n 2, 1) := by decide +kernel
theorem dX6_isFrozen_35 : decode cX6_isFrozen 35 = .ok (.invokevirtual 203, 3) := by decide +kernel
theorem dX6_isFrozen_38 : decode cX6_isFrozen 38 = .ok (.ifCond .eq 7, 3) := by decide +kernel
theorem dX6_isFrozen_41 : decode cX6_isFrozen 41 = .ok (.iconst 1, 1) := by decide +kernel
theorem dX6_isFrozen_42 : decode cX6_isFrozen 42 = .ok (.goto 4, 3) := by decide +kernel
theorem dX6_isFrozen_45 : decode cX6_isFrozen 45 = .ok (.iconst 0, 1) := by decide +kernel
theorem dX6_isFrozen_46 : decode cX6_isFrozen 46 = .ok (.ireturn, 1) := by decide +kernel
set_option maxRecDepth 20000 in
theorem ggX6_shared_X6_isVersion : GoodIn wsX6_shared wsX6_isVersion := goodIn_r _ [5, 6, 7, 8, 4, 9, 25, 26, 27, 28, 29, 30, 31, 32, 33, 34, 35, 36, 37, 38, 39, 40, 41, 42, 43, 44, 45, 46, 47, 48, 49, 50, 51, 52, 53, 54, 55, 56, 57, 58, 59] (by decide +kernel) (by decide +kernel)
set_option maxRecDepth 20000 in
theorem gX6_shared_X6_isVersion : GoodIn wsX6_shared (wsV RX6 165 RX6 yX6_isVersion wsX6_isVersion) := goodIn_app (goodIn_of _ (by decide +kernel)) ggX6_shared_X6_isVersion
set_option maxRecDepth 20000 in
theorem ggX6_shared_X6_common : GoodIn wsX6_shared wsX6_common := goodIn_ca (goodIn_r _ [13, 14, 15, 25, 26, 27, 28, 29, 30, 31, 32, 33, 34, 35, 36, 37, 38, 39, 40, 41, 42, 43, 44, 45, 46, 47, 48, 49, 50, 51, 52, 53, 54, 55, 56, 57, 58, 59] (by decide +kernel) (by decide +kernel)) (goodIn_sub (fun _ h => List.mem_cons_of_mem _ (List.mem_append_right _ h)) (by decide +kernel))
set_option maxRecDepth 20000 in
theorem gX6_shared_X6_common : GoodIn wsX6_shared (wsV RX6 179 RX6 yX6_common wsX6_common) := goodIn_app (goodIn_of _ (by decide +kernel)) ggX6_shared_X6_common
set_option maxRecDepth 20000 in
theorem ggX6_shared_X6_tells : GoodIn wsX6_shared wsX6_tells := goodIn_r _ [19, 20, 25, 26, 27, 28, 29, 30, 31, 32, 33, 34, 35, 36, 37, 38, 39, 40, 41, 42, 43, 44, 45, 46, 47, 48, 49, 50, 51, 52, 53, 54, 55, 56, 57, 58, 59] (by decide +kernel) (by decide +kernel)
set_option maxRecDepth 20000 in
theorem gX6_shared_X6_tells : GoodIn wsX6_shared (wsV RX6 126 RX6 yX6_tells wsX6_tells) := goodIn_app (goodIn_of _ (by decide +kernel)) ggX6_shared_X6_tells
set_option maxRecDepth 20000 in
theorem ggX6_shared_X6_fails : GoodIn wsX6_shared wsX6_fails := goodIn_r _ [24, 20, 25, 26, 27, 28, 29, 30, 31, 32, 33, 34, 35, 36, 37, 38, 39, 40, 41, 42, 43, 44, 45, 46, 47, 48, 49, 50, 51, 52, 53, 54, 55, 56, 57, 58, 59] (by decide +kernel) (by decide +kernel)
set_option maxRecDepth 20000 in
theorem gX6_shared_X6_fails : GoodIn wsX6_shared (wsV RX6 122 RX6 yX6_fails wsX6_fails) := goodIn_app (goodIn_of _ (by decide +kernel)) ggX6_shared_X6_fails
theorem dX6_shared_0 : decode cX6_shared 0 = .ok (.aload_n 0, 1) := by decide +kernel
theorem dX6_shared_1 : decode cX6_shared 1 = .ok (.iload_n 1, 1) := by decide +kernel
theorem dX6_shared_2 : decode cX6_shared 2 = .ok (.invokevirtual 165, 3) := by decide +kernel
theorem dX6_shared_5 : decode cX6_shared 5 = .ok (.ifCond .eq 24, 3) := by decide +kernel
theorem dX6_shared_8 : decode cX6_shared 8 = .ok (.aload_n 0, 1) := by decide +kernel
theorem dX6_shared_9 : decode cX6_shared 9 = .ok (.iload_n 2, 1) := by decide +kernel
theorem dX6_shared_10 : decode cX6_shared 10 = .ok (.invokevirtual 165, 3) := by decide +kernel
theorem dX6_shared_13 : decode cX6_shared 13 = .ok (.ifCond .eq 16, 3) := by decide +kernel
theorem dX6_shared_16 : decode cX6_shared 16 = .ok (.aload_n 0, 1) := by decide +kernel
theorem dX6_shared_17 : decode cX6_shared 17 = .ok (.aload_n 0, 1) := by decide +kernel
theorem dX6_shared_18 : decode cX6_shared 18 = .ok (.iload_n 1, 1) := by decide +kernel
theorem dX6_shared_19 : decode cX6_shared 19 = .ok (.iload_n 2, 1) := by decide +kernel
theorem dX6_shared_20 : decode cX6_shared 20 = .ok (.invokevirtual 179, 3) := by decide +kernel
theorem dX6_shared_23 : decode cX6_shared 23 = .ok (.invokevirtual 126, 3) := by decide +kernel
theorem dX6_shared_26 : decode cX6_shared 26 = .ok (.goto 8, 3) := by decide +kernel
theorem dX6_shared_29 : decode cX6_shared 29 = .ok (.aload_n 0, 1) := by decide +kernel
theorem dX6_shared_30 : decode cX6_shared 30 = .ok (.iconst 1, 1) := by decide +kernel
theorem dX6_shared_31 : decode cX6_shared 31 = .ok (.invokevirtual 122, 3) := by decide +kernel
theorem dX6_shared_34 : decode cX6_shared 34 = .ok (.ireturn, 1) := by decide +kernel
set_option maxRecDepth 20000 in
theorem ggX6_shingle_X6_isVersion : GoodIn wsX6_shingle wsX6_isVersion := goodIn_r _ [7, 8, 9, 10, 6, 11, 21, 22, 23, 24, 25, 26, 27, 28, 29, 30, 31, 32, 33, 34, 35, 36, 37, 38, 39, 40, 41, 42, 43, 44, 45, 46, 47, 48, 49, 50, 51, 52, 53, 54, 55] (by decide +kernel) (by decide +kernel)
set_option maxRecDepth 20000 in
theorem gX6_shingle_X6_isVersion : GoodIn wsX6_shingle (wsV RX6 165 RX6 yX6_isVersion wsX6_isVersion) := goodIn_app (goodIn_of _ (by decide +kernel)) ggX6_shingle_X6_isVersion
set_option maxRecDepth 20000 in
theorem ggX6_shingle_X6_fails : GoodIn wsX6_shingle wsX6_fails := goodIn_r _ [15, 16, 21, 22, 23, 24, 25, 26, 27, 28, 29, 30, 31, 32, 33, 34, 35, 36, 37, 38, 39, 40, 41, 42, 43, 44, 45, 46, 47, 48, 49, 50, 51, 52, 53, 54, 55] (by decide +kernel) (by decide +kernel)
set_option maxRecDepth 20000 in
theorem gX6_shingle_X6_fails : GoodIn wsX6_shingle (wsV RX6 122 RX6 yX6_fails wsX6_fails) := goodIn_app (goodIn_of _ (by decide +kernel)) ggX6_shingle_X6_fails
set_option maxRecDepth 20000 in
theorem ggX6_shingle_X6_in : GoodIn wsX6_shingle wsX6_in := goodIn_r _ [11] (by decide +kernel) (by decide +kernel)
set_option maxRecDepth 20000 in
theorem gX6_shingle_X6_in : GoodIn wsX6_shingle (va_wsS RX6 118 yX6_in wsX6_in) := goodIn_app (goodIn_of _ (by decide +kernel)) ggX6_shingle_X6_in
set_option maxRecDepth 20000 in
theorem ggX6_shingle_X6_tells : GoodIn wsX6_shingle wsX6_tells := goodIn_r _ [20, 16, 21, 22, 23, 24, 25, 26, 27, 28, 29, 30, 31, 32, 33, 34, 35, 36, 37, 38, 39, 40, 41, 42, 43, 44, 45, 46, 47, 48, 49, 50, 51, 52, 53, 54, 55] (by decide +kernel) (by decide +kernel)
set_option maxRecDepth 20000 in
theorem gX6_shingle_X6_tells : GoodIn wsX6_shingle (wsV RX6 126 RX6 yX6_tells wsX6_tells) := goodIn_app (goodIn_of _ (by decide +kernel)) ggX6_shingle_X6_tells
theorem dX6_shingle_0 : decode cX6_shingle 0 = .ok (.aload_n 0, 1) := by decide +kernel
theorem dX6_shingle_1 : decode cX6_shingle 1 = .ok (.iload_n 1, 1) := by decide +kernel
theorem dX6_shingle_2 : decode cX6_shingle 2 = .ok (.invokevirtual 165, 3) := by decide +kernel
theorem dX6_shingle_5 : decode cX6_shingle 5 = .ok (.ifCond .ne 9, 3) := by decide +kernel
theorem dX6_shingle_8 : decode cX6_shingle 8 = .ok (.aload_n 0, 1) := by decide +kernel
theorem dX6_shingle_9 : decode cX6_shingle 9 = .ok (.iconst 1, 1) := by decide +kernel
theorem dX6_shingle_10 : decode cX6_shingle 10 = .ok (.invokevirtual 122, 3) := by decide +kernel
theorem dX6_shingle_13 : decode cX6_shingle 13 = .ok (.ireturn, 1) := by decide +kernel
theorem dX6_shingle_14 : decode cX6_shingle 14 = .ok (.iload_n 2, 1) := by decide +kernel
theorem dX6_shingle_15 : decode cX6_shingle 15 = .ok (.iconst 0, 1) := by decide +kernel
theorem dX6_shingle_16 : decode cX6_shingle 16 = .ok (.aload_n 0, 1) := by decide +kernel
theorem dX6_shingle_17 : decode cX6_shingle 17 = .ok (.getfield 99, 3) := by decide +kernel
theorem dX6_shingle_20 : decode cX6_shingle 20 = .ok (.iload_n 1, 1) := by decide +kernel
theorem dX6_shingle_21 : decode cX6_shingle 21 = .ok (.iaload, 1) := by decide +kernel
theorem dX6_shingle_22 : decode cX6_shingle 22 = .ok (.iconst 1, 1) := by decide +kernel
theorem dX6_shingle_23 : decode cX6_shingle 23 = .ok (.isub, 1) := by decide +kernel
theorem dX6_shingle_24 : decode cX6_shingle 24 = .ok (.invokestatic 118, 3) := by decide +kernel
theorem dX6_shingle_27 : decode cX6_shingle 27 = .ok (.ifCond .eq 21, 3) := by decide +kernel
theorem dX6_shingle_30 : decode cX6_shingle 30 = .ok (.aload_n 0, 1) := by decide +kernel
theorem dX6_shingle_31 : decode cX6_shingle 31 = .ok (.aload_n 0, 1) := by decide +kernel
theorem dX6_shingle_32 : decode cX6_shingle 32 = .ok (.getfield 96, 3) := by decide +kernel
theorem dX6_shingle_35 : decode cX6_shingle 35 = .ok (.bipush 40, 2) := by decide +kernel
theorem dX6_shingle_37 : decode cX6_shingle 37 = .ok (.iload_n 1, 1) := by decide +kernel
theorem dX6_shingle_38 : decode cX6_shingle 38 = .ok (.imul, 1) := by decide +kernel
theorem dX6_shingle_39 : decode cX6_shingle 39 = .ok (.iload_n 2, 1) := by decide +kernel
theorem dX6_shingle_40 : decode cX6_shingle 40 = .ok (.iadd, 1) := by decide +kernel
theorem dX6_shingle_41 : decode cX6_shingle 41 = .ok (.iaload, 1) := by decide +kernel
theorem dX6_shingle_42 : decode cX6_shingle 42 = .ok (.invokevirtual 126, 3) := by decide +kernel
theorem dX6_shingle_45 : decode cX6_shingle 45 = .ok (.goto 8, 3) := by decide +kernel
theorem dX6_shingle_48 : decode cX6_shingle 48 = .ok (.aload_n 0, 1) := by decide +kernel
theorem dX6_shingle_49 : decode cX6_shingle 49 = .ok (.iconst 2, 1) := by decide +kernel
theorem dX6_shingle_50 : decode cX6_shingle 50 = .ok (.invokevirtual 122, 3) := by decide +kernel
theorem dX6_shingle_53 : decode cX6_shingle 53 = .ok (.ireturn, 1) := by decide +kernel
theorem dX6_holdersOf_0 : decode cX6_holdersOf 0 = .ok (.iconst 0, 1) := by decide +kernel
theorem dX6_holdersOf_1 : decode cX6_holdersOf 1 = .ok (.istore_n 3, 1) := by decide +kernel
theorem dX6_holdersOf_2 : decode cX6_holdersOf 2 = .ok (.iconst 0, 1) := by decide +kernel
theorem dX6_holdersOf_3 : decode cX6_holdersOf 3 = .ok (.istore 4, 2) := by decide +kernel
theorem dX6_holdersOf_5 : decode cX6_holdersOf 5 = .ok (.iload 4, 2) := by decide +kernel
theorem dX6_holdersOf_7 : decode cX6_holdersOf 7 = .ok (.iload_n 2, 1) := by decide +kernel
theorem dX6_holdersOf_8 : decode cX6_holdersOf 8 = .ok (.if_icmp .ge 66, 3) := by decide +kernel
theorem dX6_holdersOf_11 : decode cX6_holdersOf 11 = .ok (.iconst 0, 1) := by decide +kernel
theorem dX6_holdersOf_12 : decode cX6_holdersOf 12 = .ok (.istore 5, 2) := by decide +kernel
theorem dX6_holdersOf_14 : decode cX6_holdersOf 14 = .ok (.iload 5, 2) := by decide +kernel
theorem dX6_holdersOf_16 : decode cX6_holdersOf 16 = .ok (.aload_n 0, 1) := by decide +kernel
theorem dX6_holdersOf_17 : decode cX6_holdersOf 17 = .ok (.getfield 99, 3) := by decide +kernel
theorem dX6_holdersOf_20 : decode cX6_holdersOf 20 = .ok (.iload 4, 2) := by decide +kernel
theorem dX6_holdersOf_22 : decode cX6_holdersOf 22 = .ok (.iaload, 1) := by decide +kernel
theorem dX6_holdersOf_23 : decode cX6_holdersOf 23 = .ok (.if_icmp .ge 45, 3) := by decide +kernel
theorem dX6_holdersOf_26 : decode cX6_holdersOf 26 = .ok (.iload_n 3, 1) := by decide +kernel
theorem dX6_holdersOf_27 : decode cX6_holdersOf 27 = .ok (.aload_n 0, 1) := by decide +kernel
theorem dX6_holdersOf_28 : decode cX6_holdersOf 28 = .ok (.getfield 81, 3) := by decide +kernel
theorem dX6_holdersOf_31 : decode cX6_holdersOf 31 = .ok (.iload 4, 2) := by decide +kernel
theorem dX6_holdersOf_33 : decode cX6_holdersOf 33 = .ok (.iaload, 1) := by decide +kernel
theorem dX6_holdersOf_34 : decode cX6_holdersOf 34 = .ok (.iconst 1, 1) := by decide +kernel
theorem dX6_holdersOf_35 : decode cX6_holdersOf 35 = .ok (.if_icmp .ne 24, 3) := by decide +kernel
theorem dX6_holdersOf_38 : decode cX6_holdersOf 38 = .ok (.aload_n 0, 1) := by decide +kernel
theorem dX6_holdersOf_39 : decode cX6_holdersOf 39 = .ok (.getfield 96, 3) := by decide +kernel
theorem dX6_holdersOf_42 : decode cX6_holdersOf 42 = .ok (.bipush 40, 2) := by decide +kernel
theorem dX6_holdersOf_44 : decode cX6_holdersOf 44 = .ok (.iload 4, 2) := by decide +kernel
theorem dX6_holdersOf_46 : decode cX6_holdersOf 46 = .ok (.imul, 1) := by decide +kernel
theorem dX6_holdersOf_47 : decode cX6_holdersOf 47 = .ok (.iload 5, 2) := by decide +kernel
theorem dX6_holdersOf_49 : decode cX6_holdersOf 49 = .ok (.iadd, 1) := by decide +kernel
theorem dX6_holdersOf_50 : decode cX6_holdersOf 50 = .ok (.iaload, 1) := by decide +kernel
theorem dX6_holdersOf_51 : decode cX6_holdersOf 51 = .ok (.iload_n 1, 1) := by decide +kernel
theorem dX6_holdersOf_52 : decode cX6_holdersOf 52 = .ok (.if_icmp .ne 7, 3) := by decide +kernel
theorem dX6_holdersOf_55 : decode cX6_holdersOf 55 = .ok (.iconst 1, 1) := by decide +kernel
theorem dX6_holdersOf_56 : decode cX6_holdersOf 56 = .ok (.goto 4, 3) := by decide +kernel
theorem dX6_holdersOf_59 : decode cX6_holdersOf 59 = .ok (.iconst 0, 1) := by decide +kernel
theorem dX6_holdersOf_60 : decode cX6_holdersOf 60 = .ok (.iadd, 1) := by decide +kernel
theorem dX6_holdersOf_61 : decode cX6_holdersOf 61 = .ok (.istore_n 3, 1) := by decide +kernel
theorem dX6_holdersOf_62 : decode cX6_holdersOf 62 = .ok (.iinc 5 1, 3) := by decide +kernel
theorem dX6_holdersOf_65 : decode cX6_holdersOf 65 = .ok (.goto (-51), 3) := by decide +kernel
theorem dX6_holdersOf_68 : decode cX6_holdersOf 68 = .ok (.iinc 4 1, 3) := by decide +kernel
theorem dX6_holdersOf_71 : decode cX6_holdersOf 71 = .ok (.goto (-66), 3) := by decide +kernel
theorem dX6_holdersOf_74 : decode cX6_holdersOf 74 = .ok (.iload_n 3, 1) := by decide +kernel
theorem dX6_holdersOf_75 : decode cX6_holdersOf 75 = .ok (.ireturn, 1) := by decide +kernel
set_option maxRecDepth 20000 in
theorem ggX6_indexed_X6_holdersOf : GoodIn wsX6_indexed wsX6_holdersOf := goodIn_ca (goodIn_r _ [9, 2, 3, 4, 15, 16, 17, 18, 19, 20, 21, 22, 23, 24, 25, 26, 27, 28, 29, 30, 31, 32, 33, 34, 35, 36, 37, 38, 39, 40, 41, 42, 43, 44, 45, 46, 47, 48, 49] (by decide +kernel) (by decide +kernel)) (goodIn_sub (fun _ h => List.mem_cons_of_mem _ (List.mem_append_right _ h)) (by decide +kernel))
set_option maxRecDepth 20000 in
theorem gX6_indexed_X6_holdersOf : GoodIn wsX6_indexed (wsV RX6 209 RX6 yX6_holdersOf wsX6_holdersOf) := goodIn_app (goodIn_of _ (by decide +kernel)) ggX6_indexed_X6_holdersOf
set_option maxRecDepth 20000 in
theorem ggX6_indexed_X6_tells : GoodIn wsX6_indexed wsX6_tells := goodIn_r _ [13, 14, 15, 16, 17, 18, 19, 20, 21, 22, 23, 24, 25, 26, 27, 28, 29, 30, 31, 32, 33, 34, 35, 36, 37, 38, 39, 40, 41, 42, 43, 44, 45, 46, 47, 48, 49] (by decide +kernel) (by decide +kernel)
set_option maxRecDepth 20000 in
theorem gX6_indexed_X6_tells : GoodIn wsX6_indexed (wsV RX6 126 RX6 yX6_tells wsX6_tells) := goodIn_app (goodIn_of _ (by decide +kernel)) ggX6_indexed_X6_tells
theorem dX6_indexed_0 : decode cX6_indexed 0 = .ok (.iconst 0, 1) := by decide +kernel
theorem dX6_indexed_1 : decode cX6_indexed 1 = .ok (.istore_n 1, 1) := by decide +kernel
theorem dX6_indexed_2 : decode cX6_indexed 2 = .ok (.iconst 0, 1) := by decide +kernel
theorem dX6_indexed_3 : decode cX6_indexed 3 = .ok (.istore_n 2, 1) := by decide +kernel
theorem dX6_indexed_4 : decode cX6_indexed 4 = .ok (.iload_n 2, 1) := by decide +kernel
theorem dX6_indexed_5 : decode cX6_indexed 5 = .ok (.aload_n 0, 1) := by decide +kernel
theorem dX6_indexed_6 : decode cX6_indexed 6 = .ok (.getfield 22, 3) := by decide +kernel
theorem dX6_indexed_9 : decode cX6_indexed 9 = .ok (.if_icmp .ge 64, 3) := by decide +kernel
theorem dX6_indexed_12 : decode cX6_indexed 12 = .ok (.iconst 0, 1) := by decide +kernel
theorem dX6_indexed_13 : decode cX6_indexed 13 = .ok (.istore_n 3, 1) := by decide +kernel
theorem dX6_indexed_14 : decode cX6_indexed 14 = .ok (.iload_n 3, 1) := by decide +kernel
theorem dX6_indexed_15 : decode cX6_indexed 15 = .ok (.aload_n 0, 1) := by decide +kernel
theorem dX6_indexed_16 : decode cX6_indexed 16 = .ok (.getfield 99, 3) := by decide +kernel
theorem dX6_indexed_19 : decode cX6_indexed 19 = .ok (.iload_n 2, 1) := by decide +kernel
theorem dX6_indexed_20 : decode cX6_indexed 20 = .ok (.iaload, 1) := by decide +kernel
theorem dX6_indexed_21 : decode cX6_indexed 21 = .ok (.if_icmp .ge 46, 3) := by decide +kernel
theorem dX6_indexed_24 : decode cX6_indexed 24 = .ok (.iload_n 1, 1) := by decide +kernel
theorem dX6_indexed_25 : decode cX6_indexed 25 = .ok (.aload_n 0, 1) := by decide +kernel
theorem dX6_indexed_26 : decode cX6_indexed 26 = .ok (.getfield 81, 3) := by decide +kernel
theorem dX6_indexed_29 : decode cX6_indexed 29 = .ok (.iload_n 2, 1) := by decide +kernel
theorem dX6_indexed_30 : decode cX6_indexed 30 = .ok (.iaload, 1) := by decide +kernel
theorem dX6_indexed_31 : decode cX6_indexed 31 = .ok (.iconst 1, 1) := by decide +kernel
theorem dX6_indexed_32 : decode cX6_indexed 32 = .ok (.if_icmp .ne 26, 3) := by decide +kernel
theorem dX6_indexed_35 : decode cX6_indexed 35 = .ok (.aload_n 0, 1) := by decide +kernel
theorem dX6_indexed_36 : decode cX6_indexed 36 = .ok (.aload_n 0, 1) := by decide +kernel
theorem dX6_indexed_37 : decode cX6_indexed 37 = .ok (.getfield 96, 3) := by decide +kernel
theorem dX6_indexed_40 : decode cX6_indexed 40 = .ok (.bipush 40, 2) := by decide +kernel
theorem dX6_indexed_42 : decode cX6_indexed 42 = .ok (.iload_n 2, 1) := by decide +kernel
theorem dX6_indexed_43 : decode cX6_indexed 43 = .ok (.imul, 1) := by decide +kernel
theorem dX6_indexed_44 : decode cX6_indexed 44 = .ok (.iload_n 3, 1) := by decide +kernel
theorem dX6_indexed_45 : decode cX6_indexed 45 = .ok (.iadd, 1) := by decide +kernel
theorem dX6_indexed_46 : decode cX6_indexed 46 = .ok (.iaload, 1) := by decide +kernel
theorem dX6_indexed_47 : decode cX6_indexed 47 = .ok (.iload_n 2, 1) := by decide +kernel
theorem dX6_indexed_48 : decode cX6_indexed 48 = .ok (.invokevirtual 209, 3) := by decide +kernel
theorem dX6_indexed_51 : decode cX6_indexed 51 = .ok (.ifCond .ne 7, 3) := by decide +kernel
theorem dX6_indexed_54 : decode cX6_indexed 54 = .ok (.iconst 1, 1) := by decide +kernel
theorem dX6_indexed_55 : decode cX6_indexed 55 = .ok (.goto 4, 3) := by decide +kernel
theorem dX6_indexed_58 : decode cX6_indexed 58 = .ok (.iconst 0, 1) := by decide +kernel
theorem dX6_indexed_59 : decode cX6_indexed 59 = .ok (.iadd, 1) := by decide +kernel
theorem dX6_indexed_60 : decode cX6_indexed 60 = .ok (.istore_n 1, 1) := by decide +kernel
theorem dX6_indexed_61 : decode cX6_indexed 61 = .ok (.iinc 3 1, 3) := by decide +kernel
theorem dX6_indexed_64 : decode cX6_indexed 64 = .ok (.goto (-50), 3) := by decide +kernel
theorem dX6_indexed_67 : decode cX6_indexed 67 = .ok (.iinc 2 1, 3) := by decide +kernel
theorem dX6_indexed_70 : decode cX6_indexed 70 = .ok (.goto (-66), 3) := by decide +kernel
theorem dX6_indexed_73 : decode cX6_indexed 73 = .ok (.aload_n 0, 1) := by decide +kernel
theorem dX6_indexed_74 : decode cX6_indexed 74 = .ok (.iload_n 1, 1) := by decide +kernel
theorem dX6_indexed_75 : decode cX6_indexed 75 = .ok (.invokevirtual 126, 3) := by decide +kernel
theorem dX6_indexed_78 : decode cX6_indexed 78 = .ok (.ireturn, 1) := by decide +kernel
set_option maxRecDepth 20000 in
theorem ggX6_holders_X6_holdersOf : GoodIn wsX6_holders wsX6_holdersOf := goodIn_ca (goodIn_r _ [6, 7, 8, 9, 15, 16, 17, 18, 19, 20, 21, 22, 23, 24, 25, 26, 27, 28, 29, 30, 31, 32, 33, 34, 35, 36, 37, 38, 39, 40, 41, 42, 43, 44, 45, 46, 47, 48, 49] (by decide +kernel) (by decide +kernel)) (goodIn_sub (fun _ h => List.mem_cons_of_mem _ (List.mem_append_right _ h)) (by decide +kernel))
set_option maxRecDepth 20000 in
theorem gX6_holders_X6_holdersOf : GoodIn wsX6_holders (wsV RX6 209 RX6 yX6_holdersOf wsX6_holdersOf) := goodIn_app (goodIn_of _ (by decide +kernel)) ggX6_holders_X6_holdersOf
set_option maxRecDepth 20000 in
theorem ggX6_holders_X6_tells : GoodIn wsX6_holders wsX6_tells := goodIn_r _ [13, 14, 15, 16, 17, 18, 19, 20, 21, 22, 23, 24, 25, 26, 27, 28, 29, 30, 31, 32, 33, 34, 35, 36, 37, 38, 39, 40, 41, 42, 43, 44, 45, 46, 47, 48, 49] (by decide +kernel) (by decide +kernel)
set_option maxRecDepth 20000 in
theorem gX6_holders_X6_tells : GoodIn wsX6_holders (wsV RX6 126 RX6 yX6_tells wsX6_tells) := goodIn_app (goodIn_of _ (by decide +kernel)) ggX6_holders_X6_tells
theorem dX6_holders_0 : decode cX6_holders 0 = .ok (.aload_n 0, 1) := by decide +kernel
theorem dX6_holders_1 : decode cX6_holders 1 = .ok (.aload_n 0, 1) := by decide +kernel
theorem dX6_holders_2 : decode cX6_holders 2 = .ok (.iload_n 1, 1) := by decide +kernel
theorem dX6_holders_3 : decode cX6_holders 3 = .ok (.aload_n 0, 1) := by decide +kernel
theorem dX6_holders_4 : decode cX6_holders 4 = .ok (.getfield 22, 3) := by decide +kernel
theorem dX6_holders_7 : decode cX6_holders 7 = .ok (.invokevirtual 209, 3) := by decide +kernel
theorem dX6_holders_10 : decode cX6_holders 10 = .ok (.invokevirtual 126, 3) := by decide +kernel
theorem dX6_holders_13 : decode cX6_holders 13 = .ok (.ireturn, 1) := by decide +kernel
set_option maxRecDepth 20000 in
theorem ggX6_threshold_X6_in : GoodIn wsX6_threshold wsX6_in := goodIn_r _ [5] (by decide +kernel) (by decide +kernel)
set_option maxRecDepth 20000 in
theorem gX6_threshold_X6_in : GoodIn wsX6_threshold (va_wsS RX6 118 yX6_in wsX6_in) := goodIn_app (goodIn_of _ (by decide +kernel)) ggX6_threshold_X6_in
set_option maxRecDepth 20000 in
theorem ggX6_threshold_X6_fails : GoodIn wsX6_threshold wsX6_fails := goodIn_r _ [9, 10, 15, 16, 17, 18, 19, 20, 21, 22, 23, 24, 25, 26, 27, 28, 29, 30, 31, 32, 33, 34, 35, 36, 37, 38, 39, 40, 41, 42, 43, 44, 45, 46, 47, 48, 49] (by decide +kernel) (by decide +kernel)
set_option maxRecDepth 20000 in
theorem gX6_threshold_X6_fails : GoodIn wsX6_threshold (wsV RX6 122 RX6 yX6_fails wsX6_fails) := goodIn_app (goodIn_of _ (by decide +kernel)) ggX6_threshold_X6_fails
set_option maxRecDepth 20000 in
theorem ggX6_threshold_X6_tells : GoodIn wsX6_threshold wsX6_tells := goodIn_r _ [14, 10, 15, 16, 17, 18, 19, 20, 21, 22, 23, 24, 25, 26, 27, 28, 29, 30, 31, 32, 33, 34, 35, 36, 37, 38, 39, 40, 41, 42, 43, 44, 45, 46, 47, 48, 49] (by decide +kernel) (by decide +kernel)
set_option maxRecDepth 20000 in
theorem gX6_threshold_X6_tells : GoodIn wsX6_threshold (wsV RX6 126 RX6 yX6_tells wsX6_tells) := goodIn_app (goodIn_of _ (by decide +kernel)) ggX6_threshold_X6_tells
theorem dX6_threshold_0 : decode cX6_threshold 0 = .ok (.iload_n 1, 1) := by decide +kernel
theorem dX6_threshold_1 : decode cX6_threshold 1 = .ok (.iconst 1, 1) := by decide +kernel
theorem dX6_threshold_2 : decode cX6_threshold 2 = .ok (.bipush 37, 2) := by decide +kernel
theorem dX6_threshold_4 : decode cX6_threshold 4 = .ok (.invokestatic 118, 3) := by decide +kernel
theorem dX6_threshold_7 : decode cX6_threshold 7 = .ok (.ifCond .ne 9, 3) := by decide +kernel
theorem dX6_threshold_10 : decode cX6_threshold 10 = .ok (.aload_n 0, 1) := by decide +kernel
theorem dX6_threshold_11 : decode cX6_threshold 11 = .ok (.iconst 1, 1) := by decide +kernel
theorem dX6_threshold_12 : decode cX6_threshold 12 = .ok (.invokevirtual 122, 3) := by decide +kernel
theorem dX6_threshold_15 : decode cX6_threshold 15 = .ok (.ireturn, 1) := by decide +kernel
theorem dX6_threshold_16 : decode cX6_threshold 16 = .ok (.aload_n 0, 1) := by decide +kernel
theorem dX6_threshold_17 : decode cX6_threshold 17 = .ok (.getfield 34, 3) := by decide +kernel
theorem dX6_threshold_20 : decode cX6_threshold 20 = .ok (.istore_n 2, 1) := by decide +kernel
theorem dX6_threshold_21 : decode cX6_threshold 21 = .ok (.aload_n 0, 1) := by decide +kernel
theorem dX6_threshold_22 : decode cX6_threshold 22 = .ok (.iload_n 1, 1) := by decide +kernel
theorem dX6_threshold_23 : decode cX6_threshold 23 = .ok (.putfield 34, 3) := by decide +kernel
theorem dX6_threshold_26 : decode cX6_threshold 26 = .ok (.aload_n 0, 1) := by decide +kernel
theorem dX6_threshold_27 : decode cX6_threshold 27 = .ok (.iload_n 2, 1) := by decide +kernel
theorem dX6_threshold_28 : decode cX6_threshold 28 = .ok (.invokevirtual 126, 3) := by decide +kernel
theorem dX6_threshold_31 : decode cX6_threshold 31 = .ok (.ireturn, 1) := by decide +kernel
set_option maxRecDepth 20000 in
theorem ggX6_hits_X6_tells : GoodIn wsX6_hits wsX6_tells := goodIn_r _ [6, 7, 8, 9, 10, 11, 12, 13, 14, 15, 16, 17, 18, 19, 20, 21, 22, 23, 24, 25, 26, 27, 28, 29, 30, 31, 32, 33, 34, 35, 36, 37, 38, 39, 40, 41, 42] (by decide +kernel) (by decide +kernel)
set_option maxRecDepth 20000 in
theorem gX6_hits_X6_tells : GoodIn wsX6_hits (wsV RX6 126 RX6 yX6_tells wsX6_tells) := goodIn_app (goodIn_of _ (by decide +kernel)) ggX6_hits_X6_tells
theorem dX6_hits_0 : decode cX6_hits 0 = .ok (.aload_n 0, 1) := by decide +kernel
theorem dX6_hits_1 : decode cX6_hits 1 = .ok (.aload_n 0, 1) := by decide +kernel
theorem dX6_hits_2 : decode cX6_hits 2 = .ok (.getfield 28, 3) := by decide +kernel
theorem dX6_hits_5 : decode cX6_hits 5 = .ok (.invokevirtual 126, 3) := by decide +kernel
theorem dX6_hits_8 : decode cX6_hits 8 = .ok (.ireturn, 1) := by decide +kernel
set_option maxRecDepth 20000 in
theorem ggX6_hit_X6_in : GoodIn wsX6_hit wsX6_in := goodIn_r _ [9] (by decide +kernel) (by decide +kernel)
set_option maxRecDepth 20000 in
theorem gX6_hit_X6_in : GoodIn wsX6_hit (va_wsS RX6 118 yX6_in wsX6_in) := goodIn_app (goodIn_of _ (by decide +kernel)) ggX6_hit_X6_in
set_option maxRecDepth 20000 in
theorem ggX6_hit_X6_fails : GoodIn wsX6_hit wsX6_fails := goodIn_r _ [13, 14, 19, 20, 21, 22, 23, 24, 25, 26, 27, 28, 29, 30, 31, 32, 33, 34, 35, 36, 37, 38, 39, 40, 41, 42, 43, 44, 45, 46, 47, 48, 49, 50, 51, 52, 53] (by decide +kernel) (by decide +kernel)
set_option maxRecDepth 20000 in
theorem gX6_hit_X6_fails : GoodIn wsX6_hit (wsV RX6 122 RX6 yX6_fails wsX6_fails) := goodIn_app (goodIn_of _ (by decide +kernel)) ggX6_hit_X6_fails
set_option maxRecDepth 20000 in
theorem ggX6_hit_X6_tells : GoodIn wsX6_hit wsX6_tells := goodIn_r _ [18, 14, 19, 20, 21, 22, 23, 24, 25, 26, 27, 28, 29, 30, 31, 32, 33, 34, 35, 36, 37, 38, 39, 40, 41, 42, 43, 44, 45, 46, 47, 48, 49, 50, 51, 52, 53] (by decide +kernel) (by decide +kernel)
set_option maxRecDepth 20000 in
theorem gX6_hit_X6_tells : GoodIn wsX6_hit (wsV RX6 126 RX6 yX6_tells wsX6_tells) := goodIn_app (goodIn_of _ (by decide +kernel)) ggX6_hit_X6_tells
theorem dX6_hit_0 : decode cX6_hit 0 = .ok (.iload_n 1, 1) := by decide +kernel
theorem dX6_hit_1 : decode cX6_hit 1 = .ok (.iconst 0, 1) := by decide +kernel
theorem dX6_hit_2 : decode cX6_hit 2 = .ok (.aload_n 0, 1) := by decide +kernel
theorem dX6_hit_3 : decode cX6_hit 3 = .ok (.getfield 28, 3) := by decide +kernel
theorem dX6_hit_6 : decode cX6_hit 6 = .ok (.iconst 1, 1) := by decide +kernel
theorem dX6_hit_7 : decode cX6_hit 7 = .ok (.isub, 1) := by decide +kernel
theorem dX6_hit_8 : decode cX6_hit 8 = .ok (.invokestatic 118, 3) := by decide +kernel
theorem dX6_hit_11 : decode cX6_hit 11 = .ok (.ifCond .ne 9, 3) := by decide +kernel
theorem dX6_hit_14 : decode cX6_hit 14 = .ok (.aload_n 0, 1) := by decide +kernel
theorem dX6_hit_15 : decode cX6_hit 15 = .ok (.iconst 1, 1) := by decide +kernel
theorem dX6_hit_16 : decode cX6_hit 16 = .ok (.invokevirtual 122, 3) := by decide +kernel
theorem dX6_hit_19 : decode cX6_hit 19 = .ok (.ireturn, 1) := by decide +kernel
theorem dX6_hit_20 : decode cX6_hit 20 = .ok (.iload_n 2, 1) := by decide +kernel
theorem dX6_hit_21 : decode cX6_hit 21 = .ok (.lookupswitch 87 #[(99, 65), (104, 76), (110, 43), (111, 54)], 43) := by decide +kernel
theorem dX6_hit_64 : decode cX6_hit 64 = .ok (.aload_n 0, 1) := by decide +kernel
theorem dX6_hit_65 : decode cX6_hit 65 = .ok (.aload_n 0, 1) := by decide +kernel
theorem dX6_hit_66 : decode cX6_hit 66 = .ok (.getfield 102, 3) := by decide +kernel
theorem dX6_hit_69 : decode cX6_hit 69 = .ok (.iload_n 1, 1) := by decide +kernel
theorem dX6_hit_70 : decode cX6_hit 70 = .ok (.iaload, 1) := by decide +kernel
theorem dX6_hit_71 : decode cX6_hit 71 = .ok (.invokevirtual 126, 3) := by decide +kernel
theorem dX6_hit_74 : decode cX6_hit 74 = .ok (.ireturn, 1) := by decide +kernel
theorem dX6_hit_75 : decode cX6_hit 75 = .ok (.aload_n 0, 1) := by decide +kernel
theorem dX6_hit_76 : decode cX6_hit 76 = .ok (.aload_n 0, 1) := by decide +kernel
theorem dX6_hit_77 : decode cX6_hit 77 = .ok (.getfield 105, 3) := by decide +kernel
theorem dX6_hit_80 : decode cX6_hit 80 = .ok (.iload_n 1, 1) := by decide +kernel
theorem dX6_hit_81 : decode cX6_hit 81 = .ok (.iaload, 1) := by decide +kernel
theorem dX6_hit_82 : decode cX6_hit 82 = .ok (.invokevirtual 126, 3) := by decide +kernel
theorem dX6_hit_85 : decode cX6_hit 85 = .ok (.ireturn, 1) := by decide +kernel
theorem dX6_hit_86 : decode cX6_hit 86 = .ok (.aload_n 0, 1) := by decide +kernel
theorem dX6_hit_87 : decode cX6_hit 87 = .ok (.aload_n 0, 1) := by decide +kernel
theorem dX6_hit_88 : decode cX6_hit 88 = .ok (.getfield 108, 3) := by decide +kernel
theorem dX6_hit_91 : decode cX6_hit 91 = .ok (.iload_n 1, 1) := by decide +kernel
theorem dX6_hit_92 : decode cX6_hit 92 = .ok (.iaload, 1) := by decide +kernel
theorem dX6_hit_93 : decode cX6_hit 93 = .ok (.invokevirtual 126, 3) := by decide +kernel
theorem dX6_hit_96 : decode cX6_hit 96 = .ok (.ireturn, 1) := by decide +kernel
theorem dX6_hit_97 : decode cX6_hit 97 = .ok (.aload_n 0, 1) := by decide +kernel
theorem dX6_hit_98 : decode cX6_hit 98 = .ok (.aload_n 0, 1) := by decide +kernel
theorem dX6_hit_99 : decode cX6_hit 99 = .ok (.getfield 111, 3) := by decide +kernel
theorem dX6_hit_102 : decode cX6_hit 102 = .ok (.iload_n 1, 1) := by decide +kernel
theorem dX6_hit_103 : decode cX6_hit 103 = .ok (.iaload, 1) := by decide +kernel
theorem dX6_hit_104 : decode cX6_hit 104 = .ok (.invokevirtual 126, 3) := by decide +kernel
theorem dX6_hit_107 : decode cX6_hit 107 = .ok (.ireturn, 1) := by decide +kernel
theorem dX6_hit_108 : decode cX6_hit 108 = .ok (.aload_n 0, 1) := by decide +kernel
theorem dX6_hit_109 : decode cX6_hit 109 = .ok (.iconst 2, 1) := by decide +kernel
theorem dX6_hit_110 : decode cX6_hit 110 = .ok (.invokevirtual 122, 3) := by decide +kernel
theorem dX6_hit_113 : decode cX6_hit 113 = .ok (.ireturn, 1) := by decide +kernel
theorem dX6_loses_0 : decode cX6_loses 0 = .ok (.aload_n 0, 1) := by decide +kernel
theorem dX6_loses_1 : decode cX6_loses 1 = .ok (.getfield 114, 3) := by decide +kernel
theorem dX6_loses_4 : decode cX6_loses 4 = .ok (.bipush 10, 2) := by decide +kernel
theorem dX6_loses_6 : decode cX6_loses 6 = .ok (.aload_n 0, 1) := by decide +kernel
theorem dX6_loses_7 : decode cX6_loses 7 = .ok (.getfield 66, 3) := by decide +kernel
theorem dX6_loses_10 : decode cX6_loses 10 = .ok (.iload_n 1, 1) := by decide +kernel
theorem dX6_loses_11 : decode cX6_loses 11 = .ok (.iaload, 1) := by decide +kernel
theorem dX6_loses_12 : decode cX6_loses 12 = .ok (.imul, 1) := by decide +kernel
theorem dX6_loses_13 : decode cX6_loses 13 = .ok (.aload_n 0, 1) := by decide +kernel
theorem dX6_loses_14 : decode cX6_loses 14 = .ok (.getfield 69, 3) := by decide +kernel
theorem dX6_loses_17 : decode cX6_loses 17 = .ok (.iload_n 1, 1) := by decide +kernel
theorem dX6_loses_18 : decode cX6_loses 18 = .ok (.iaload, 1) := by decide +kernel
theorem dX6_loses_19 : decode cX6_loses 19 = .ok (.iadd, 1) := by decide +kernel
theorem dX6_loses_20 : decode cX6_loses 20 = .ok (.iconst 1, 1) := by decide +kernel
theorem dX6_loses_21 : decode cX6_loses 21 = .ok (.bastore, 1) := by decide +kernel
theorem dX6_loses_22 : decode cX6_loses 22 = .ok (.return_, 1) := by decide +kernel
set_option maxRecDepth 20000 in
theorem ggX6_hear_X6_in : GoodIn wsX6_hear wsX6_in := goodIn_r _ [8] (by decide +kernel) (by decide +kernel)
set_option maxRecDepth 20000 in
theorem gX6_hear_X6_in : GoodIn wsX6_hear (va_wsS RX6 118 yX6_in wsX6_in) := goodIn_app (goodIn_of _ (by decide +kernel)) ggX6_hear_X6_in
set_option maxRecDepth 20000 in
theorem ggX6_hear_X6_fails : GoodIn wsX6_hear wsX6_fails := goodIn_r _ [12, 13, 25, 26, 27, 28, 29, 30, 31, 32, 33, 34, 35, 36, 37, 38, 39, 40, 41, 42, 43, 44, 45, 46, 47, 48, 49, 50, 51, 52, 53, 54, 55, 56, 57, 58, 59] (by decide +kernel) (by decide +kernel)
set_option maxRecDepth 20000 in
theorem gX6_hear_X6_fails : GoodIn wsX6_hear (wsV RX6 122 RX6 yX6_fails wsX6_fails) := goodIn_app (goodIn_of _ (by decide +kernel)) ggX6_hear_X6_fails
set_option maxRecDepth 20000 in
theorem ggX6_hear_X6_loses : GoodIn wsX6_hear wsX6_loses := goodIn_ca (goodIn_r _ [17, 18, 19, 20, 25, 26, 27, 28, 29, 30, 31, 32, 33, 34, 35, 36, 37, 38, 39, 40, 41, 42, 43, 44, 45, 46, 47, 48, 49, 50, 51, 52, 53, 54, 55, 56, 57, 58, 59] (by decide +kernel) (by decide +kernel)) (goodIn_sub (fun _ h => List.mem_cons_of_mem _ (List.mem_append_right _ h)) (by decide +kernel))
set_option maxRecDepth 20000 in
theorem gX6_hear_X6_loses : GoodIn wsX6_hear (wsV RX6 212 RX6 yX6_loses wsX6_loses) := goodIn_app (goodIn_of _ (by decide +kernel)) ggX6_hear_X6_loses
set_option maxRecDepth 20000 in
theorem ggX6_hear_X6_tells : GoodIn wsX6_hear wsX6_tells := goodIn_r _ [24, 13, 25, 26, 27, 28, 29, 30, 31, 32, 33, 34, 35, 36, 37, 38, 39, 40, 41, 42, 43, 44, 45, 46, 47, 48, 49, 50, 51, 52, 53, 54, 55, 56, 57, 58, 59] (by decide +kernel) (by decide +kernel)
set_option maxRecDepth 20000 in
theorem gX6_hear_X6_tells : GoodIn wsX6_hear (wsV RX6 126 RX6 yX6_tells wsX6_tells) := goodIn_app (goodIn_of _ (by decide +kernel)) ggX6_hear_X6_tells
theorem dX6_hear_0 : decode cX6_hear 0 = .ok (.iload_n 1, 1) := by decide +kernel
theorem dX6_hear_1 : decode cX6_hear 1 = .ok (.iconst 0, 1) := by decide +kernel
theorem dX6_hear_2 : decode cX6_hear 2 = .ok (.aload_n 0, 1) := by decide +kernel
theorem dX6_hear_3 : decode cX6_hear 3 = .ok (.getfield 28, 3) := by decide +kernel
theorem dX6_hear_6 : decode cX6_hear 6 = .ok (.iconst 1, 1) := by decide +kernel
theorem dX6_hear_7 : decode cX6_hear 7 = .ok (.isub, 1) := by decide +kernel
theorem dX6_hear_8 : decode cX6_hear 8 = .ok (.invokestatic 118, 3) := by decide +kernel
theorem dX6_hear_11 : decode cX6_hear 11 = .ok (.ifCond .ne 9, 3) := by decide +kernel
theorem dX6_hear_14 : decode cX6_hear 14 = .ok (.aload_n 0, 1) := by decide +kernel
theorem dX6_hear_15 : decode cX6_hear 15 = .ok (.iconst 1, 1) := by decide +kernel
theorem dX6_hear_16 : decode cX6_hear 16 = .ok (.invokevirtual 122, 3) := by decide +kernel
theorem dX6_hear_19 : decode cX6_hear 19 = .ok (.ireturn, 1) := by decide +kernel
theorem dX6_hear_20 : decode cX6_hear 20 = .ok (.iload_n 2, 1) := by decide +kernel
theorem dX6_hear_21 : decode cX6_hear 21 = .ok (.iconst 0, 1) := by decide +kernel
theorem dX6_hear_22 : decode cX6_hear 22 = .ok (.iconst 3, 1) := by decide +kernel
theorem dX6_hear_23 : decode cX6_hear 23 = .ok (.invokestatic 118, 3) := by decide +kernel
theorem dX6_hear_26 : decode cX6_hear 26 = .ok (.ifCond .ne 9, 3) := by decide +kernel
theorem dX6_hear_29 : decode cX6_hear 29 = .ok (.aload_n 0, 1) := by decide +kernel
theorem dX6_hear_30 : decode cX6_hear 30 = .ok (.iconst 2, 1) := by decide +kernel
theorem dX6_hear_31 : decode cX6_hear 31 = .ok (.invokevirtual 122, 3) := by decide +kernel
theorem dX6_hear_34 : decode cX6_hear 34 = .ok (.ireturn, 1) := by decide +kernel
theorem dX6_hear_35 : decode cX6_hear 35 = .ok (.aload_n 0, 1) := by decide +kernel
theorem dX6_hear_36 : decode cX6_hear 36 = .ok (.getfield 111, 3) := by decide +kernel
theorem dX6_hear_39 : decode cX6_hear 39 = .ok (.iload_n 1, 1) := by decide +kernel
theorem dX6_hear_40 : decode cX6_hear 40 = .ok (.iaload, 1) := by decide +kernel
theorem dX6_hear_41 : decode cX6_hear 41 = .ok (.iconst (-1), 1) := by decide +kernel
theorem dX6_hear_42 : decode cX6_hear 42 = .ok (.if_icmp .eq 9, 3) := by decide +kernel
theorem dX6_hear_45 : decode cX6_hear 45 = .ok (.aload_n 0, 1) := by decide +kernel
theorem dX6_hear_46 : decode cX6_hear 46 = .ok (.iconst 3, 1) := by decide +kernel
theorem dX6_hear_47 : decode cX6_hear 47 = .ok (.invokevirtual 122, 3) := by decide +kernel
theorem dX6_hear_50 : decode cX6_hear 50 = .ok (.ireturn, 1) := by decide +kernel
theorem dX6_hear_51 : decode cX6_hear 51 = .ok (.aload_n 0, 1) := by decide +kernel
theorem dX6_hear_52 : decode cX6_hear 52 = .ok (.getfield 111, 3) := by decide +kernel
theorem dX6_hear_55 : decode cX6_hear 55 = .ok (.iload_n 1, 1) := by decide +kernel
theorem dX6_hear_56 : decode cX6_hear 56 = .ok (.iload_n 2, 1) := by decide +kernel
theorem dX6_hear_57 : decode cX6_hear 57 = .ok (.iastore, 1) := by decide +kernel
theorem dX6_hear_58 : decode cX6_hear 58 = .ok (.iload_n 2, 1) := by decide +kernel
theorem dX6_hear_59 : decode cX6_hear 59 = .ok (.iconst 2, 1) := by decide +kernel
theorem dX6_hear_60 : decode cX6_hear 60 = .ok (.irem, 1) := by decide +kernel
theorem dX6_hear_61 : decode cX6_hear 61 = .ok (.iconst 1, 1) := by decide +kernel
theorem dX6_hear_62 : decode cX6_hear 62 = .ok (.if_icmp .ne 13, 3) := by decide +kernel
theorem dX6_hear_65 : decode cX6_hear 65 = .ok (.aload_n 0, 1) := by decide +kernel
theorem dX6_hear_66 : decode cX6_hear 66 = .ok (.aload_n 0, 1) := by decide +kernel
theorem dX6_hear_67 : decode cX6_hear 67 = .ok (.getfield 102, 3) := by decide +kernel
theorem dX6_hear_70 : decode cX6_hear 70 = .ok (.iload_n 1, 1) := by decide +kernel
theorem dX6_hear_71 : decode cX6_hear 71 = .ok (.iaload, 1) := by decide +kernel
theorem dX6_hear_72 : decode cX6_hear 72 = .ok (.invokevirtual 212, 3) := by decide +kernel
theorem dX6_hear_75 : decode cX6_hear 75 = .ok (.iload_n 2, 1) := by decide +kernel
theorem dX6_hear_76 : decode cX6_hear 76 = .ok (.iconst 2, 1) := by decide +kernel
theorem dX6_hear_77 : decode cX6_hear 77 = .ok (.idiv, 1) := by decide +kernel
theorem dX6_hear_78 : decode cX6_hear 78 = .ok (.iconst 1, 1) := by decide +kernel
theorem dX6_hear_79 : decode cX6_hear 79 = .ok (.if_icmp .ne 13, 3) := by decide +kernel
theorem dX6_hear_82 : decode cX6_hear 82 = .ok (.aload_n 0, 1) := by decide +kernel
theorem dX6_hear_83 : decode cX6_hear 83 = .ok (.aload_n 0, 1) := by decide +kernel
theorem dX6_hear_84 : decode cX6_hear 84 = .ok (.getfield 105, 3) := by decide +kernel
theorem dX6_hear_87 : decode cX6_hear 87 = .ok (.iload_n 1, 1) := by decide +kernel
theorem dX6_hear_88 : decode cX6_hear 88 = .ok (.iaload, 1) := by decide +kernel
theorem dX6_hear_89 : decode cX6_hear 89 = .ok (.invokevirtual 212, 3) := by decide +kernel
theorem dX6_hear_92 : decode cX6_hear 92 = .ok (.iconst 0, 1) := by decide +kernel
theorem dX6_hear_93 : decode cX6_hear 93 = .ok (.istore_n 3, 1) := by decide +kernel
theorem dX6_hear_94 : decode cX6_hear 94 = .ok (.iconst 0, 1) := by decide +kernel
theorem dX6_hear_95 : decode cX6_hear 95 = .ok (.istore 4, 2) := by decide +kernel
theorem dX6_hear_97 : decode cX6_hear 97 = .ok (.iload 4, 2) := by decide +kernel
theorem dX6_hear_99 : decode cX6_hear 99 = .ok (.aload_n 0, 1) := by decide +kernel
theorem dX6_hear_100 : decode cX6_hear 100 = .ok (.getfield 28, 3) := by decide +kernel
theorem dX6_hear_103 : decode cX6_hear 103 = .ok (.if_icmp .ge 28, 3) := by decide +kernel
theorem dX6_hear_106 : decode cX6_hear 106 = .ok (.iload_n 3, 1) := by decide +kernel
theorem dX6_hear_107 : decode cX6_hear 107 = .ok (.aload_n 0, 1) := by decide +kernel
theorem dX6_hear_108 : decode cX6_hear 108 = .ok (.getfield 111, 3) := by decide +kernel
theorem dX6_hear_111 : decode cX6_hear 111 = .ok (.iload 4, 2) := by decide +kernel
theorem dX6_hear_113 : decode cX6_hear 113 = .ok (.iaload, 1) := by decide +kernel
theorem dX6_hear_114 : decode cX6_hear 114 = .ok (.iconst (-1), 1) := by decide +kernel
theorem dX6_hear_115 : decode cX6_hear 115 = .ok (.if_icmp .ne 7, 3) := by decide +kernel
theorem dX6_hear_118 : decode cX6_hear 118 = .ok (.iconst 1, 1) := by decide +kernel
theorem dX6_hear_119 : decode cX6_hear 119 = .ok (.goto 4, 3) := by decide +kernel
theorem dX6_hear_122 : decode cX6_hear 122 = .ok (.iconst 0, 1) := by decide +kernel
theorem dX6_hear_123 : decode cX6_hear 123 = .ok (.iadd, 1) := by decide +kernel
theorem dX6_hear_124 : decode cX6_hear 124 = .ok (.istore_n 3, 1) := by decide +kernel
theorem dX6_hear_125 : decode cX6_hear 125 = .ok (.iinc 4 1, 3) := by decide +kernel
theorem dX6_hear_128 : decode cX6_hear 128 = .ok (.goto (-31), 3) := by decide +kernel
theorem dX6_hear_131 : decode cX6_hear 131 = .ok (.aload_n 0, 1) := by decide +kernel
theorem dX6_hear_132 : decode cX6_hear 132 = .ok (.iload_n 3, 1) := by decide +kernel
theorem dX6_hear_133 : decode cX6_hear 133 = .ok (.invokevirtual 126, 3) := by decide +kernel
theorem dX6_hear_136 : decode cX6_hear 136 = .ok (.ireturn, 1) := by decide +kernel
set_option maxRecDepth 20000 in
theorem ggX6_next_X6_fails : GoodIn wsX6_next wsX6_fails := goodIn_r _ [8, 9, 14, 15, 16, 17, 18, 19, 20, 21, 22, 23, 24, 25, 26, 27, 28, 29, 30, 31, 32, 33, 34, 35, 36, 37, 38, 39, 40, 41, 42, 43, 44, 45, 46, 47, 48] (by decide +kernel) (by decide +kernel)
set_option maxRecDepth 20000 in
theorem gX6_next_X6_fails : GoodIn wsX6_next (wsV RX6 122 RX6 yX6_fails wsX6_fails) := goodIn_app (goodIn_of _ (by decide +kernel)) ggX6_next_X6_fails
set_option maxRecDepth 20000 in
theorem ggX6_next_X6_tells : GoodIn wsX6_next wsX6_tells := goodIn_r _ [13, 9, 14, 15, 16, 17, 18, 19, 20, 21, 22, 23, 24, 25, 26, 27, 28, 29, 30, 31, 32, 33, 34, 35, 36, 37, 38, 39, 40, 41, 42, 43, 44, 45, 46, 47, 48] (by decide +kernel) (by decide +kernel)
set_option maxRecDepth 20000 in
theorem gX6_next_X6_tells : GoodIn wsX6_next (wsV RX6 126 RX6 yX6_tells wsX6_tells) := goodIn_app (goodIn_of _ (by decide +kernel)) ggX6_next_X6_tells
theorem dX6_next_0 : decode cX6_next 0 = .ok (.iconst (-1), 1) := by decide +kernel
theorem dX6_next_1 : decode cX6_next 1 = .ok (.istore_n 1, 1) := by decide +kernel
theorem dX6_next_2 : decode cX6_next 2 = .ok (.iconst 0, 1) := by decide +kernel
theorem dX6_next_3 : decode cX6_next 3 = .ok (.istore_n 2, 1) := by decide +kernel
theorem dX6_next_4 : decode cX6_next 4 = .ok (.iload_n 2, 1) := by decide +kernel
theorem dX6_next_5 : decode cX6_next 5 = .ok (.aload_n 0, 1) := by decide +kernel
theorem dX6_next_6 : decode cX6_next 6 = .ok (.getfield 28, 3) := by decide +kernel
theorem dX6_next_9 : decode cX6_next 9 = .ok (.if_icmp .ge 45, 3) := by decide +kernel
theorem dX6_next_12 : decode cX6_next 12 = .ok (.aload_n 0, 1) := by decide +kernel
theorem dX6_next_13 : decode cX6_next 13 = .ok (.getfield 111, 3) := by decide +kernel
theorem dX6_next_16 : decode cX6_next 16 = .ok (.iload_n 2, 1) := by decide +kernel
theorem dX6_next_17 : decode cX6_next 17 = .ok (.iaload, 1) := by decide +kernel
theorem dX6_next_18 : decode cX6_next 18 = .ok (.iconst (-1), 1) := by decide +kernel
theorem dX6_next_19 : decode cX6_next 19 = .ok (.if_icmp .ne 27, 3) := by decide +kernel
theorem dX6_next_22 : decode cX6_next 22 = .ok (.iload_n 1, 1) := by decide +kernel
theorem dX6_next_23 : decode cX6_next 23 = .ok (.iconst (-1), 1) := by decide +kernel
theorem dX6_next_24 : decode cX6_next 24 = .ok (.if_icmp .eq 18, 3) := by decide +kernel
theorem dX6_next_27 : decode cX6_next 27 = .ok (.aload_n 0, 1) := by decide +kernel
theorem dX6_next_28 : decode cX6_next 28 = .ok (.getfield 108, 3) := by decide +kernel
theorem dX6_next_31 : decode cX6_next 31 = .ok (.iload_n 2, 1) := by decide +kernel
theorem dX6_next_32 : decode cX6_next 32 = .ok (.iaload, 1) := by decide +kernel
theorem dX6_next_33 : decode cX6_next 33 = .ok (.aload_n 0, 1) := by decide +kernel
theorem dX6_next_34 : decode cX6_next 34 = .ok (.getfield 108, 3) := by decide +kernel
theorem dX6_next_37 : decode cX6_next 37 = .ok (.iload_n 1, 1) := by decide +kernel
theorem dX6_next_38 : decode cX6_next 38 = .ok (.iaload, 1) := by decide +kernel
theorem dX6_next_39 : decode cX6_next 39 = .ok (.if_icmp .le 7, 3) := by decide +kernel
theorem dX6_next_42 : decode cX6_next 42 = .ok (.iload_n 2, 1) := by decide +kernel
theorem dX6_next_43 : decode cX6_next 43 = .ok (.goto 4, 3) := by decide +kernel
theorem dX6_next_46 : decode cX6_next 46 = .ok (.iload_n 1, 1) := by decide +kernel
theorem dX6_next_47 : decode cX6_next 47 = .ok (.istore_n 1, 1) := by decide +kernel
theorem dX6_next_48 : decode cX6_next 48 = .ok (.iinc 2 1, 3) := by decide +kernel
theorem dX6_next_51 : decode cX6_next 51 = .ok (.goto (-47), 3) := by decide +kernel
theorem dX6_next_54 : decode cX6_next 54 = .ok (.iload_n 1, 1) := by decide +kernel
theorem dX6_next_55 : decode cX6_next 55 = .ok (.iconst (-1), 1) := by decide +kernel
theorem dX6_next_56 : decode cX6_next 56 = .ok (.if_icmp .ne 11, 3) := by decide +kernel
theorem dX6_next_59 : decode cX6_next 59 = .ok (.aload_n 0, 1) := by decide +kernel
theorem dX6_next_60 : decode cX6_next 60 = .ok (.iconst 1, 1) := by decide +kernel
theorem dX6_next_61 : decode cX6_next 61 = .ok (.invokevirtual 122, 3) := by decide +kernel
theorem dX6_next_64 : decode cX6_next 64 = .ok (.goto 8, 3) := by decide +kernel
theorem dX6_next_67 : decode cX6_next 67 = .ok (.aload_n 0, 1) := by decide +kernel
theorem dX6_next_68 : decode cX6_next 68 = .ok (.iload_n 1, 1) := by decide +kernel
theorem dX6_next_69 : decode cX6_next 69 = .ok (.invokevirtual 126, 3) := by decide +kernel
theorem dX6_next_72 : decode cX6_next 72 = .ok (.ireturn, 1) := by decide +kernel
set_option maxRecDepth 20000 in
theorem ggX6_byteSumOf_X6_charsOf : GoodIn wsX6_byteSumOf wsX6_charsOf := goodIn_r _ [6, 7] (by decide +kernel) (by decide +kernel)
set_option maxRecDepth 20000 in
theorem gX6_byteSumOf_X6_charsOf : GoodIn wsX6_byteSumOf (va_wsS RX6 138 yX6_charsOf wsX6_charsOf) := goodIn_app (goodIn_of _ (by decide +kernel)) ggX6_byteSumOf_X6_charsOf
set_option maxRecDepth 20000 in
theorem ggX6_byteSumOf_X6_charOf : GoodIn wsX6_byteSumOf wsX6_charOf := goodIn_r _ [10, 7, 11, 12, 13] (by decide +kernel) (by decide +kernel)
set_option maxRecDepth 20000 in
theorem gX6_byteSumOf_X6_charOf : GoodIn wsX6_byteSumOf (va_wsS RX6 151 yX6_charOf wsX6_charOf) := goodIn_app (goodIn_of _ (by decide +kernel)) ggX6_byteSumOf_X6_charOf
theorem dX6_byteSumOf_0 : decode cX6_byteSumOf 0 = .ok (.iconst 0, 1) := by decide +kernel
theorem dX6_byteSumOf_1 : decode cX6_byteSumOf 1 = .ok (.istore_n 2, 1) := by decide +kernel
theorem dX6_byteSumOf_2 : decode cX6_byteSumOf 2 = .ok (.iconst 0, 1) := by decide +kernel
theorem dX6_byteSumOf_3 : decode cX6_byteSumOf 3 = .ok (.istore_n 3, 1) := by decide +kernel
theorem dX6_byteSumOf_4 : decode cX6_byteSumOf 4 = .ok (.iload_n 3, 1) := by decide +kernel
theorem dX6_byteSumOf_5 : decode cX6_byteSumOf 5 = .ok (.aload_n 0, 1) := by decide +kernel
theorem dX6_byteSumOf_6 : decode cX6_byteSumOf 6 = .ok (.getfield 78, 3) := by decide +kernel
theorem dX6_byteSumOf_9 : decode cX6_byteSumOf 9 = .ok (.iload_n 1, 1) := by decide +kernel
theorem dX6_byteSumOf_10 : decode cX6_byteSumOf 10 = .ok (.iaload, 1) := by decide +kernel
theorem dX6_byteSumOf_11 : decode cX6_byteSumOf 11 = .ok (.if_icmp .ge 52, 3) := by decide +kernel
theorem dX6_byteSumOf_14 : decode cX6_byteSumOf 14 = .ok (.aload_n 0, 1) := by decide +kernel
theorem dX6_byteSumOf_15 : decode cX6_byteSumOf 15 = .ok (.getfield 93, 3) := by decide +kernel
theorem dX6_byteSumOf_18 : decode cX6_byteSumOf 18 = .ok (.bipush 40, 2) := by decide +kernel
theorem dX6_byteSumOf_20 : decode cX6_byteSumOf 20 = .ok (.iload_n 1, 1) := by decide +kernel
theorem dX6_byteSumOf_21 : decode cX6_byteSumOf 21 = .ok (.imul, 1) := by decide +kernel
theorem dX6_byteSumOf_22 : decode cX6_byteSumOf 22 = .ok (.iload_n 3, 1) := by decide +kernel
theorem dX6_byteSumOf_23 : decode cX6_byteSumOf 23 = .ok (.iadd, 1) := by decide +kernel
theorem dX6_byteSumOf_24 : decode cX6_byteSumOf 24 = .ok (.iaload, 1) := by decide +kernel
theorem dX6_byteSumOf_25 : decode cX6_byteSumOf 25 = .ok (.istore 4, 2) := by decide +kernel
theorem dX6_byteSumOf_27 : decode cX6_byteSumOf 27 = .ok (.iconst 0, 1) := by decide +kernel
theorem dX6_byteSumOf_28 : decode cX6_byteSumOf 28 = .ok (.istore 5, 2) := by decide +kernel
theorem dX6_byteSumOf_30 : decode cX6_byteSumOf 30 = .ok (.iload 5, 2) := by decide +kernel
theorem dX6_byteSumOf_32 : decode cX6_byteSumOf 32 = .ok (.iload 4, 2) := by decide +kernel
theorem dX6_byteSumOf_34 : decode cX6_byteSumOf 34 = .ok (.invokestatic 138, 3) := by decide +kernel
theorem dX6_byteSumOf_37 : decode cX6_byteSumOf 37 = .ok (.if_icmp .ge 20, 3) := by decide +kernel
theorem dX6_byteSumOf_40 : decode cX6_byteSumOf 40 = .ok (.iload_n 2, 1) := by decide +kernel
theorem dX6_byteSumOf_41 : decode cX6_byteSumOf 41 = .ok (.iload 4, 2) := by decide +kernel
theorem dX6_byteSumOf_43 : decode cX6_byteSumOf 43 = .ok (.iload 5, 2) := by decide +kernel
theorem dX6_byteSumOf_45 : decode cX6_byteSumOf 45 = .ok (.invokestatic 151, 3) := by decide +kernel
theorem dX6_byteSumOf_48 : decode cX6_byteSumOf 48 = .ok (.iadd, 1) := by decide +kernel
theorem dX6_byteSumOf_49 : decode cX6_byteSumOf 49 = .ok (.i2b, 1) := by decide +kernel
theorem dX6_byteSumOf_50 : decode cX6_byteSumOf 50 = .ok (.istore_n 2, 1) := by decide +kernel
theorem dX6_byteSumOf_51 : decode cX6_byteSumOf 51 = .ok (.iinc 5 1, 3) := by decide +kernel
theorem dX6_byteSumOf_54 : decode cX6_byteSumOf 54 = .ok (.goto (-24), 3) := by decide +kernel
theorem dX6_byteSumOf_57 : decode cX6_byteSumOf 57 = .ok (.iinc 3 1, 3) := by decide +kernel
theorem dX6_byteSumOf_60 : decode cX6_byteSumOf 60 = .ok (.goto (-56), 3) := by decide +kernel
theorem dX6_byteSumOf_63 : decode cX6_byteSumOf 63 = .ok (.iload_n 2, 1) := by decide +kernel
theorem dX6_byteSumOf_64 : decode cX6_byteSumOf 64 = .ok (.ireturn, 1) := by decide +kernel
set_option maxRecDepth 20000 in
theorem ggX6_byteSum_X6_isVersion : GoodIn wsX6_byteSum wsX6_isVersion := goodIn_r _ [6, 7, 8, 9, 5, 10, 27, 28, 29, 30, 31, 32, 33, 34, 35, 36, 37, 38, 39, 40, 41, 42, 43, 44, 45, 46, 47, 48, 49, 50, 51, 52, 53, 54, 55, 56, 57, 58, 59, 60, 61] (by decide +kernel) (by decide +kernel)
set_option maxRecDepth 20000 in
theorem gX6_byteSum_X6_isVersion : GoodIn wsX6_byteSum (wsV RX6 165 RX6 yX6_isVersion wsX6_isVersion) := goodIn_app (goodIn_of _ (by decide +kernel)) ggX6_byteSum_X6_isVersion
set_option maxRecDepth 20000 in
theorem ggX6_byteSum_X6_byteSumOf : GoodIn wsX6_byteSum wsX6_byteSumOf := goodIn_ca (goodIn_r _ [14, 15, 16, 17, 18, 5, 19, 20, 21, 22, 23, 24, 25, 26, 27, 28, 29, 30, 31, 32, 33, 34, 35, 36, 37, 38, 39, 40, 41, 42, 43, 44, 45, 46, 47, 48, 49, 50, 51, 52, 53, 54, 55, 56, 57, 58, 59, 60, 61] (by decide +kernel) (by decide +kernel)) (goodIn_sub (fun _ h => List.mem_cons_of_mem _ (List.mem_append_right _ h)) (by decide +kernel))
set_option maxRecDepth 20000 in
theorem gX6_byteSum_X6_byteSumOf : GoodIn wsX6_byteSum (wsV RX6 215 RX6 yX6_byteSumOf wsX6_byteSumOf) := goodIn_app (goodIn_of _ (by decide +kernel)) ggX6_byteSum_X6_byteSumOf
theorem dX6_byteSum_0 : decode cX6_byteSum 0 = .ok (.aload_n 0, 1) := by decide +kernel
theorem dX6_byteSum_1 : decode cX6_byteSum 1 = .ok (.aload_n 0, 1) := by decide +kernel
theorem dX6_byteSum_2 : decode cX6_byteSum 2 = .ok (.iload_n 1, 1) := by decide +kernel
theorem dX6_byteSum_3 : decode cX6_byteSum 3 = .ok (.invokevirtual 165, 3) := by decide +kernel
theorem dX6_byteSum_6 : decode cX6_byteSum 6 = .ok (.ifCond .eq 7, 3) := by decide +kernel
theorem dX6_byteSum_9 : decode cX6_byteSum 9 = .ok (.iconst 0, 1) := by decide +kernel
theorem dX6_byteSum_10 : decode cX6_byteSum 10 = .ok (.goto 4, 3) := by decide +kernel
theorem dX6_byteSum_13 : decode cX6_byteSum 13 = .ok (.iconst 1, 1) := by decide +kernel
theorem dX6_byteSum_14 : decode cX6_byteSum 14 = .ok (.putfield 37, 3) := by decide +kernel
theorem dX6_byteSum_17 : decode cX6_byteSum 17 = .ok (.aload_n 0, 1) := by decide +kernel
theorem dX6_byteSum_18 : decode cX6_byteSum 18 = .ok (.getfield 37, 3) := by decide +kernel
theorem dX6_byteSum_21 : decode cX6_byteSum 21 = .ok (.ifCond .le 7, 3) := by decide +kernel
theorem dX6_byteSum_24 : decode cX6_byteSum 24 = .ok (.iconst 0, 1) := by decide +kernel
theorem dX6_byteSum_25 : decode cX6_byteSum 25 = .ok (.goto 8, 3) := by decide +kernel
theorem dX6_byteSum_28 : decode cX6_byteSum 28 = .ok (.aload_n 0, 1) := by decide +kernel
theorem dX6_byteSum_29 : decode cX6_byteSum 29 = .ok (.iload_n 1, 1) := by decide +kernel
theorem dX6_byteSum_30 : decode cX6_byteSum 30 = .ok (.invokevirtual 215, 3) := by decide +kernel
theorem dX6_byteSum_33 : decode cX6_byteSum 33 = .ok (.ireturn, 1) := by decide +kernel
set_option maxRecDepth 20000 in
theorem ggX6_shortSum_X6_isVersion : GoodIn wsX6_shortSum wsX6_isVersion := goodIn_r _ [8, 9, 10, 11, 7, 12, 23, 24, 25, 26, 27, 28, 29, 30, 31, 32, 33, 34, 35, 36, 37, 38, 39, 40, 41, 42, 43, 44, 45, 46, 47, 48, 49, 50, 51, 52, 53, 54, 55, 56, 57] (by decide +kernel) (by decide +kernel)
set_option maxRecDepth 20000 in
theorem gX6_shortSum_X6_isVersion : GoodIn wsX6_shortSum (wsV RX6 165 RX6 yX6_isVersion wsX6_isVersion) := goodIn_app (goodIn_of _ (by decide +kernel)) ggX6_shortSum_X6_isVersion
set_option maxRecDepth 20000 in
theorem ggX6_shortSum_X6_charsOf : GoodIn wsX6_shortSum wsX6_charsOf := goodIn_r _ [15, 16] (by decide +kernel) (by decide +kernel)
set_option maxRecDepth 20000 in
theorem gX6_shortSum_X6_charsOf : GoodIn wsX6_shortSum (va_wsS RX6 138 yX6_charsOf wsX6_charsOf) := goodIn_app (goodIn_of _ (by decide +kernel)) ggX6_shortSum_X6_charsOf
set_option maxRecDepth 20000 in
theorem ggX6_shortSum_X6_charOf : GoodIn wsX6_shortSum wsX6_charOf := goodIn_r _ [19, 16, 20, 21, 22] (by decide +kernel) (by decide +kernel)
set_option maxRecDepth 20000 in
theorem gX6_shortSum_X6_charOf : GoodIn wsX6_shortSum (va_wsS RX6 151 yX6_charOf wsX6_charOf) := goodIn_app (goodIn_of _ (by decide +kernel)) ggX6_shortSum_X6_charOf
theorem dX6_shortSum_0 : decode cX6_shortSum 0 = .ok (.aload_n 0, 1) := by decide +kernel
theorem dX6_shortSum_1 : decode cX6_shortSum 1 = .ok (.aload_n 0, 1) := by decide +kernel
theorem dX6_shortSum_2 : decode cX6_shortSum 2 = .ok (.iload_n 1, 1) := by decide +kernel
theorem dX6_shortSum_3 : decode cX6_shortSum 3 = .ok (.invokevirtual 165, 3) := by decide +kernel
theorem dX6_shortSum_6 : decode cX6_shortSum 6 = .ok (.ifCond .eq 7, 3) := by decide +kernel
theorem dX6_shortSum_9 : decode cX6_shortSum 9 = .ok (.iconst 0, 1) := by decide +kernel
theorem dX6_shortSum_10 : decode cX6_shortSum 10 = .ok (.goto 4, 3) := by decide +kernel
theorem dX6_shortSum_13 : decode cX6_shortSum 13 = .ok (.iconst 1, 1) := by decide +kernel
theorem dX6_shortSum_14 : decode cX6_shortSum 14 = .ok (.putfield 37, 3) := by decide +kernel
theorem dX6_shortSum_17 : decode cX6_shortSum 17 = .ok (.iconst 0, 1) := by decide +kernel
theorem dX6_shortSum_18 : decode cX6_shortSum 18 = .ok (.istore_n 2, 1) := by decide +kernel
theorem dX6_shortSum_19 : decode cX6_shortSum 19 = .ok (.iconst 0, 1) := by decide +kernel
theorem dX6_shortSum_20 : decode cX6_shortSum 20 = .ok (.istore_n 3, 1) := by decide +kernel
theorem dX6_shortSum_21 : decode cX6_shortSum 21 = .ok (.aload_n 0, 1) := by decide +kernel
theorem dX6_shortSum_22 : decode cX6_shortSum 22 = .ok (.getfield 37, 3) := by decide +kernel
theorem dX6_shortSum_25 : decode cX6_shortSum 25 = .ok (.ifCond .ne 65, 3) := by decide +kernel
theorem dX6_shortSum_28 : decode cX6_shortSum 28 = .ok (.iload_n 3, 1) := by decide +kernel
theorem dX6_shortSum_29 : decode cX6_shortSum 29 = .ok (.aload_n 0, 1) := by decide +kernel
theorem dX6_shortSum_30 : decode cX6_shortSum 30 = .ok (.getfield 78, 3) := by decide +kernel
theorem dX6_shortSum_33 : decode cX6_shortSum 33 = .ok (.iload_n 1, 1) := by decide +kernel
theorem dX6_shortSum_34 : decode cX6_shortSum 34 = .ok (.iaload, 1) := by decide +kernel
theorem dX6_shortSum_35 : decode cX6_shortSum 35 = .ok (.if_icmp .ge 55, 3) := by decide +kernel
theorem dX6_shortSum_38 : decode cX6_shortSum 38 = .ok (.aload_n 0, 1) := by decide +kernel
theorem dX6_shortSum_39 : decode cX6_shortSum 39 = .ok (.getfield 93, 3) := by decide +kernel
theorem dX6_shortSum_42 : decode cX6_shortSum 42 = .ok (.bipush 40, 2) := by decide +kernel
theorem dX6_shortSum_44 : decode cX6_shortSum 44 = .ok (.iload_n 1, 1) := by decide +kernel
theorem dX6_shortSum_45 : decode cX6_shortSum 45 = .ok (.imul, 1) := by decide +kernel
theorem dX6_shortSum_46 : decode cX6_shortSum 46 = .ok (.iload_n 3, 1) := by decide +kernel
theorem dX6_shortSum_47 : decode cX6_shortSum 47 = .ok (.iadd, 1) := by decide +kernel
theorem dX6_shortSum_48 : decode cX6_shortSum 48 = .ok (.iaload, 1) := by decide +kernel
theorem dX6_shortSum_49 : decode cX6_shortSum 49 = .ok (.istore 4, 2) := by decide +kernel
theorem dX6_shortSum_51 : decode cX6_shortSum 51 = .ok (.iconst 0, 1) := by decide +kernel
theorem dX6_shortSum_52 : decode cX6_shortSum 52 = .ok (.istore 5, 2) := by decide +kernel
theorem dX6_shortSum_54 : decode cX6_shortSum 54 = .ok (.iload 5, 2) := by decide +kernel
theorem dX6_shortSum_56 : decode cX6_shortSum 56 = .ok (.iload 4, 2) := by decide +kernel
theorem dX6_shortSum_58 : decode cX6_shortSum 58 = .ok (.invokestatic 138, 3) := by decide +kernel
theorem dX6_shortSum_61 : decode cX6_shortSum 61 = .ok (.if_icmp .ge 23, 3) := by decide +kernel
theorem dX6_shortSum_64 : decode cX6_shortSum 64 = .ok (.bipush 31, 2) := by decide +kernel
theorem dX6_shortSum_66 : decode cX6_shortSum 66 = .ok (.iload_n 2, 1) := by decide +kernel
theorem dX6_shortSum_67 : decode cX6_shortSum 67 = .ok (.imul, 1) := by decide +kernel
theorem dX6_shortSum_68 : decode cX6_shortSum 68 = .ok (.iload 4, 2) := by decide +kernel
theorem dX6_shortSum_70 : decode cX6_shortSum 70 = .ok (.iload 5, 2) := by decide +kernel
theorem dX6_shortSum_72 : decode cX6_shortSum 72 = .ok (.invokestatic 151, 3) := by decide +kernel
theorem dX6_shortSum_75 : decode cX6_shortSum 75 = .ok (.iadd, 1) := by decide +kernel
theorem dX6_shortSum_76 : decode cX6_shortSum 76 = .ok (.i2s, 1) := by decide +kernel
theorem dX6_shortSum_77 : decode cX6_shortSum 77 = .ok (.istore_n 2, 1) := by decide +kernel
theorem dX6_shortSum_78 : decode cX6_shortSum 78 = .ok (.iinc 5 1, 3) := by decide +kernel
theorem dX6_shortSum_81 : decode cX6_shortSum 81 = .ok (.goto (-27), 3) := by decide +kernel
theorem dX6_shortSum_84 : decode cX6_shortSum 84 = .ok (.iinc 3 1, 3) := by decide +kernel
theorem dX6_shortSum_87 : decode cX6_shortSum 87 = .ok (.goto (-66), 3) := by decide +kernel
theorem dX6_shortSum_90 : decode cX6_shortSum 90 = .ok (.iload_n 2, 1) := by decide +kernel
theorem dX6_shortSum_91 : decode cX6_shortSum 91 = .ok (.ireturn, 1) := by decide +kernel
set_option maxRecDepth 20000 in
theorem ggX6_packed_X6_isVersion : GoodIn wsX6_packed wsX6_isVersion := goodIn_r _ [9, 10, 11, 12, 8, 13, 30, 31, 32, 33, 34, 35, 36, 37, 38, 39, 40, 41, 42, 43, 44, 45, 46, 47, 48, 49, 50, 51, 52, 53, 54, 55, 56, 57, 58, 59, 60, 61, 62, 63, 64] (by decide +kernel) (by decide +kernel)
set_option maxRecDepth 20000 in
theorem gX6_packed_X6_isVersion : GoodIn wsX6_packed (wsV RX6 165 RX6 yX6_isVersion wsX6_isVersion) := goodIn_app (goodIn_of _ (by decide +kernel)) ggX6_packed_X6_isVersion
set_option maxRecDepth 20000 in
theorem ggX6_packed_X6_byteSumOf : GoodIn wsX6_packed wsX6_byteSumOf := goodIn_ca (goodIn_r _ [17, 18, 19, 20, 21, 8, 22, 23, 24, 25, 26, 27, 28, 29, 30, 31, 32, 33, 34, 35, 36, 37, 38, 39, 40, 41, 42, 43, 44, 45, 46, 47, 48, 49, 50, 51, 52, 53, 54, 55, 56, 57, 58, 59, 60, 61, 62, 63, 64] (by decide +kernel) (by decide +kernel)) (goodIn_sub (fun _ h => List.mem_cons_of_mem _ (List.mem_append_right _ h)) (by decide +kernel))
set_option maxRecDepth 20000 in
theorem gX6_packed_X6_byteSumOf : GoodIn wsX6_packed (wsV RX6 215 RX6 yX6_byteSumOf wsX6_byteSumOf) := goodIn_app (goodIn_of _ (by decide +kernel)) ggX6_packed_X6_byteSumOf
theorem dX6_packed_0 : decode cX6_packed 0 = .ok (.aload_n 0, 1) := by decide +kernel
theorem dX6_packed_1 : decode cX6_packed 1 = .ok (.aload_n 0, 1) := by decide +kernel
theorem dX6_packed_2 : decode cX6_packed 2 = .ok (.iload_n 1, 1) := by decide +kernel
theorem dX6_packed_3 : decode cX6_packed 3 = .ok (.invokevirtual 165, 3) := by decide +kernel
theorem dX6_packed_6 : decode cX6_packed 6 = .ok (.ifCond .eq 7, 3) := by decide +kernel
theorem dX6_packed_9 : decode cX6_packed 9 = .ok (.iconst 0, 1) := by decide +kernel
theorem dX6_packed_10 : decode cX6_packed 10 = .ok (.goto 4, 3) := by decide +kernel
theorem dX6_packed_13 : decode cX6_packed 13 = .ok (.iconst 1, 1) := by decide +kernel
theorem dX6_packed_14 : decode cX6_packed 14 = .ok (.putfield 37, 3) := by decide +kernel
theorem dX6_packed_17 : decode cX6_packed 17 = .ok (.aload_n 0, 1) := by decide +kernel
theorem dX6_packed_18 : decode cX6_packed 18 = .ok (.getfield 37, 3) := by decide +kernel
theorem dX6_packed_21 : decode cX6_packed 21 = .ok (.ifCond .le 5, 3) := by decide +kernel
theorem dX6_packed_24 : decode cX6_packed 24 = .ok (.lconst 0, 1) := by decide +kernel
theorem dX6_packed_25 : decode cX6_packed 25 = .ok (.lreturn, 1) := by decide +kernel
theorem dX6_packed_26 : decode cX6_packed 26 = .ok (.iload_n 1, 1) := by decide +kernel
theorem dX6_packed_27 : decode cX6_packed 27 = .ok (.i2l, 1) := by decide +kernel
theorem dX6_packed_28 : decode cX6_packed 28 = .ok (.bipush 48, 2) := by decide +kernel
theorem dX6_packed_30 : decode cX6_packed 30 = .ok (.lshl, 1) := by decide +kernel
theorem dX6_packed_31 : decode cX6_packed 31 = .ok (.aload_n 0, 1) := by decide +kernel
theorem dX6_packed_32 : decode cX6_packed 32 = .ok (.iload_n 1, 1) := by decide +kernel
theorem dX6_packed_33 : decode cX6_packed 33 = .ok (.invokevirtual 215, 3) := by decide +kernel
theorem dX6_packed_36 : decode cX6_packed 36 = .ok (.sipush 255, 3) := by decide +kernel
theorem dX6_packed_39 : decode cX6_packed 39 = .ok (.iand, 1) := by decide +kernel
theorem dX6_packed_40 : decode cX6_packed 40 = .ok (.i2l, 1) := by decide +kernel
theorem dX6_packed_41 : decode cX6_packed 41 = .ok (.bipush 40, 2) := by decide +kernel
theorem dX6_packed_43 : decode cX6_packed 43 = .ok (.lshl, 1) := by decide +kernel
theorem dX6_packed_44 : decode cX6_packed 44 = .ok (.lor, 1) := by decide +kernel
theorem dX6_packed_45 : decode cX6_packed 45 = .ok (.lstore_n 2, 1) := by decide +kernel
theorem dX6_packed_46 : decode cX6_packed 46 = .ok (.lload_n 2, 1) := by decide +kernel
theorem dX6_packed_47 : decode cX6_packed 47 = .ok (.aload_n 0, 1) := by decide +kernel
theorem dX6_packed_48 : decode cX6_packed 48 = .ok (.getfield 66, 3) := by decide +kernel
theorem dX6_packed_51 : decode cX6_packed 51 = .ok (.iload_n 1, 1) := by decide +kernel
theorem dX6_packed_52 : decode cX6_packed 52 = .ok (.iaload, 1) := by decide +kernel
theorem dX6_packed_53 : decode cX6_packed 53 = .ok (.i2l, 1) := by decide +kernel
theorem dX6_packed_54 : decode cX6_packed 54 = .ok (.bipush 36, 2) := by decide +kernel
theorem dX6_packed_56 : decode cX6_packed 56 = .ok (.lshl, 1) := by decide +kernel
theorem dX6_packed_57 : decode cX6_packed 57 = .ok (.lor, 1) := by decide +kernel
theorem dX6_packed_58 : decode cX6_packed 58 = .ok (.aload_n 0, 1) := by decide +kernel
theorem dX6_packed_59 : decode cX6_packed 59 = .ok (.getfield 69, 3) := by decide +kernel
theorem dX6_packed_62 : decode cX6_packed 62 = .ok (.iload_n 1, 1) := by decide +kernel
theorem dX6_packed_63 : decode cX6_packed 63 = .ok (.iaload, 1) := by decide +kernel
theorem dX6_packed_64 : decode cX6_packed 64 = .ok (.i2l, 1) := by decide +kernel
theorem dX6_packed_65 : decode cX6_packed 65 = .ok (.bipush 32, 2) := by decide +kernel
theorem dX6_packed_67 : decode cX6_packed 67 = .ok (.lshl, 1) := by decide +kernel
theorem dX6_packed_68 : decode cX6_packed 68 = .ok (.lor, 1) := by decide +kernel
theorem dX6_packed_69 : decode cX6_packed 69 = .ok (.aload_n 0, 1) := by decide +kernel
theorem dX6_packed_70 : decode cX6_packed 70 = .ok (.getfield 75, 3) := by decide +kernel
theorem dX6_packed_73 : decode cX6_packed 73 = .ok (.iload_n 1, 1) := by decide +kernel
theorem dX6_packed_74 : decode cX6_packed 74 = .ok (.iaload, 1) := by decide +kernel
theorem dX6_packed_75 : decode cX6_packed 75 = .ok (.i2l, 1) := by decide +kernel
theorem dX6_packed_76 : decode cX6_packed 76 = .ok (.lor, 1) := by decide +kernel
theorem dX6_packed_77 : decode cX6_packed 77 = .ok (.lreturn, 1) := by decide +kernel
