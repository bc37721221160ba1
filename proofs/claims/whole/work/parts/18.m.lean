-- X11_repair (III)J: 201 instructions
set_option maxRecDepth 20000 in
theorem ggX11_repair_X11_isClient : GoodIn wsX11_repair wsX11_isClient := goodIn_r _ [17, 18, 19, 16, 20] (by decide +kernel) (by decide +kernel)
set_option maxRecDepth 20000 in
theorem gX11_repair_X11_isClient : GoodIn wsX11_repair (va_wsS RX11 191 yX11_isClient wsX11_isClient) := goodIn_app (goodIn_of _ (by decide +kernel)) ggX11_repair_X11_isClient
set_option maxRecDepth 20000 in
theorem ggX11_repair_X11_isObject : GoodIn wsX11_repair wsX11_isObject := goodIn_r _ [23, 18, 19, 16, 20] (by decide +kernel) (by decide +kernel)
set_option maxRecDepth 20000 in
theorem gX11_repair_X11_isObject : GoodIn wsX11_repair (va_wsS RX11 194 yX11_isObject wsX11_isObject) := goodIn_app (goodIn_of _ (by decide +kernel)) ggX11_repair_X11_isObject
set_option maxRecDepth 20000 in
theorem ggX11_repair_X11_kindOf : GoodIn wsX11_repair wsX11_kindOf := goodIn_r _ [27, 28, 6, 29, 30, 79, 80, 81, 82, 83, 84, 85, 86, 87, 88, 89, 90, 91, 92, 93, 94, 95, 96, 97, 98, 99, 100, 101, 102, 103, 104, 105, 106, 107, 108, 109, 110, 111, 112, 113, 114, 115, 116, 117, 118, 119, 120, 121, 122, 123, 124, 125, 126, 127, 128, 129, 130, 131, 132, 133, 134, 135, 136, 137, 138, 139, 140, 141, 142, 143, 144, 145] (by decide +kernel) (by decide +kernel)
set_option maxRecDepth 20000 in
theorem gX11_repair_X11_kindOf : GoodIn wsX11_repair (wsV RX11 278 RX11 yX11_kindOf wsX11_kindOf) := goodIn_app (goodIn_of _ (by decide +kernel)) ggX11_repair_X11_kindOf
set_option maxRecDepth 20000 in
theorem ggX11_repair_X11_isAlone : GoodIn wsX11_repair wsX11_isAlone := goodIn_r _ [34, 35, 36, 37, 38, 16, 39, 3, 40, 41, 42, 43, 44, 45, 79, 80, 81, 82, 83, 84, 85, 86, 87, 88, 89, 90, 91, 92, 93, 94, 95, 96, 97, 98, 99, 100, 101, 102, 103, 104, 105, 106, 107, 108, 109, 110, 111, 112, 113, 114, 115, 116, 117, 118, 119, 120, 121, 122, 123, 124, 125, 126, 127, 128, 129, 130, 131, 132, 133, 134, 135, 136, 137, 138, 139, 140, 141, 142, 143, 144, 145] (by decide +kernel) (by decide +kernel)
set_option maxRecDepth 20000 in
theorem gX11_repair_X11_isAlone : GoodIn wsX11_repair (wsV RX11 238 RX11 yX11_isAlone wsX11_isAlone) := goodIn_app (goodIn_of _ (by decide +kernel)) ggX11_repair_X11_isAlone
set_option maxRecDepth 20000 in
theorem ggX11_repair_X11_nearSet : GoodIn wsX11_repair wsX11_nearSet := goodIn_r _ [39, 3, 40, 41, 42, 16, 43, 44, 45, 79, 80, 81, 82, 83, 84, 85, 86, 87, 88, 89, 90, 91, 92, 93, 94, 95, 96, 97, 98, 99, 100, 101, 102, 103, 104, 105, 106, 107, 108, 109, 110, 111, 112, 113, 114, 115, 116, 117, 118, 119, 120, 121, 122, 123, 124, 125, 126, 127, 128, 129, 130, 131, 132, 133, 134, 135, 136, 137, 138, 139, 140, 141, 142, 143, 144, 145] (by decide +kernel) (by decide +kernel)
set_option maxRecDepth 20000 in
theorem gX11_repair_X11_nearSet : GoodIn wsX11_repair (wsV RX11 180 RX11 yX11_nearSet wsX11_nearSet) := goodIn_app (goodIn_of _ (by decide +kernel)) ggX11_repair_X11_nearSet
set_option maxRecDepth 20000 in
theorem ggX11_repair_X11_copyTo : GoodIn wsX11_repair wsX11_copyTo := goodIn_r _ [49] (by decide +kernel) (by decide +kernel)
set_option maxRecDepth 20000 in
theorem gX11_repair_X11_copyTo : GoodIn wsX11_repair (wsV RX11 234 RX11 yX11_copyTo wsX11_copyTo) := goodIn_app (goodIn_of _ (by decide +kernel)) ggX11_repair_X11_copyTo
set_option maxRecDepth 20000 in
theorem ggX11_repair_X11_isSame : GoodIn wsX11_repair wsX11_isSame := goodIn_r _ [53, 54, 79, 80, 81, 82, 83, 84, 85, 86, 87, 88, 89, 90, 91, 92, 93, 94, 95, 96, 97, 98, 99, 100, 101, 102, 103, 104, 105, 106, 107, 108, 109, 110, 111, 112, 113, 114, 115, 116, 117, 118, 119, 120, 121, 122, 123, 124, 125, 126, 127, 128, 129, 130, 131, 132, 133, 134, 135, 136, 137, 138, 139, 140, 141, 142, 143, 144, 145] (by decide +kernel) (by decide +kernel)
set_option maxRecDepth 20000 in
theorem gX11_repair_X11_isSame : GoodIn wsX11_repair (wsV RX11 275 RX11 yX11_isSame wsX11_isSame) := goodIn_app (goodIn_of _ (by decide +kernel)) ggX11_repair_X11_isSame
set_option maxRecDepth 20000 in
theorem ggX11_repair_X11_phases : GoodIn wsX11_repair wsX11_phases := goodIn_r _ [58, 59, 11, 3, 60, 61, 9, 62, 63, 64, 16, 65, 66, 67, 68, 69, 70, 79, 80, 81, 82, 83, 84, 85, 86, 87, 88, 89, 90, 91, 92, 93, 94, 95, 96, 97, 98, 99, 100, 101, 102, 103, 104, 105, 106, 107, 108, 109, 110, 111, 112, 113, 114, 115, 116, 117, 118, 119, 120, 121, 122, 123, 124, 125, 126, 127, 128, 129, 130, 131, 132, 133, 134, 135, 136, 137, 138, 139, 140, 141, 142, 143, 144, 145] (by decide +kernel) (by decide +kernel)
set_option maxRecDepth 20000 in
theorem gX11_repair_X11_phases : GoodIn wsX11_repair (wsV RX11 305 RX11 yX11_phases wsX11_phases) := goodIn_app (goodIn_of _ (by decide +kernel)) ggX11_repair_X11_phases
set_option maxRecDepth 20000 in
theorem ggX11_repair_X11_endPromises : GoodIn wsX11_repair wsX11_endPromises := goodIn_r _ [74, 75, 79, 80, 81, 82, 83, 84, 85, 86, 87, 88, 89, 90, 91, 92, 93, 94, 95, 96, 97, 98, 99, 100, 101, 102, 103, 104, 105, 106, 107, 108, 109, 110, 111, 112, 113, 114, 115, 116, 117, 118, 119, 120, 121, 122, 123, 124, 125, 126, 127, 128, 129, 130, 131, 132, 133, 134, 135, 136, 137, 138, 139, 140, 141, 142, 143, 144, 145] (by decide +kernel) (by decide +kernel)
set_option maxRecDepth 20000 in
theorem gX11_repair_X11_endPromises : GoodIn wsX11_repair (wsV RX11 315 RX11 yX11_endPromises wsX11_endPromises) := goodIn_app (goodIn_of _ (by decide +kernel)) ggX11_repair_X11_endPromises
set_option maxRecDepth 20000 in
theorem ggX11_repair_X11_manyOf : GoodIn wsX11_repair wsX11_manyOf := goodIn_r _ [78] (by decide +kernel) (by decide +kernel)
set_option maxRecDepth 20000 in
theorem gX11_repair_X11_manyOf : GoodIn wsX11_repair (va_wsS RX11 333 yX11_manyOf wsX11_manyOf) := goodIn_app (goodIn_of _ (by decide +kernel)) ggX11_repair_X11_manyOf
theorem dX11_repair_0 : decode cX11_repair 0 = .ok (.aload_n 0, 1) := by decide +kernel
theorem dX11_repair_1 : decode cX11_repair 1 = .ok (.iload_n 1, 1) := by decide +kernel
theorem dX11_repair_2 : decode cX11_repair 2 = .ok (.invokestatic 191, 3) := by decide +kernel
theorem dX11_repair_5 : decode cX11_repair 5 = .ok (.ifCond .eq 14, 3) := by decide +kernel
theorem dX11_repair_8 : decode cX11_repair 8 = .ok (.iload_n 2, 1) := by decide +kernel
theorem dX11_repair_9 : decode cX11_repair 9 = .ok (.invokestatic 194, 3) := by decide +kernel
theorem dX11_repair_12 : decode cX11_repair 12 = .ok (.ifCond .eq 7, 3) := by decide +kernel
theorem dX11_repair_15 : decode cX11_repair 15 = .ok (.iconst 0, 1) := by decide +kernel
theorem dX11_repair_16 : decode cX11_repair 16 = .ok (.goto 4, 3) := by decide +kernel
theorem dX11_repair_19 : decode cX11_repair 19 = .ok (.iconst 1, 1) := by decide +kernel
theorem dX11_repair_20 : decode cX11_repair 20 = .ok (.putfield 165, 3) := by decide +kernel
theorem dX11_repair_23 : decode cX11_repair 23 = .ok (.aload_n 0, 1) := by decide +kernel
theorem dX11_repair_24 : decode cX11_repair 24 = .ok (.getfield 165, 3) := by decide +kernel
theorem dX11_repair_27 : decode cX11_repair 27 = .ok (.ifCond .le 5, 3) := by decide +kernel
theorem dX11_repair_30 : decode cX11_repair 30 = .ok (.lconst 0, 1) := by decide +kernel
theorem dX11_repair_31 : decode cX11_repair 31 = .ok (.lreturn, 1) := by decide +kernel
theorem dX11_repair_32 : decode cX11_repair 32 = .ok (.aload_n 0, 1) := by decide +kernel
theorem dX11_repair_33 : decode cX11_repair 33 = .ok (.iload_n 2, 1) := by decide +kernel
theorem dX11_repair_34 : decode cX11_repair 34 = .ok (.iconst 0, 1) := by decide +kernel
theorem dX11_repair_35 : decode cX11_repair 35 = .ok (.invokevirtual 278, 3) := by decide +kernel
theorem dX11_repair_38 : decode cX11_repair 38 = .ok (.lstore 4, 2) := by decide +kernel
theorem dX11_repair_40 : decode cX11_repair 40 = .ok (.lload 4, 2) := by decide +kernel
theorem dX11_repair_42 : decode cX11_repair 42 = .ok (.lconst 0, 1) := by decide +kernel
theorem dX11_repair_43 : decode cX11_repair 43 = .ok (.lcmp, 1) := by decide +kernel
theorem dX11_repair_44 : decode cX11_repair 44 = .ok (.ifCond .eq 6, 3) := by decide +kernel
theorem dX11_repair_47 : decode cX11_repair 47 = .ok (.lload 4, 2) := by decide +kernel
theorem dX11_repair_49 : decode cX11_repair 49 = .ok (.lreturn, 1) := by decide +kernel
theorem dX11_repair_50 : decode cX11_repair 50 = .ok (.aload_n 0, 1) := by decide +kernel
theorem dX11_repair_51 : decode cX11_repair 51 = .ok (.iload_n 1, 1) := by decide +kernel
theorem dX11_repair_52 : decode cX11_repair 52 = .ok (.invokevirtual 238, 3) := by decide +kernel
theorem dX11_repair_55 : decode cX11_repair 55 = .ok (.ifCond .eq 7, 3) := by decide +kernel
theorem dX11_repair_58 : decode cX11_repair 58 = .ok (.ldc2_w 371, 3) := by decide +kernel
theorem dX11_repair_61 : decode cX11_repair 61 = .ok (.lreturn, 1) := by decide +kernel
theorem dX11_repair_62 : decode cX11_repair 62 = .ok (.aload_n 0, 1) := by decide +kernel
theorem dX11_repair_63 : decode cX11_repair 63 = .ok (.iload_n 1, 1) := by decide +kernel
theorem dX11_repair_64 : decode cX11_repair 64 = .ok (.invokevirtual 180, 3) := by decide +kernel
theorem dX11_repair_67 : decode cX11_repair 67 = .ok (.istore 6, 2) := by decide +kernel
theorem dX11_repair_69 : decode cX11_repair 69 = .ok (.iconst (-1), 1) := by decide +kernel
theorem dX11_repair_70 : decode cX11_repair 70 = .ok (.istore 7, 2) := by decide +kernel
theorem dX11_repair_72 : decode cX11_repair 72 = .ok (.aload_n 0, 1) := by decide +kernel
theorem dX11_repair_73 : decode cX11_repair 73 = .ok (.getfield 155, 3) := by decide +kernel
theorem dX11_repair_76 : decode cX11_repair 76 = .ok (.iconst 1, 1) := by decide +kernel
theorem dX11_repair_77 : decode cX11_repair 77 = .ok (.isub, 1) := by decide +kernel
theorem dX11_repair_78 : decode cX11_repair 78 = .ok (.istore 8, 2) := by decide +kernel
theorem dX11_repair_80 : decode cX11_repair 80 = .ok (.iload 8, 2) := by decide +kernel
theorem dX11_repair_82 : decode cX11_repair 82 = .ok (.ifCond .lt 59, 3) := by decide +kernel
theorem dX11_repair_85 : decode cX11_repair 85 = .ok (.iload 6, 2) := by decide +kernel
theorem dX11_repair_87 : decode cX11_repair 87 = .ok (.iload 8, 2) := by decide +kernel
theorem dX11_repair_89 : decode cX11_repair 89 = .ok (.ishr, 1) := by decide +kernel
theorem dX11_repair_90 : decode cX11_repair 90 = .ok (.iconst 1, 1) := by decide +kernel
theorem dX11_repair_91 : decode cX11_repair 91 = .ok (.iand, 1) := by decide +kernel
theorem dX11_repair_92 : decode cX11_repair 92 = .ok (.iconst 1, 1) := by decide +kernel
theorem dX11_repair_93 : decode cX11_repair 93 = .ok (.if_icmp .ne 38, 3) := by decide +kernel
theorem dX11_repair_96 : decode cX11_repair 96 = .ok (.aload_n 0, 1) := by decide +kernel
theorem dX11_repair_97 : decode cX11_repair 97 = .ok (.getfield 32, 3) := by decide +kernel
theorem dX11_repair_100 : decode cX11_repair 100 = .ok (.bipush 48, 2) := by decide +kernel
theorem dX11_repair_102 : decode cX11_repair 102 = .ok (.iload 8, 2) := by decide +kernel
theorem dX11_repair_104 : decode cX11_repair 104 = .ok (.imul, 1) := by decide +kernel
theorem dX11_repair_105 : decode cX11_repair 105 = .ok (.iload_n 2, 1) := by decide +kernel
theorem dX11_repair_106 : decode cX11_repair 106 = .ok (.iadd, 1) := by decide +kernel
theorem dX11_repair_107 : decode cX11_repair 107 = .ok (.baload, 1) := by decide +kernel
theorem dX11_repair_108 : decode cX11_repair 108 = .ok (.ifCond .eq 23, 3) := by decide +kernel
theorem dX11_repair_111 : decode cX11_repair 111 = .ok (.aload_n 0, 1) := by decide +kernel
theorem dX11_repair_112 : decode cX11_repair 112 = .ok (.getfield 44, 3) := by decide +kernel
theorem dX11_repair_115 : decode cX11_repair 115 = .ok (.bipush 48, 2) := by decide +kernel
theorem dX11_repair_117 : decode cX11_repair 117 = .ok (.iload 8, 2) := by decide +kernel
theorem dX11_repair_119 : decode cX11_repair 119 = .ok (.imul, 1) := by decide +kernel
theorem dX11_repair_120 : decode cX11_repair 120 = .ok (.iload_n 2, 1) := by decide +kernel
theorem dX11_repair_121 : decode cX11_repair 121 = .ok (.iadd, 1) := by decide +kernel
theorem dX11_repair_122 : decode cX11_repair 122 = .ok (.iaload, 1) := by decide +kernel
theorem dX11_repair_123 : decode cX11_repair 123 = .ok (.ifCond .le 8, 3) := by decide +kernel
theorem dX11_repair_126 : decode cX11_repair 126 = .ok (.iload 8, 2) := by decide +kernel
theorem dX11_repair_128 : decode cX11_repair 128 = .ok (.goto 5, 3) := by decide +kernel
theorem dX11_repair_131 : decode cX11_repair 131 = .ok (.iload 7, 2) := by decide +kernel
theorem dX11_repair_133 : decode cX11_repair 133 = .ok (.istore 7, 2) := by decide +kernel
theorem dX11_repair_135 : decode cX11_repair 135 = .ok (.iinc 8 (-1), 3) := by decide +kernel
theorem dX11_repair_138 : decode cX11_repair 138 = .ok (.goto (-58), 3) := by decide +kernel
theorem dX11_repair_141 : decode cX11_repair 141 = .ok (.iload 7, 2) := by decide +kernel
theorem dX11_repair_143 : decode cX11_repair 143 = .ok (.iconst (-1), 1) := by decide +kernel
theorem dX11_repair_144 : decode cX11_repair 144 = .ok (.if_icmp .eq 23, 3) := by decide +kernel
theorem dX11_repair_147 : decode cX11_repair 147 = .ok (.iload_n 3, 1) := by decide +kernel
theorem dX11_repair_148 : decode cX11_repair 148 = .ok (.ifCond .lt 19, 3) := by decide +kernel
theorem dX11_repair_151 : decode cX11_repair 151 = .ok (.iload_n 3, 1) := by decide +kernel
theorem dX11_repair_152 : decode cX11_repair 152 = .ok (.aload_n 0, 1) := by decide +kernel
theorem dX11_repair_153 : decode cX11_repair 153 = .ok (.getfield 44, 3) := by decide +kernel
theorem dX11_repair_156 : decode cX11_repair 156 = .ok (.bipush 48, 2) := by decide +kernel
theorem dX11_repair_158 : decode cX11_repair 158 = .ok (.iload 7, 2) := by decide +kernel
theorem dX11_repair_160 : decode cX11_repair 160 = .ok (.imul, 1) := by decide +kernel
theorem dX11_repair_161 : decode cX11_repair 161 = .ok (.iload_n 2, 1) := by decide +kernel
theorem dX11_repair_162 : decode cX11_repair 162 = .ok (.iadd, 1) := by decide +kernel
theorem dX11_repair_163 : decode cX11_repair 163 = .ok (.iaload, 1) := by decide +kernel
theorem dX11_repair_164 : decode cX11_repair 164 = .ok (.if_icmp .lt 7, 3) := by decide +kernel
theorem dX11_repair_167 : decode cX11_repair 167 = .ok (.ldc2_w 172, 3) := by decide +kernel
theorem dX11_repair_170 : decode cX11_repair 170 = .ok (.lreturn, 1) := by decide +kernel
theorem dX11_repair_171 : decode cX11_repair 171 = .ok (.bipush 6, 2) := by decide +kernel
theorem dX11_repair_173 : decode cX11_repair 173 = .ok (.bipush 48, 2) := by decide +kernel
theorem dX11_repair_175 : decode cX11_repair 175 = .ok (.iload 7, 2) := by decide +kernel
theorem dX11_repair_177 : decode cX11_repair 177 = .ok (.imul, 1) := by decide +kernel
theorem dX11_repair_178 : decode cX11_repair 178 = .ok (.iload_n 2, 1) := by decide +kernel
theorem dX11_repair_179 : decode cX11_repair 179 = .ok (.iadd, 1) := by decide +kernel
theorem dX11_repair_180 : decode cX11_repair 180 = .ok (.imul, 1) := by decide +kernel
theorem dX11_repair_181 : decode cX11_repair 181 = .ok (.iload_n 3, 1) := by decide +kernel
theorem dX11_repair_182 : decode cX11_repair 182 = .ok (.iadd, 1) := by decide +kernel
theorem dX11_repair_183 : decode cX11_repair 183 = .ok (.istore 8, 2) := by decide +kernel
theorem dX11_repair_185 : decode cX11_repair 185 = .ok (.aload_n 0, 1) := by decide +kernel
theorem dX11_repair_186 : decode cX11_repair 186 = .ok (.getfield 47, 3) := by decide +kernel
theorem dX11_repair_189 : decode cX11_repair 189 = .ok (.iload 8, 2) := by decide +kernel
theorem dX11_repair_191 : decode cX11_repair 191 = .ok (.iaload, 1) := by decide +kernel
theorem dX11_repair_192 : decode cX11_repair 192 = .ok (.istore 9, 2) := by decide +kernel
theorem dX11_repair_194 : decode cX11_repair 194 = .ok (.aload_n 0, 1) := by decide +kernel
theorem dX11_repair_195 : decode cX11_repair 195 = .ok (.getfield 50, 3) := by decide +kernel
theorem dX11_repair_198 : decode cX11_repair 198 = .ok (.iload 8, 2) := by decide +kernel
theorem dX11_repair_200 : decode cX11_repair 200 = .ok (.iaload, 1) := by decide +kernel
theorem dX11_repair_201 : decode cX11_repair 201 = .ok (.istore 10, 2) := by decide +kernel
theorem dX11_repair_203 : decode cX11_repair 203 = .ok (.aload_n 0, 1) := by decide +kernel
theorem dX11_repair_204 : decode cX11_repair 204 = .ok (.aload_n 0, 1) := by decide +kernel
theorem dX11_repair_205 : decode cX11_repair 205 = .ok (.getfield 41, 3) := by decide +kernel
theorem dX11_repair_208 : decode cX11_repair 208 = .ok (.bipush 48, 2) := by decide +kernel
theorem dX11_repair_210 : decode cX11_repair 210 = .ok (.iload 7, 2) := by decide +kernel
theorem dX11_repair_212 : decode cX11_repair 212 = .ok (.imul, 1) := by decide +kernel
theorem dX11_repair_213 : decode cX11_repair 213 = .ok (.iload_n 2, 1) := by decide +kernel
theorem dX11_repair_214 : decode cX11_repair 214 = .ok (.iadd, 1) := by decide +kernel
theorem dX11_repair_215 : decode cX11_repair 215 = .ok (.aload_n 0, 1) := by decide +kernel
theorem dX11_repair_216 : decode cX11_repair 216 = .ok (.getfield 125, 3) := by decide +kernel
theorem dX11_repair_219 : decode cX11_repair 219 = .ok (.iconst 0, 1) := by decide +kernel
theorem dX11_repair_220 : decode cX11_repair 220 = .ok (.invokevirtual 234, 3) := by decide +kernel
theorem dX11_repair_223 : decode cX11_repair 223 = .ok (.aload_n 0, 1) := by decide +kernel
theorem dX11_repair_224 : decode cX11_repair 224 = .ok (.iconst 0, 1) := by decide +kernel
theorem dX11_repair_225 : decode cX11_repair 225 = .ok (.putfield 289, 3) := by decide +kernel
theorem dX11_repair_228 : decode cX11_repair 228 = .ok (.iconst 0, 1) := by decide +kernel
theorem dX11_repair_229 : decode cX11_repair 229 = .ok (.istore 11, 2) := by decide +kernel
theorem dX11_repair_231 : decode cX11_repair 231 = .ok (.iload 11, 2) := by decide +kernel
theorem dX11_repair_233 : decode cX11_repair 233 = .ok (.aload_n 0, 1) := by decide +kernel
theorem dX11_repair_234 : decode cX11_repair 234 = .ok (.getfield 155, 3) := by decide +kernel
theorem dX11_repair_237 : decode cX11_repair 237 = .ok (.if_icmp .ge 96, 3) := by decide +kernel
theorem dX11_repair_240 : decode cX11_repair 240 = .ok (.bipush 48, 2) := by decide +kernel
theorem dX11_repair_242 : decode cX11_repair 242 = .ok (.iload 11, 2) := by decide +kernel
theorem dX11_repair_244 : decode cX11_repair 244 = .ok (.imul, 1) := by decide +kernel
theorem dX11_repair_245 : decode cX11_repair 245 = .ok (.iload_n 2, 1) := by decide +kernel
theorem dX11_repair_246 : decode cX11_repair 246 = .ok (.iadd, 1) := by decide +kernel
theorem dX11_repair_247 : decode cX11_repair 247 = .ok (.istore 12, 2) := by decide +kernel
theorem dX11_repair_249 : decode cX11_repair 249 = .ok (.iload 6, 2) := by decide +kernel
theorem dX11_repair_251 : decode cX11_repair 251 = .ok (.iload 11, 2) := by decide +kernel
theorem dX11_repair_253 : decode cX11_repair 253 = .ok (.ishr, 1) := by decide +kernel
theorem dX11_repair_254 : decode cX11_repair 254 = .ok (.iconst 1, 1) := by decide +kernel
theorem dX11_repair_255 : decode cX11_repair 255 = .ok (.iand, 1) := by decide +kernel
theorem dX11_repair_256 : decode cX11_repair 256 = .ok (.iconst 1, 1) := by decide +kernel
theorem dX11_repair_257 : decode cX11_repair 257 = .ok (.if_icmp .ne 70, 3) := by decide +kernel
theorem dX11_repair_260 : decode cX11_repair 260 = .ok (.aload_n 0, 1) := by decide +kernel
theorem dX11_repair_261 : decode cX11_repair 261 = .ok (.getfield 32, 3) := by decide +kernel
theorem dX11_repair_264 : decode cX11_repair 264 = .ok (.iload 12, 2) := by decide +kernel
theorem dX11_repair_266 : decode cX11_repair 266 = .ok (.baload, 1) := by decide +kernel
theorem dX11_repair_267 : decode cX11_repair 267 = .ok (.ifCond .eq 60, 3) := by decide +kernel
theorem dX11_repair_270 : decode cX11_repair 270 = .ok (.aload_n 0, 1) := by decide +kernel
theorem dX11_repair_271 : decode cX11_repair 271 = .ok (.aload_n 0, 1) := by decide +kernel
theorem dX11_repair_272 : decode cX11_repair 272 = .ok (.getfield 41, 3) := by decide +kernel
theorem dX11_repair_275 : decode cX11_repair 275 = .ok (.iload 12, 2) := by decide +kernel
theorem dX11_repair_277 : decode cX11_repair 277 = .ok (.aload_n 0, 1) := by decide +kernel
theorem dX11_repair_278 : decode cX11_repair 278 = .ok (.getfield 125, 3) := by decide +kernel
theorem dX11_repair_281 : decode cX11_repair 281 = .ok (.iconst 0, 1) := by decide +kernel
theorem dX11_repair_282 : decode cX11_repair 282 = .ok (.invokevirtual 275, 3) := by decide +kernel
theorem dX11_repair_285 : decode cX11_repair 285 = .ok (.ifCond .eq 42, 3) := by decide +kernel
theorem dX11_repair_288 : decode cX11_repair 288 = .ok (.aload_n 0, 1) := by decide +kernel
theorem dX11_repair_289 : decode cX11_repair 289 = .ok (.aload_n 0, 1) := by decide +kernel
theorem dX11_repair_290 : decode cX11_repair 290 = .ok (.getfield 289, 3) := by decide +kernel
theorem dX11_repair_293 : decode cX11_repair 293 = .ok (.iconst 1, 1) := by decide +kernel
theorem dX11_repair_294 : decode cX11_repair 294 = .ok (.iload 11, 2) := by decide +kernel
theorem dX11_repair_296 : decode cX11_repair 296 = .ok (.ishl, 1) := by decide +kernel
theorem dX11_repair_297 : decode cX11_repair 297 = .ok (.ior, 1) := by decide +kernel
theorem dX11_repair_298 : decode cX11_repair 298 = .ok (.putfield 289, 3) := by decide +kernel
theorem dX11_repair_301 : decode cX11_repair 301 = .ok (.aload_n 0, 1) := by decide +kernel
theorem dX11_repair_302 : decode cX11_repair 302 = .ok (.getfield 35, 3) := by decide +kernel
theorem dX11_repair_305 : decode cX11_repair 305 = .ok (.iload 12, 2) := by decide +kernel
theorem dX11_repair_307 : decode cX11_repair 307 = .ok (.iload 9, 2) := by decide +kernel
theorem dX11_repair_309 : decode cX11_repair 309 = .ok (.iastore, 1) := by decide +kernel
theorem dX11_repair_310 : decode cX11_repair 310 = .ok (.aload_n 0, 1) := by decide +kernel
theorem dX11_repair_311 : decode cX11_repair 311 = .ok (.getfield 38, 3) := by decide +kernel
theorem dX11_repair_314 : decode cX11_repair 314 = .ok (.iload 12, 2) := by decide +kernel
theorem dX11_repair_316 : decode cX11_repair 316 = .ok (.iload 10, 2) := by decide +kernel
theorem dX11_repair_318 : decode cX11_repair 318 = .ok (.iastore, 1) := by decide +kernel
theorem dX11_repair_319 : decode cX11_repair 319 = .ok (.aload_n 0, 1) := by decide +kernel
theorem dX11_repair_320 : decode cX11_repair 320 = .ok (.getfield 44, 3) := by decide +kernel
theorem dX11_repair_323 : decode cX11_repair 323 = .ok (.iload 12, 2) := by decide +kernel
theorem dX11_repair_325 : decode cX11_repair 325 = .ok (.iconst 0, 1) := by decide +kernel
theorem dX11_repair_326 : decode cX11_repair 326 = .ok (.iastore, 1) := by decide +kernel
theorem dX11_repair_327 : decode cX11_repair 327 = .ok (.iinc 11 1, 3) := by decide +kernel
theorem dX11_repair_330 : decode cX11_repair 330 = .ok (.goto (-99), 3) := by decide +kernel
theorem dX11_repair_333 : decode cX11_repair 333 = .ok (.aload_n 0, 1) := by decide +kernel
theorem dX11_repair_334 : decode cX11_repair 334 = .ok (.iload_n 2, 1) := by decide +kernel
theorem dX11_repair_335 : decode cX11_repair 335 = .ok (.invokevirtual 305, 3) := by decide +kernel
theorem dX11_repair_338 : decode cX11_repair 338 = .ok (.aload_n 0, 1) := by decide +kernel
theorem dX11_repair_339 : decode cX11_repair 339 = .ok (.iload_n 2, 1) := by decide +kernel
theorem dX11_repair_340 : decode cX11_repair 340 = .ok (.aload_n 0, 1) := by decide +kernel
theorem dX11_repair_341 : decode cX11_repair 341 = .ok (.getfield 289, 3) := by decide +kernel
theorem dX11_repair_344 : decode cX11_repair 344 = .ok (.iconst (-1), 1) := by decide +kernel
theorem dX11_repair_345 : decode cX11_repair 345 = .ok (.invokevirtual 315, 3) := by decide +kernel
theorem dX11_repair_348 : decode cX11_repair 348 = .ok (.aload_n 0, 1) := by decide +kernel
theorem dX11_repair_349 : decode cX11_repair 349 = .ok (.getfield 289, 3) := by decide +kernel
theorem dX11_repair_352 : decode cX11_repair 352 = .ok (.invokestatic 333, 3) := by decide +kernel
theorem dX11_repair_355 : decode cX11_repair 355 = .ok (.i2l, 1) := by decide +kernel
theorem dX11_repair_356 : decode cX11_repair 356 = .ok (.lreturn, 1) := by decide +kernel
def f_X11_repair_L231 (a2 : Int32) (v15 : Int32) (v25 : Int32) (v26 : Int32) (J333 : gM → Option (Int64 × gM)) : Nat → Int32 → gM → Option (Int64 × gM)
  | 0, _, _ => none
  | n41 + 1, x39, M40 => lt (M40 m_o 0) (fun v42 => (if v42 ≤ x39 then J333 M40 else lt ((((48 : Int32) * x39) + a2)) (fun x44 => jn (fun (M45 : gM) => lt (x39 + 1) (fun x46 => f_X11_repair_L231 a2 v15 v25 v26 J333 n41 x46 M45)) (fun J327 => (if ((v15 >>> (x39 &&& 31)) &&& (1 : Int32)) = (1 : Int32) then rd M40 m_has 192 x44 (fun v48 => (if v48 = 0 then J327 M40 else o1 (f_X11_isSame M40 m_vector x44 m_row (0 : Int32)) (fun v51 => (if v51 = 0 then J327 M40 else lt (M40 m_o 51) (fun v53 => lt (gset M40 m_o 51 (v53 ||| ((1 : Int32) <<< (x39 &&& 31)))) (fun M54 => wr M54 m_value 192 x44 v25 (fun M55 => wr M55 m_size 192 x44 v26 (fun M56 => wr M56 m_versions 192 x44 (0 : Int32) (fun M57 => J327 M57))))))))) else J327 M40)))))
def f_X11_repair_L80 (a2 : Int32) (a3 : Int32) (v15 : Int32) (J141 : (Int32 × gM) → Option (Int64 × gM)) : Nat → Int32 → Int32 → gM → Option (Int64 × gM)
  | 0, _, _, _ => none
  | n61 + 1, x58, x59, M60 => (if x59 < 0 then J141 (x58, M60) else jn (fun (q : (Int32 × gM)) => match q with | (b63, M64) => lt (x59 + (-1)) (fun x65 => f_X11_repair_L80 a2 a3 v15 J141 n61 b63 x65 M64)) (fun J133 => jn (fun (M66 : gM) => J133 (x58, M66)) (fun J131 => (if ((v15 >>> (x59 &&& 31)) &&& (1 : Int32)) = (1 : Int32) then rd M60 m_has 192 (((48 : Int32) * x59) + a2) (fun v68 => (if v68 = 0 then J131 M60 else rd M60 m_versions 192 (((48 : Int32) * x59) + a2) (fun v70 => (if v70 ≤ 0 then J131 M60 else J133 (x59, M60))))) else J131 M60))))
def f_X11_repair (M : gM) (a1 : Int32) (a2 : Int32) (a3 : Int32) : Option (Int64 × gM) :=
  o1 (f_X11_isClient M a1) (fun v2 => jn (fun (q : (Int32 × gM)) => match q with | (b3, M4) => lt (gset M4 m_o 66 b3) (fun M5 => lt (M5 m_o 66) (fun v6 => (if v6 ≤ 0 then o1 (f_X11_kindOf M5 a2 (0 : Int32)) (fun v9 => (if (lg_cmp v9 (0 : Int64)) = 0 then o1 (f_X11_isAlone M5 a1) (fun v12 => (if v12 = 0 then o1 (f_X11_nearSet M5 a1) (fun v15 => lt (M5 m_o 0) (fun v16 => lt ((v16 - (1 : Int32))) (fun x17 => jn (fun (q : (Int32 × gM)) => match q with | (b18, M19) => (if b18 = (-1 : Int32) then some ((-2199023255552 : Int64), M19) else (if a3 < 0 then some ((-2199023255552 : Int64), M19) else rd M19 m_versions 192 (((48 : Int32) * b18) + a2) (fun v22 => (if a3 < v22 then lt ((((6 : Int32) * (((48 : Int32) * b18) + a2)) + a3)) (fun x24 => rd M19 m_versionValue 1152 x24 (fun v25 => rd M19 m_versionSize 1152 x24 (fun v26 => o1 (f_X11_copyTo M19 m_vector (((48 : Int32) * b18) + a2) m_row (0 : Int32)) (fun M28 => lt (gset M28 m_o 51 (0 : Int32)) (fun M29 => jn (fun (M30 : gM) => o1 (f_X11_phases M30 a2) (fun M32 => lt (M32 m_o 51) (fun v33 => o1 (f_X11_endPromises M32 a2 v33 (-1 : Int32)) (fun M35 => lt (M35 m_o 51) (fun v36 => o1 (f_X11_manyOf M35 v36) (fun v38 => some (v38.toInt64, M35))))))) (fun J333 => f_X11_repair_L231 a2 v15 v25 v26 J333 100 (0 : Int32) M29)))))) else some ((-2199023255552 : Int64), M19)))))) (fun J141 => f_X11_repair_L80 a2 a3 v15 J141 100 (-1 : Int32) x17 M5)))) else some ((-2199023255560 : Int64), M5))) else some (v9, M5))) else some ((0 : Int64), M5))))) (fun J20 => jn (fun (M72 : gM) => J20 ((1 : Int32), M72)) (fun J19 => (if v2 = 0 then J19 M else o1 (f_X11_isObject M a2) (fun v75 => (if v75 = 0 then J19 M else J20 ((0 : Int32), M)))))))
set_option maxHeartbeats 4000000 in
set_option maxRecDepth 100000 in
theorem t_X11_repair (l : Launch) (D : va_G) (dA : Nat → ClassId) (A : gI → Nat) (hJ : gJ mLive A) {M : gM} {a1 : Int32} {a2 : Int32} {a3 : Int32}  {y : (Int64 × gM)} (h : f_X11_repair M a1 a2 a3 = some y) : mMl l yX11_repair wsX11_repair ({ frames := 3, cells := 0, slots := 0, locals := 66 } : Room) D dA A [.ref (A m_o), .int a1, .int a2, .int a3] M y.1 y.2 := by
  refine Met.ofW (cc := cX11_repair) (maxL := 13) (ret := (some .long)) (by decide) rfl ?_
  intro p e s m args below meth c s₁ B hml hv
  obtain ⟨rfl, hP, hK⟩ := hv
  generalize hargs : ([.ref (A m_o), .int a1, .int a2, .int a3] : List Value).toArray = args at B ⊢
  have S : CallFix p m c cX11_repair 13 s args wsX11_repair RX11 := ⟨B.exec, B.bytes, hml, findClass_of_methodNamed B.named, atoms_spec (ws := wsX11_repair) B.pre⟩
  obtain ⟨hx, hb, -, hown, hts⟩ := id S
  have hr := B.returns
  have hlocks := B.notSynchronized
  have X : gX D vwCl dA mLive A (gA mLive A) s := ⟨hK, hJ, fun i hi => ⟨i, hi, rfl⟩⟩
  have Z : gZ D mLay dA mLive A (gA mLive A) s.heap M s.heap [] := ⟨hP, va_S.rf⟩
  have hin : ∀ w ∈ wsX110, w ∈ wsX11_repair := fun w h => List.mem_cons_of_mem _ (List.mem_append_right _ h)
  have hl_32 := hts (.fieldLink RX11 32 "ReplicaFilesModel" "has" "[Z") (by decide +kernel)
  have hl_35 := hts (.fieldLink RX11 35 "ReplicaFilesModel" "value" "[I") (by decide +kernel)
  have hl_38 := hts (.fieldLink RX11 38 "ReplicaFilesModel" "size" "[I") (by decide +kernel)
  have hl_41 := hts (.fieldLink RX11 41 "ReplicaFilesModel" "vector" "[I") (by decide +kernel)
  have hl_44 := hts (.fieldLink RX11 44 "ReplicaFilesModel" "versions" "[I") (by decide +kernel)
  have hl_47 := hts (.fieldLink RX11 47 "ReplicaFilesModel" "versionValue" "[I") (by decide +kernel)
  have hl_50 := hts (.fieldLink RX11 50 "ReplicaFilesModel" "versionSize" "[I") (by decide +kernel)
  have hl_125 := hts (.fieldLink RX11 125 "ReplicaFilesModel" "row" "[I") (by decide +kernel)
  have hl_155 := hts (.fieldLink RX11 155 "ReplicaFilesModel" "servers" "I") (by decide +kernel)
  have hl_165 := hts (.fieldLink RX11 165 "ReplicaFilesModel" "thrown" "I") (by decide +kernel)
  have hl_289 := hts (.fieldLink RX11 289 "ReplicaFilesModel" "set" "I") (by decide +kernel)
  have hc_172 := hts (.constantLong RX11 172 (-2199023255552)) (by decide +kernel)
  have hc_371 := hts (.constantLong RX11 371 (-2199023255560)) (by decide +kernel)
  have hl := lv_entry ([.ref (A m_o), .int a1, .int a2, .int a3]) (n := 13) (Nat.le_of_ble_eq_true rfl)
  rw [← hargs, lg_entry_eq, hargs]
  generalize (lg_sl ([.ref (A m_o), .int a1, .int a2, .int a3]) ++ List.replicate (13 - (lg_sl ([.ref (A m_o), .int a1, .int a2, .int a3])).length) Slot.unset).toArray = ls at hl ⊢
  have hl : lv_has ls 13 [(0, .ref (A m_o)), (1, .int a1), (2, .int a2), (3, .int a3)] := hl
  unfold f_X11_repair at h
  refine lv_aload_n hx hb dX11_repair_0 rfl (lv_at hl 0 rfl) ?_
  refine lv_iload_n hx hb dX11_repair_1 rfl (lv_at hl 1 rfl) ?_
  obtain ⟨v2, hc1, h⟩ := o1_e h
  refine g_Si (As := [.int a1]) (rest := [.ref (A m_o)]) S X Z (t_X11_isClient l D dA A hJ  hc1) (va_cwS 1 hts gX11_repair_X11_isClient rfl rfl rfl (by decide +kernel) ⟨Nat.le_of_ble_eq_true rfl, Nat.le_of_ble_eq_true rfl⟩) rfl hl.1 rfl (Nat.le_of_ble_eq_true rfl) dX11_repair_2 ⟨Nat.zero_le _, Nat.zero_le _⟩ (fun H locs Z => ?_)
  obtain ⟨J20, eJ20, h⟩ := jn_e h
  have hJ20 : ∀ (b3 : Int32) (M4 : gM) (H : Heap) (locs : List Loc) (ls : Array Slot), gZ D mLay dA mLive A (gA mLive A) s.heap M4 H locs → lv_has ls 13 [(0, .ref (A m_o)), (1, .int a1), (2, .int a2), (3, .int a3)] → J20 (b3, M4) = some y → W p l e (headSpec wsX11_repair ({ frames := 3, cells := 0, slots := 0, locals := 66 } : Room)).room s m args below meth c H locs 0 0 (MQ below (mQl D dA A y) args s 0 0 (gA mLive A)) (F0 m 20 ls [.int b3, .ref (A m_o)]) := by
    intro b3 M4 H locs ls Z hl h
    rw [eJ20] at h
    try dsimp only at h
    refine mp_thrown S X Z hin hl_165 dX11_repair_20 h (fun M5 H locs Z h => ?_)
    refine lv_aload_n hx hb dX11_repair_23 rfl (lv_at hl 0 rfl) ?_
    refine mr_thrown S X Z hin hl_165 dX11_repair_24 h (fun v6 h => ?_)
    refine lv_if_le (tgt := 32) hx hb dX11_repair_27 (by decide) (fun c7 => ?_) (fun c7 => ?_)
    · have h := if_t c7 h
      refine lv_aload_n hx hb dX11_repair_32 rfl (lv_at hl 0 rfl) ?_
      refine lv_iload_n hx hb dX11_repair_33 rfl (lv_at hl 2 rfl) ?_
      refine lv_iconst (v := (0 : Int32)) hx hb dX11_repair_34 (by decide) ?_
      obtain ⟨v9, hc8, h⟩ := o1_e h
      refine g_Vl (As := [.int a2, .int (0 : Int32)]) (rest := []) S X Z mlv_o rfl rfl (t_X11_kindOf l D dA A hJ  hc8) (cwV 2 hts gX11_repair_X11_kindOf rfl rfl rfl (by decide +kernel) ⟨Nat.le_of_ble_eq_true rfl, Nat.le_of_ble_eq_true rfl⟩) rfl hl.1 rfl (Nat.le_of_ble_eq_true rfl) dX11_repair_35 ⟨Nat.zero_le _, Nat.zero_le _⟩ (fun H locs Z => ?_)
      refine lv_lstore (lv' := [(4, .long v9), (0, .ref (A m_o)), (1, .int a1), (2, .int a2), (3, .int a3)]) hx hb dX11_repair_38 hl (by decide) rfl (fun ls hl => ?_)
      refine lv_lload hx hb dX11_repair_40 (lv_at hl 0 rfl) ?_
      refine lv_lconst (v := (0 : Int64)) hx hb dX11_repair_42 (by decide) ?_
      refine W.lcmp hx hb dX11_repair_43 ?_
      refine lv_if_eq (tgt := 50) hx hb dX11_repair_44 (by decide) (fun c10 => ?_) (fun c10 => ?_)
      · have h := if_t c10 h
        refine lv_aload_n hx hb dX11_repair_50 rfl (lv_at hl 1 rfl) ?_
        refine lv_iload_n hx hb dX11_repair_51 rfl (lv_at hl 2 rfl) ?_
        obtain ⟨v12, hc11, h⟩ := o1_e h
        refine g_Vi (As := [.int a1]) (rest := []) S X Z mlv_o rfl rfl (t_X11_isAlone l D dA A hJ  hc11) (cwV 1 hts gX11_repair_X11_isAlone rfl rfl rfl (by decide +kernel) ⟨Nat.le_of_ble_eq_true rfl, Nat.le_of_ble_eq_true rfl⟩) rfl hl.1 rfl (Nat.le_of_ble_eq_true rfl) dX11_repair_52 ⟨Nat.zero_le _, Nat.zero_le _⟩ (fun H locs Z => ?_)
        refine lv_if_eq (tgt := 62) hx hb dX11_repair_55 (by decide) (fun c13 => ?_) (fun c13 => ?_)
        · have h := if_t c13 h
          refine lv_aload_n hx hb dX11_repair_62 rfl (lv_at hl 1 rfl) ?_
          refine lv_iload_n hx hb dX11_repair_63 rfl (lv_at hl 2 rfl) ?_
          obtain ⟨v15, hc14, h⟩ := o1_e h
          refine g_Vi (As := [.int a1]) (rest := []) S X Z mlv_o rfl rfl (t_X11_nearSet l D dA A hJ  hc14) (cwV 1 hts gX11_repair_X11_nearSet rfl rfl rfl (by decide +kernel) ⟨Nat.le_of_ble_eq_true rfl, Nat.le_of_ble_eq_true rfl⟩) rfl hl.1 rfl (Nat.le_of_ble_eq_true rfl) dX11_repair_64 ⟨Nat.zero_le _, Nat.zero_le _⟩ (fun H locs Z => ?_)
          refine lv_istore (lv' := [(6, .int v15), (4, .long v9), (0, .ref (A m_o)), (1, .int a1), (2, .int a2), (3, .int a3)]) hx hb dX11_repair_67 hl (by decide) rfl (fun ls hl => ?_)
          refine lv_iconst (v := (-1 : Int32)) hx hb dX11_repair_69 (by decide) ?_
          refine lv_istore (lv' := [(7, .int (-1 : Int32)), (6, .int v15), (4, .long v9), (0, .ref (A m_o)), (1, .int a1), (2, .int a2), (3, .int a3)]) hx hb dX11_repair_70 hl (by decide) rfl (fun ls hl => ?_)
          refine lv_aload_n hx hb dX11_repair_72 rfl (lv_at hl 3 rfl) ?_
          refine mr_servers S X Z hin hl_155 dX11_repair_73 h (fun v16 h => ?_)
          refine lv_iconst (v := (1 : Int32)) hx hb dX11_repair_76 (by decide) ?_
          refine lv_isub hx hb dX11_repair_77 ?_
          refine g_topi h (fun x17 h => ?_)
          refine lv_istore (lv' := [(8, .int x17), (7, .int (-1 : Int32)), (6, .int v15), (4, .long v9), (0, .ref (A m_o)), (1, .int a1), (2, .int a2), (3, .int a3)]) hx hb dX11_repair_78 hl (by decide) rfl (fun ls hl => ?_)
          obtain ⟨J141, eJ141, h⟩ := jn_e h
          have hJ141 : ∀ (b18 : Int32) (M19 : gM) (H : Heap) (locs : List Loc) (ls : Array Slot), gZ D mLay dA mLive A (gA mLive A) s.heap M19 H locs → lv_has ls 13 [(0, .ref (A m_o)), (2, .int a2), (3, .int a3), (6, .int v15), (7, .int b18)] → J141 (b18, M19) = some y → W p l e (headSpec wsX11_repair ({ frames := 3, cells := 0, slots := 0, locals := 66 } : Room)).room s m args below meth c H locs 0 0 (MQ below (mQl D dA A y) args s 0 0 (gA mLive A)) (F0 m 141 ls []) := by
            intro b18 M19 H locs ls Z hl h
            rw [eJ141] at h
            try dsimp only at h
            refine lv_iload hx hb dX11_repair_141 (lv_at hl 4 rfl) ?_
            refine lv_iconst (v := (-1 : Int32)) hx hb dX11_repair_143 (by decide) ?_
            refine lv_icmp_eq (tgt := 167) hx hb dX11_repair_144 (by decide) (fun c20 => ?_) (fun c20 => ?_)
            · have h := if_t c20 h
              refine lv_ldc2 hx hb hown hc_172 dX11_repair_167 ?_
              have hy := Option.some.inj h
              subst hy
              exact g_rl S Z hr hlocks dX11_repair_170
            · have h := if_f c20 h
              refine lv_iload_n hx hb dX11_repair_147 rfl (lv_at hl 2 rfl) ?_
              refine lv_if_lt (tgt := 167) hx hb dX11_repair_148 (by decide) (fun c21 => ?_) (fun c21 => ?_)
              · have h := if_t c21 h
                refine lv_ldc2 hx hb hown hc_172 dX11_repair_167 ?_
                have hy := Option.some.inj h
                subst hy
                exact g_rl S Z hr hlocks dX11_repair_170
              · have h := if_f c21 h
                refine lv_iload_n hx hb dX11_repair_151 rfl (lv_at hl 2 rfl) ?_
                refine lv_aload_n hx hb dX11_repair_152 rfl (lv_at hl 0 rfl) ?_
                refine mr_versions S X Z hin hl_44 dX11_repair_153 ?_
                refine lv_bipush (v := (48 : Int32)) hx hb dX11_repair_156 (by decide) ?_
                refine lv_iload hx hb dX11_repair_158 (lv_at hl 4 rfl) ?_
                refine lv_imul hx hb dX11_repair_160 ?_
                refine lv_iload_n hx hb dX11_repair_161 rfl (lv_at hl 1 rfl) ?_
                refine lv_iadd hx hb dX11_repair_162 ?_
                refine g_iald S X Z ml_versions rfl dX11_repair_163 h (fun v22 h => ?_)
                refine lv_icmp_lt (tgt := 171) hx hb dX11_repair_164 (by decide) (fun c23 => ?_) (fun c23 => ?_)
                · have h := if_t c23 h
                  refine lv_bipush (v := (6 : Int32)) hx hb dX11_repair_171 (by decide) ?_
                  refine lv_bipush (v := (48 : Int32)) hx hb dX11_repair_173 (by decide) ?_
                  refine lv_iload hx hb dX11_repair_175 (lv_at hl 4 rfl) ?_
                  refine lv_imul hx hb dX11_repair_177 ?_
                  refine lv_iload_n hx hb dX11_repair_178 rfl (lv_at hl 1 rfl) ?_
                  refine lv_iadd hx hb dX11_repair_179 ?_
                  refine lv_imul hx hb dX11_repair_180 ?_
                  refine lv_iload_n hx hb dX11_repair_181 rfl (lv_at hl 2 rfl) ?_
                  refine lv_iadd hx hb dX11_repair_182 ?_
                  refine g_topi h (fun x24 h => ?_)
                  refine lv_istore (lv' := [(8, .int x24), (0, .ref (A m_o)), (2, .int a2), (3, .int a3), (6, .int v15), (7, .int b18)]) hx hb dX11_repair_183 hl (by decide) rfl (fun ls hl => ?_)
                  refine lv_aload_n hx hb dX11_repair_185 rfl (lv_at hl 1 rfl) ?_
                  refine mr_versionValue S X Z hin hl_47 dX11_repair_186 ?_
                  refine lv_iload hx hb dX11_repair_189 (lv_at hl 0 rfl) ?_
                  refine g_iald S X Z ml_versionValue rfl dX11_repair_191 h (fun v25 h => ?_)
                  refine lv_istore (lv' := [(9, .int v25), (8, .int x24), (0, .ref (A m_o)), (2, .int a2), (3, .int a3), (6, .int v15), (7, .int b18)]) hx hb dX11_repair_192 hl (by decide) rfl (fun ls hl => ?_)
                  refine lv_aload_n hx hb dX11_repair_194 rfl (lv_at hl 2 rfl) ?_
                  refine mr_versionSize S X Z hin hl_50 dX11_repair_195 ?_
                  refine lv_iload hx hb dX11_repair_198 (lv_at hl 1 rfl) ?_
                  refine g_iald S X Z ml_versionSize rfl dX11_repair_200 h (fun v26 h => ?_)
                  refine lv_istore (lv' := [(10, .int v26), (9, .int v25), (8, .int x24), (0, .ref (A m_o)), (2, .int a2), (3, .int a3), (6, .int v15), (7, .int b18)]) hx hb dX11_repair_201 hl (by decide) rfl (fun ls hl => ?_)
                  refine lv_aload_n hx hb dX11_repair_203 rfl (lv_at hl 3 rfl) ?_
                  refine lv_aload_n hx hb dX11_repair_204 rfl (lv_at hl 3 rfl) ?_
                  refine mr_vector S X Z hin hl_41 dX11_repair_205 ?_
                  refine lv_bipush (v := (48 : Int32)) hx hb dX11_repair_208 (by decide) ?_
                  refine lv_iload hx hb dX11_repair_210 (lv_at hl 7 rfl) ?_
                  refine lv_imul hx hb dX11_repair_212 ?_
                  refine lv_iload_n hx hb dX11_repair_213 rfl (lv_at hl 4 rfl) ?_
                  refine lv_iadd hx hb dX11_repair_214 ?_
                  refine lv_aload_n hx hb dX11_repair_215 rfl (lv_at hl 3 rfl) ?_
                  refine mr_row S X Z hin hl_125 dX11_repair_216 ?_
                  refine lv_iconst (v := (0 : Int32)) hx hb dX11_repair_219 (by decide) ?_
                  obtain ⟨M28, hc27, h⟩ := o1_e h
                  refine g_Vv (As := [.ref (A m_vector), .int (((48 : Int32) * b18) + a2), .ref (A m_row), .int (0 : Int32)]) (rest := []) S X Z mlv_o rfl rfl (t_X11_copyTo l D dA A hJ ⟨ml_vector, rfl⟩ ⟨ml_row, rfl⟩ hc27) (cwV 4 hts gX11_repair_X11_copyTo rfl rfl rfl (by decide +kernel) ⟨Nat.le_of_ble_eq_true rfl, Nat.le_of_ble_eq_true rfl⟩) rfl hl.1 rfl (Nat.le_of_ble_eq_true rfl) dX11_repair_220 ⟨Nat.zero_le _, Nat.zero_le _⟩ (fun H locs Z => ?_)
                  refine lv_aload_n hx hb dX11_repair_223 rfl (lv_at hl 3 rfl) ?_
                  refine lv_iconst (v := (0 : Int32)) hx hb dX11_repair_224 (by decide) ?_
                  refine mp_set S X Z hin hl_289 dX11_repair_225 h (fun M29 H locs Z h => ?_)
                  refine lv_iconst (v := (0 : Int32)) hx hb dX11_repair_228 (by decide) ?_
                  refine lv_istore (lv' := [(11, .int (0 : Int32)), (10, .int v26), (9, .int v25), (8, .int x24), (0, .ref (A m_o)), (2, .int a2), (3, .int a3), (6, .int v15), (7, .int b18)]) hx hb dX11_repair_229 hl (by decide) rfl (fun ls hl => ?_)
                  obtain ⟨J333, eJ333, h⟩ := jn_e h
                  have hJ333 : ∀ (M30 : gM) (H : Heap) (locs : List Loc) (ls : Array Slot), gZ D mLay dA mLive A (gA mLive A) s.heap M30 H locs → lv_has ls 13 [(0, .ref (A m_o)), (2, .int a2)] → J333 M30 = some y → W p l e (headSpec wsX11_repair ({ frames := 3, cells := 0, slots := 0, locals := 66 } : Room)).room s m args below meth c H locs 0 0 (MQ below (mQl D dA A y) args s 0 0 (gA mLive A)) (F0 m 333 ls []) := by
                    intro M30 H locs ls Z hl h
                    rw [eJ333] at h
                    try dsimp only at h
                    refine lv_aload_n hx hb dX11_repair_333 rfl (lv_at hl 0 rfl) ?_
                    refine lv_iload_n hx hb dX11_repair_334 rfl (lv_at hl 1 rfl) ?_
                    obtain ⟨M32, hc31, h⟩ := o1_e h
                    refine g_Vv (As := [.int a2]) (rest := []) S X Z mlv_o rfl rfl (t_X11_phases l D dA A hJ  hc31) (cwV 1 hts gX11_repair_X11_phases rfl rfl rfl (by decide +kernel) ⟨Nat.le_of_ble_eq_true rfl, Nat.le_of_ble_eq_true rfl⟩) rfl hl.1 rfl (Nat.le_of_ble_eq_true rfl) dX11_repair_335 ⟨Nat.zero_le _, Nat.zero_le _⟩ (fun H locs Z => ?_)
                    refine lv_aload_n hx hb dX11_repair_338 rfl (lv_at hl 0 rfl) ?_
                    refine lv_iload_n hx hb dX11_repair_339 rfl (lv_at hl 1 rfl) ?_
                    refine lv_aload_n hx hb dX11_repair_340 rfl (lv_at hl 0 rfl) ?_
                    refine mr_set S X Z hin hl_289 dX11_repair_341 h (fun v33 h => ?_)
                    refine lv_iconst (v := (-1 : Int32)) hx hb dX11_repair_344 (by decide) ?_
                    obtain ⟨M35, hc34, h⟩ := o1_e h
                    refine g_Vv (As := [.int a2, .int v33, .int (-1 : Int32)]) (rest := []) S X Z mlv_o rfl rfl (t_X11_endPromises l D dA A hJ  hc34) (cwV 3 hts gX11_repair_X11_endPromises rfl rfl rfl (by decide +kernel) ⟨Nat.le_of_ble_eq_true rfl, Nat.le_of_ble_eq_true rfl⟩) rfl hl.1 rfl (Nat.le_of_ble_eq_true rfl) dX11_repair_345 ⟨Nat.zero_le _, Nat.zero_le _⟩ (fun H locs Z => ?_)
                    refine lv_aload_n hx hb dX11_repair_348 rfl (lv_at hl 0 rfl) ?_
                    refine mr_set S X Z hin hl_289 dX11_repair_349 h (fun v36 h => ?_)
                    obtain ⟨v38, hc37, h⟩ := o1_e h
                    refine g_Si (As := [.int v36]) (rest := []) S X Z (t_X11_manyOf l D dA A hJ  hc37) (va_cwS 1 hts gX11_repair_X11_manyOf rfl rfl rfl (by decide +kernel) ⟨Nat.le_of_ble_eq_true rfl, Nat.le_of_ble_eq_true rfl⟩) rfl hl.1 rfl (Nat.le_of_ble_eq_true rfl) dX11_repair_352 ⟨Nat.zero_le _, Nat.zero_le _⟩ (fun H locs Z => ?_)
                    refine lv_i2l hx hb dX11_repair_355 rfl ?_
                    have hy := Option.some.inj h
                    subst hy
                    exact g_rl S Z hr hlocks dX11_repair_356
                  have hL231 : ∀ (n : Nat) (x39 : Int32) (M40 : gM) (H : Heap) (locs : List Loc) (ls : Array Slot), gZ D mLay dA mLive A (gA mLive A) s.heap M40 H locs → lv_has ls 13 [(0, .ref (A m_o)), (2, .int a2), (6, .int v15), (9, .int v25), (10, .int v26), (11, .int x39)] → f_X11_repair_L231 a2 v15 v25 v26 J333 n x39 M40 = some y → W p l e (headSpec wsX11_repair ({ frames := 3, cells := 0, slots := 0, locals := 66 } : Room)).room s m args below meth c H locs 0 0 (MQ below (mQl D dA A y) args s 0 0 (gA mLive A)) (F0 m 231 ls []) := by
                    intro n
                    induction n with
                    | zero =>
                      intro x39 M40 H locs ls Z hl h
                      rw [f_X11_repair_L231] at h
                      cases h
                    | succ n41 ih231 =>
                      intro x39 M40 H locs ls Z hl h
                      rw [f_X11_repair_L231] at h
                      refine lv_iload hx hb dX11_repair_231 (lv_at hl 5 rfl) ?_
                      refine lv_aload_n hx hb dX11_repair_233 rfl (lv_at hl 0 rfl) ?_
                      refine mr_servers S X Z hin hl_155 dX11_repair_234 h (fun v42 h => ?_)
                      refine lv_icmp_ge (tgt := 333) hx hb dX11_repair_237 (by decide) (fun c43 => ?_) (fun c43 => ?_)
                      · have h := if_t c43 h
                        exact hJ333 M40 _ _ _ Z (lv_sub hl [0, 1] rfl) h
                      · have h := if_f c43 h
                        refine lv_bipush (v := (48 : Int32)) hx hb dX11_repair_240 (by decide) ?_
                        refine lv_iload hx hb dX11_repair_242 (lv_at hl 5 rfl) ?_
                        refine lv_imul hx hb dX11_repair_244 ?_
                        refine lv_iload_n hx hb dX11_repair_245 rfl (lv_at hl 1 rfl) ?_
                        refine lv_iadd hx hb dX11_repair_246 ?_
                        refine g_topi h (fun x44 h => ?_)
                        refine lv_istore (lv' := [(12, .int x44), (0, .ref (A m_o)), (2, .int a2), (6, .int v15), (9, .int v25), (10, .int v26), (11, .int x39)]) hx hb dX11_repair_247 hl (by decide) rfl (fun ls hl => ?_)
                        refine lv_iload hx hb dX11_repair_249 (lv_at hl 3 rfl) ?_
                        refine lv_iload hx hb dX11_repair_251 (lv_at hl 6 rfl) ?_
                        refine lv_ishr hx hb dX11_repair_253 ?_
                        refine lv_iconst (v := (1 : Int32)) hx hb dX11_repair_254 (by decide) ?_
                        refine lv_iand hx hb dX11_repair_255 ?_
                        refine lv_iconst (v := (1 : Int32)) hx hb dX11_repair_256 (by decide) ?_
                        obtain ⟨J327, eJ327, h⟩ := jn_e h
                        have hJ327 : ∀ (M45 : gM) (H : Heap) (locs : List Loc) (ls : Array Slot), gZ D mLay dA mLive A (gA mLive A) s.heap M45 H locs → lv_has ls 13 [(0, .ref (A m_o)), (2, .int a2), (6, .int v15), (9, .int v25), (10, .int v26), (11, .int x39)] → J327 M45 = some y → W p l e (headSpec wsX11_repair ({ frames := 3, cells := 0, slots := 0, locals := 66 } : Room)).room s m args below meth c H locs 0 0 (MQ below (mQl D dA A y) args s 0 0 (gA mLive A)) (F0 m 327 ls []) := by
                          intro M45 H locs ls Z hl h
                          rw [eJ327] at h
                          try dsimp only at h
                          obtain ⟨x46, ex46, h⟩ := lt_e h
                          refine lv_iinc (v := x46) (lv' := [(11, .int x46), (0, .ref (A m_o)), (2, .int a2), (6, .int v15), (9, .int v25), (10, .int v26)]) hx hb dX11_repair_327 hl (k := 5) rfl (by rw [ex46]; rfl) (by decide) rfl (fun ls hl => ?_)
                          refine lv_goto (tgt := 231) hx hb dX11_repair_330 (by decide) ?_
                          exact ih231 x46 M45 _ _ _ Z (lv_sub hl [1, 2, 3, 4, 5, 0] rfl) h
                        refine lv_icmp_ne (tgt := 327) hx hb dX11_repair_257 (by decide) (fun c47 => ?_) (fun c47 => ?_)
                        · have h := if_f c47 h
                          exact hJ327 M40 _ _ _ Z (lv_sub hl [1, 2, 3, 4, 5, 6] rfl) h
                        · have h := if_t c47 h
                          refine lv_aload_n hx hb dX11_repair_260 rfl (lv_at hl 1 rfl) ?_
                          refine mr_has S X Z hin hl_32 dX11_repair_261 ?_
                          refine lv_iload hx hb dX11_repair_264 (lv_at hl 0 rfl) ?_
                          refine g_zald S X Z ml_has rfl dX11_repair_266 h (fun v48 h => ?_)
                          refine lv_if_eq (tgt := 327) hx hb dX11_repair_267 (by decide) (fun c49 => ?_) (fun c49 => ?_)
                          · have h := if_t c49 h
                            exact hJ327 M40 _ _ _ Z (lv_sub hl [1, 2, 3, 4, 5, 6] rfl) h
                          · have h := if_f c49 h
                            refine lv_aload_n hx hb dX11_repair_270 rfl (lv_at hl 1 rfl) ?_
                            refine lv_aload_n hx hb dX11_repair_271 rfl (lv_at hl 1 rfl) ?_
                            refine mr_vector S X Z hin hl_41 dX11_repair_272 ?_
                            refine lv_iload hx hb dX11_repair_275 (lv_at hl 0 rfl) ?_
                            refine lv_aload_n hx hb dX11_repair_277 rfl (lv_at hl 1 rfl) ?_
                            refine mr_row S X Z hin hl_125 dX11_repair_278 ?_
                            refine lv_iconst (v := (0 : Int32)) hx hb dX11_repair_281 (by decide) ?_
                            obtain ⟨v51, hc50, h⟩ := o1_e h
                            refine g_Vi (As := [.ref (A m_vector), .int x44, .ref (A m_row), .int (0 : Int32)]) (rest := []) S X Z mlv_o rfl rfl (t_X11_isSame l D dA A hJ ⟨ml_vector, rfl⟩ ⟨ml_row, rfl⟩ hc50) (cwV 4 hts gX11_repair_X11_isSame rfl rfl rfl (by decide +kernel) ⟨Nat.le_of_ble_eq_true rfl, Nat.le_of_ble_eq_true rfl⟩) rfl hl.1 rfl (Nat.le_of_ble_eq_true rfl) dX11_repair_282 ⟨Nat.zero_le _, Nat.zero_le _⟩ (fun H locs Z => ?_)
                            refine lv_if_eq (tgt := 327) hx hb dX11_repair_285 (by decide) (fun c52 => ?_) (fun c52 => ?_)
                            · have h := if_t c52 h
                              exact hJ327 M40 _ _ _ Z (lv_sub hl [1, 2, 3, 4, 5, 6] rfl) h
                            · have h := if_f c52 h
                              refine lv_aload_n hx hb dX11_repair_288 rfl (lv_at hl 1 rfl) ?_
                              refine lv_aload_n hx hb dX11_repair_289 rfl (lv_at hl 1 rfl) ?_
                              refine mr_set S X Z hin hl_289 dX11_repair_290 h (fun v53 h => ?_)
                              refine lv_iconst (v := (1 : Int32)) hx hb dX11_repair_293 (by decide) ?_
                              refine lv_iload hx hb dX11_repair_294 (lv_at hl 6 rfl) ?_
                              refine lv_ishl hx hb dX11_repair_296 ?_
                              refine lv_ior hx hb dX11_repair_297 ?_
                              refine mp_set S X Z hin hl_289 dX11_repair_298 h (fun M54 H locs Z h => ?_)
                              refine lv_aload_n hx hb dX11_repair_301 rfl (lv_at hl 1 rfl) ?_
                              refine mr_value S X Z hin hl_35 dX11_repair_302 ?_
                              refine lv_iload hx hb dX11_repair_305 (lv_at hl 0 rfl) ?_
                              refine lv_iload hx hb dX11_repair_307 (lv_at hl 4 rfl) ?_
                              refine g_iast S X Z ml_value rfl dX11_repair_309 h (fun M55 H locs Z h => ?_)
                              refine lv_aload_n hx hb dX11_repair_310 rfl (lv_at hl 1 rfl) ?_
                              refine mr_size S X Z hin hl_38 dX11_repair_311 ?_
                              refine lv_iload hx hb dX11_repair_314 (lv_at hl 0 rfl) ?_
                              refine lv_iload hx hb dX11_repair_316 (lv_at hl 5 rfl) ?_
                              refine g_iast S X Z ml_size rfl dX11_repair_318 h (fun M56 H locs Z h => ?_)
                              refine lv_aload_n hx hb dX11_repair_319 rfl (lv_at hl 1 rfl) ?_
                              refine mr_versions S X Z hin hl_44 dX11_repair_320 ?_
                              refine lv_iload hx hb dX11_repair_323 (lv_at hl 0 rfl) ?_
                              refine lv_iconst (v := (0 : Int32)) hx hb dX11_repair_325 (by decide) ?_
                              refine g_iast S X Z ml_versions rfl dX11_repair_326 h (fun M57 H locs Z h => ?_)
                              exact hJ327 M57 _ _ _ Z (lv_sub hl [1, 2, 3, 4, 5, 6] rfl) h
                  exact hL231 100 (0 : Int32) M29 _ _ _ Z (lv_sub hl [4, 5, 7, 2, 1, 0] rfl) h
                · have h := if_f c23 h
                  refine lv_ldc2 hx hb hown hc_172 dX11_repair_167 ?_
                  have hy := Option.some.inj h
                  subst hy
                  exact g_rl S Z hr hlocks dX11_repair_170
          have hL80 : ∀ (n : Nat) (x58 : Int32) (x59 : Int32) (M60 : gM) (H : Heap) (locs : List Loc) (ls : Array Slot), gZ D mLay dA mLive A (gA mLive A) s.heap M60 H locs → lv_has ls 13 [(0, .ref (A m_o)), (2, .int a2), (3, .int a3), (6, .int v15), (7, .int x58), (8, .int x59)] → f_X11_repair_L80 a2 a3 v15 J141 n x58 x59 M60 = some y → W p l e (headSpec wsX11_repair ({ frames := 3, cells := 0, slots := 0, locals := 66 } : Room)).room s m args below meth c H locs 0 0 (MQ below (mQl D dA A y) args s 0 0 (gA mLive A)) (F0 m 80 ls []) := by
            intro n
            induction n with
            | zero =>
              intro x58 x59 M60 H locs ls Z hl h
              rw [f_X11_repair_L80] at h
              cases h
            | succ n61 ih80 =>
              intro x58 x59 M60 H locs ls Z hl h
              rw [f_X11_repair_L80] at h
              refine lv_iload hx hb dX11_repair_80 (lv_at hl 5 rfl) ?_
              refine lv_if_lt (tgt := 141) hx hb dX11_repair_82 (by decide) (fun c62 => ?_) (fun c62 => ?_)
              · have h := if_t c62 h
                exact hJ141 x58 M60 _ _ _ Z (lv_sub hl [0, 1, 2, 3, 4] rfl) h
              · have h := if_f c62 h
                refine lv_iload hx hb dX11_repair_85 (lv_at hl 3 rfl) ?_
                refine lv_iload hx hb dX11_repair_87 (lv_at hl 5 rfl) ?_
                refine lv_ishr hx hb dX11_repair_89 ?_
                refine lv_iconst (v := (1 : Int32)) hx hb dX11_repair_90 (by decide) ?_
                refine lv_iand hx hb dX11_repair_91 ?_
                refine lv_iconst (v := (1 : Int32)) hx hb dX11_repair_92 (by decide) ?_
                obtain ⟨J133, eJ133, h⟩ := jn_e h
                have hJ133 : ∀ (b63 : Int32) (M64 : gM) (H : Heap) (locs : List Loc) (ls : Array Slot), gZ D mLay dA mLive A (gA mLive A) s.heap M64 H locs → lv_has ls 13 [(0, .ref (A m_o)), (2, .int a2), (3, .int a3), (6, .int v15), (8, .int x59)] → J133 (b63, M64) = some y → W p l e (headSpec wsX11_repair ({ frames := 3, cells := 0, slots := 0, locals := 66 } : Room)).room s m args below meth c H locs 0 0 (MQ below (mQl D dA A y) args s 0 0 (gA mLive A)) (F0 m 133 ls [.int b63]) := by
                  intro b63 M64 H locs ls Z hl h
                  rw [eJ133] at h
                  try dsimp only at h
                  refine lv_istore (lv' := [(7, .int b63), (0, .ref (A m_o)), (2, .int a2), (3, .int a3), (6, .int v15), (8, .int x59)]) hx hb dX11_repair_133 hl (by decide) rfl (fun ls hl => ?_)
                  obtain ⟨x65, ex65, h⟩ := lt_e h
                  refine lv_iinc (v := x65) (lv' := [(8, .int x65), (7, .int b63), (0, .ref (A m_o)), (2, .int a2), (3, .int a3), (6, .int v15)]) hx hb dX11_repair_135 hl (k := 5) rfl (by rw [ex65]; rfl) (by decide) rfl (fun ls hl => ?_)
                  refine lv_goto (tgt := 80) hx hb dX11_repair_138 (by decide) ?_
                  exact ih80 b63 x65 M64 _ _ _ Z (lv_sub hl [2, 3, 4, 5, 1, 0] rfl) h
                obtain ⟨J131, eJ131, h⟩ := jn_e h
                have hJ131 : ∀ (M66 : gM) (H : Heap) (locs : List Loc) (ls : Array Slot), gZ D mLay dA mLive A (gA mLive A) s.heap M66 H locs → lv_has ls 13 [(0, .ref (A m_o)), (2, .int a2), (3, .int a3), (6, .int v15), (7, .int x58), (8, .int x59)] → J131 M66 = some y → W p l e (headSpec wsX11_repair ({ frames := 3, cells := 0, slots := 0, locals := 66 } : Room)).room s m args below meth c H locs 0 0 (MQ below (mQl D dA A y) args s 0 0 (gA mLive A)) (F0 m 131 ls []) := by
                  intro M66 H locs ls Z hl h
                  rw [eJ131] at h
                  try dsimp only at h
                  refine lv_iload hx hb dX11_repair_131 (lv_at hl 4 rfl) ?_
                  exact hJ133 x58 M66 _ _ _ Z (lv_sub hl [0, 1, 2, 3, 5] rfl) h
                refine lv_icmp_ne (tgt := 131) hx hb dX11_repair_93 (by decide) (fun c67 => ?_) (fun c67 => ?_)
                · have h := if_f c67 h
                  exact hJ131 M60 _ _ _ Z (lv_sub hl [0, 1, 2, 3, 4, 5] rfl) h
                · have h := if_t c67 h
                  refine lv_aload_n hx hb dX11_repair_96 rfl (lv_at hl 0 rfl) ?_
                  refine mr_has S X Z hin hl_32 dX11_repair_97 ?_
                  refine lv_bipush (v := (48 : Int32)) hx hb dX11_repair_100 (by decide) ?_
                  refine lv_iload hx hb dX11_repair_102 (lv_at hl 5 rfl) ?_
                  refine lv_imul hx hb dX11_repair_104 ?_
                  refine lv_iload_n hx hb dX11_repair_105 rfl (lv_at hl 1 rfl) ?_
                  refine lv_iadd hx hb dX11_repair_106 ?_
                  refine g_zald S X Z ml_has rfl dX11_repair_107 h (fun v68 h => ?_)
                  refine lv_if_eq (tgt := 131) hx hb dX11_repair_108 (by decide) (fun c69 => ?_) (fun c69 => ?_)
                  · have h := if_t c69 h
                    exact hJ131 M60 _ _ _ Z (lv_sub hl [0, 1, 2, 3, 4, 5] rfl) h
                  · have h := if_f c69 h
                    refine lv_aload_n hx hb dX11_repair_111 rfl (lv_at hl 0 rfl) ?_
                    refine mr_versions S X Z hin hl_44 dX11_repair_112 ?_
                    refine lv_bipush (v := (48 : Int32)) hx hb dX11_repair_115 (by decide) ?_
                    refine lv_iload hx hb dX11_repair_117 (lv_at hl 5 rfl) ?_
                    refine lv_imul hx hb dX11_repair_119 ?_
                    refine lv_iload_n hx hb dX11_repair_120 rfl (lv_at hl 1 rfl) ?_
                    refine lv_iadd hx hb dX11_repair_121 ?_
                    refine g_iald S X Z ml_versions rfl dX11_repair_122 h (fun v70 h => ?_)
                    refine lv_if_le (tgt := 131) hx hb dX11_repair_123 (by decide) (fun c71 => ?_) (fun c71 => ?_)
                    · have h := if_t c71 h
                      exact hJ131 M60 _ _ _ Z (lv_sub hl [0, 1, 2, 3, 4, 5] rfl) h
                    · have h := if_f c71 h
                      refine lv_iload hx hb dX11_repair_126 (lv_at hl 5 rfl) ?_
                      refine lv_goto (tgt := 133) hx hb dX11_repair_128 (by decide) ?_
                      exact hJ133 x59 M60 _ _ _ Z (lv_sub hl [0, 1, 2, 3, 5] rfl) h
          exact hL80 100 (-1 : Int32) x17 M5 _ _ _ Z (lv_sub hl [4, 6, 7, 2, 1, 0] rfl) h
        · have h := if_f c13 h
          refine lv_ldc2 hx hb hown hc_371 dX11_repair_58 ?_
          have hy := Option.some.inj h
          subst hy
          exact g_rl S Z hr hlocks dX11_repair_61
      · have h := if_f c10 h
        refine lv_lload hx hb dX11_repair_47 (lv_at hl 0 rfl) ?_
        have hy := Option.some.inj h
        subst hy
        exact g_rl S Z hr hlocks dX11_repair_49
    · have h := if_f c7 h
      refine lv_lconst (v := (0 : Int64)) hx hb dX11_repair_30 (by decide) ?_
      have hy := Option.some.inj h
      subst hy
      exact g_rl S Z hr hlocks dX11_repair_31
  obtain ⟨J19, eJ19, h⟩ := jn_e h
  have hJ19 : ∀ (M72 : gM) (H : Heap) (locs : List Loc) (ls : Array Slot), gZ D mLay dA mLive A (gA mLive A) s.heap M72 H locs → lv_has ls 13 [(0, .ref (A m_o)), (1, .int a1), (2, .int a2), (3, .int a3)] → J19 M72 = some y → W p l e (headSpec wsX11_repair ({ frames := 3, cells := 0, slots := 0, locals := 66 } : Room)).room s m args below meth c H locs 0 0 (MQ below (mQl D dA A y) args s 0 0 (gA mLive A)) (F0 m 19 ls [.ref (A m_o)]) := by
    intro M72 H locs ls Z hl h
    rw [eJ19] at h
    try dsimp only at h
    refine lv_iconst (v := (1 : Int32)) hx hb dX11_repair_19 (by decide) ?_
    exact hJ20 (1 : Int32) M72 _ _ _ Z (lv_sub hl [0, 1, 2, 3] rfl) h
  refine lv_if_eq (tgt := 19) hx hb dX11_repair_5 (by decide) (fun c73 => ?_) (fun c73 => ?_)
  · have h := if_t c73 h
    exact hJ19 M _ _ _ Z (lv_sub hl [0, 1, 2, 3] rfl) h
  · have h := if_f c73 h
    refine lv_iload_n hx hb dX11_repair_8 rfl (lv_at hl 2 rfl) ?_
    obtain ⟨v75, hc74, h⟩ := o1_e h
    refine g_Si (As := [.int a2]) (rest := [.ref (A m_o)]) S X Z (t_X11_isObject l D dA A hJ  hc74) (va_cwS 1 hts gX11_repair_X11_isObject rfl rfl rfl (by decide +kernel) ⟨Nat.le_of_ble_eq_true rfl, Nat.le_of_ble_eq_true rfl⟩) rfl hl.1 rfl (Nat.le_of_ble_eq_true rfl) dX11_repair_9 ⟨Nat.zero_le _, Nat.zero_le _⟩ (fun H locs Z => ?_)
    refine lv_if_eq (tgt := 19) hx hb dX11_repair_12 (by decide) (fun c76 => ?_) (fun c76 => ?_)
    · have h := if_t c76 h
      exact hJ19 M _ _ _ Z (lv_sub hl [0, 1, 2, 3] rfl) h
    · have h := if_f c76 h
      refine lv_iconst (v := (0 : Int32)) hx hb dX11_repair_15 (by decide) ?_
      refine lv_goto (tgt := 20) hx hb dX11_repair_16 (by decide) ?_
      exact hJ20 (0 : Int32) M _ _ _ Z (lv_sub hl [0, 1, 2, 3] rfl) h
-- X11_copy (III)J: 112 instructions
set_option maxRecDepth 20000 in
theorem ggX11_copy_X11_isServer : GoodIn wsX11_copy wsX11_isServer := goodIn_r _ [14, 15, 16, 17, 13, 18, 27, 28, 29, 30, 31, 32, 33, 34, 35, 36, 37, 38, 39, 40, 41, 42, 43, 44, 45, 46, 47, 48, 49, 50, 51, 52, 53, 54, 55, 56, 57, 58, 59, 60, 61, 62, 63, 64, 65, 66, 67, 68, 69, 70, 71, 72, 73, 74, 75, 76, 77, 78, 79, 80, 81, 82, 83, 84, 85, 86, 87, 88, 89, 90, 91, 92, 93] (by decide +kernel) (by decide +kernel)
set_option maxRecDepth 20000 in
theorem gX11_copy_X11_isServer : GoodIn wsX11_copy (wsV RX11 184 RX11 yX11_isServer wsX11_isServer) := goodIn_app (goodIn_of _ (by decide +kernel)) ggX11_copy_X11_isServer
set_option maxRecDepth 20000 in
theorem ggX11_copy_X11_isObject : GoodIn wsX11_copy wsX11_isObject := goodIn_r _ [21, 16, 17, 13, 18] (by decide +kernel) (by decide +kernel)
set_option maxRecDepth 20000 in
theorem gX11_copy_X11_isObject : GoodIn wsX11_copy (va_wsS RX11 194 yX11_isObject wsX11_isObject) := goodIn_app (goodIn_of _ (by decide +kernel)) ggX11_copy_X11_isObject
set_option maxRecDepth 20000 in
theorem ggX11_copy_X11_in : GoodIn wsX11_copy wsX11_in := goodIn_r _ [18] (by decide +kernel) (by decide +kernel)
set_option maxRecDepth 20000 in
theorem gX11_copy_X11_in : GoodIn wsX11_copy (va_wsS RX11 168 yX11_in wsX11_in) := goodIn_app (goodIn_of _ (by decide +kernel)) ggX11_copy_X11_in
set_option maxRecDepth 20000 in
theorem ggX11_copy_X11_isChild : GoodIn wsX11_copy wsX11_isChild := goodIn_r _ [25, 8, 26, 27, 28, 29, 30, 31, 32, 33, 34, 35, 36, 37, 38, 39, 40, 41, 42, 43, 44, 45, 46, 47, 48, 49, 50, 51, 52, 53, 54, 55, 56, 57, 58, 59, 60, 61, 62, 63, 64, 65, 66, 67, 68, 69, 70, 71, 72, 73, 74, 75, 76, 77, 78, 79, 80, 81, 82, 83, 84, 85, 86, 87, 88, 89, 90, 91, 92, 93] (by decide +kernel) (by decide +kernel)
set_option maxRecDepth 20000 in
theorem gX11_copy_X11_isChild : GoodIn wsX11_copy (wsV RX11 197 RX11 yX11_isChild wsX11_isChild) := goodIn_app (goodIn_of _ (by decide +kernel)) ggX11_copy_X11_isChild
theorem dX11_copy_0 : decode cX11_copy 0 = .ok (.aload_n 0, 1) := by decide +kernel
theorem dX11_copy_1 : decode cX11_copy 1 = .ok (.aload_n 0, 1) := by decide +kernel
theorem dX11_copy_2 : decode cX11_copy 2 = .ok (.iload_n 1, 1) := by decide +kernel
theorem dX11_copy_3 : decode cX11_copy 3 = .ok (.invokevirtual 184, 3) := by decide +kernel
theorem dX11_copy_6 : decode cX11_copy 6 = .ok (.ifCond .eq 23, 3) := by decide +kernel
theorem dX11_copy_9 : decode cX11_copy 9 = .ok (.iload_n 2, 1) := by decide +kernel
theorem dX11_copy_10 : decode cX11_copy 10 = .ok (.invokestatic 194, 3) := by decide +kernel
theorem dX11_copy_13 : decode cX11_copy 13 = .ok (.ifCond .eq 16, 3) := by decide +kernel
theorem dX11_copy_16 : decode cX11_copy 16 = .ok (.iload_n 3, 1) := by decide +kernel
theorem dX11_copy_17 : decode cX11_copy 17 = .ok (.iconst 0, 1) := by decide +kernel
theorem dX11_copy_18 : decode cX11_copy 18 = .ok (.iconst 4, 1) := by decide +kernel
theorem dX11_copy_19 : decode cX11_copy 19 = .ok (.invokestatic 168, 3) := by decide +kernel
theorem dX11_copy_22 : decode cX11_copy 22 = .ok (.ifCond .eq 7, 3) := by decide +kernel
theorem dX11_copy_25 : decode cX11_copy 25 = .ok (.iconst 0, 1) := by decide +kernel
theorem dX11_copy_26 : decode cX11_copy 26 = .ok (.goto 4, 3) := by decide +kernel
theorem dX11_copy_29 : decode cX11_copy 29 = .ok (.iconst 1, 1) := by decide +kernel
theorem dX11_copy_30 : decode cX11_copy 30 = .ok (.putfield 165, 3) := by decide +kernel
theorem dX11_copy_33 : decode cX11_copy 33 = .ok (.aload_n 0, 1) := by decide +kernel
theorem dX11_copy_34 : decode cX11_copy 34 = .ok (.getfield 165, 3) := by decide +kernel
theorem dX11_copy_37 : decode cX11_copy 37 = .ok (.ifCond .le 5, 3) := by decide +kernel
theorem dX11_copy_40 : decode cX11_copy 40 = .ok (.lconst 0, 1) := by decide +kernel
theorem dX11_copy_41 : decode cX11_copy 41 = .ok (.lreturn, 1) := by decide +kernel
theorem dX11_copy_42 : decode cX11_copy 42 = .ok (.bipush 48, 2) := by decide +kernel
theorem dX11_copy_44 : decode cX11_copy 44 = .ok (.iload_n 1, 1) := by decide +kernel
theorem dX11_copy_45 : decode cX11_copy 45 = .ok (.imul, 1) := by decide +kernel
theorem dX11_copy_46 : decode cX11_copy 46 = .ok (.iload_n 2, 1) := by decide +kernel
theorem dX11_copy_47 : decode cX11_copy 47 = .ok (.iadd, 1) := by decide +kernel
theorem dX11_copy_48 : decode cX11_copy 48 = .ok (.istore 4, 2) := by decide +kernel
theorem dX11_copy_50 : decode cX11_copy 50 = .ok (.aload_n 0, 1) := by decide +kernel
theorem dX11_copy_51 : decode cX11_copy 51 = .ok (.getfield 32, 3) := by decide +kernel
theorem dX11_copy_54 : decode cX11_copy 54 = .ok (.iload 4, 2) := by decide +kernel
theorem dX11_copy_56 : decode cX11_copy 56 = .ok (.baload, 1) := by decide +kernel
theorem dX11_copy_57 : decode cX11_copy 57 = .ok (.ifCond .ne 7, 3) := by decide +kernel
theorem dX11_copy_60 : decode cX11_copy 60 = .ok (.ldc2_w 172, 3) := by decide +kernel
theorem dX11_copy_63 : decode cX11_copy 63 = .ok (.lreturn, 1) := by decide +kernel
theorem dX11_copy_64 : decode cX11_copy 64 = .ok (.iload_n 3, 1) := by decide +kernel
theorem dX11_copy_65 : decode cX11_copy 65 = .ok (.iconst 3, 1) := by decide +kernel
theorem dX11_copy_66 : decode cX11_copy 66 = .ok (.if_icmp .ge 56, 3) := by decide +kernel
theorem dX11_copy_69 : decode cX11_copy 69 = .ok (.aload_n 0, 1) := by decide +kernel
theorem dX11_copy_70 : decode cX11_copy 70 = .ok (.getfield 29, 3) := by decide +kernel
theorem dX11_copy_73 : decode cX11_copy 73 = .ok (.iload_n 2, 1) := by decide +kernel
theorem dX11_copy_74 : decode cX11_copy 74 = .ok (.baload, 1) := by decide +kernel
theorem dX11_copy_75 : decode cX11_copy 75 = .ok (.ifCond .eq 7, 3) := by decide +kernel
theorem dX11_copy_78 : decode cX11_copy 78 = .ok (.lconst 0, 1) := by decide +kernel
theorem dX11_copy_79 : decode cX11_copy 79 = .ok (.goto 42, 3) := by decide +kernel
theorem dX11_copy_82 : decode cX11_copy 82 = .ok (.iload_n 3, 1) := by decide +kernel
theorem dX11_copy_83 : decode cX11_copy 83 = .ok (.ifCond .ne 14, 3) := by decide +kernel
theorem dX11_copy_86 : decode cX11_copy 86 = .ok (.aload_n 0, 1) := by decide +kernel
theorem dX11_copy_87 : decode cX11_copy 87 = .ok (.getfield 35, 3) := by decide +kernel
theorem dX11_copy_90 : decode cX11_copy 90 = .ok (.iload 4, 2) := by decide +kernel
theorem dX11_copy_92 : decode cX11_copy 92 = .ok (.iaload, 1) := by decide +kernel
theorem dX11_copy_93 : decode cX11_copy 93 = .ok (.i2l, 1) := by decide +kernel
theorem dX11_copy_94 : decode cX11_copy 94 = .ok (.goto 27, 3) := by decide +kernel
theorem dX11_copy_97 : decode cX11_copy 97 = .ok (.iload_n 3, 1) := by decide +kernel
theorem dX11_copy_98 : decode cX11_copy 98 = .ok (.iconst 1, 1) := by decide +kernel
theorem dX11_copy_99 : decode cX11_copy 99 = .ok (.if_icmp .ne 14, 3) := by decide +kernel
theorem dX11_copy_102 : decode cX11_copy 102 = .ok (.aload_n 0, 1) := by decide +kernel
theorem dX11_copy_103 : decode cX11_copy 103 = .ok (.getfield 38, 3) := by decide +kernel
theorem dX11_copy_106 : decode cX11_copy 106 = .ok (.iload 4, 2) := by decide +kernel
theorem dX11_copy_108 : decode cX11_copy 108 = .ok (.iaload, 1) := by decide +kernel
theorem dX11_copy_109 : decode cX11_copy 109 = .ok (.i2l, 1) := by decide +kernel
theorem dX11_copy_110 : decode cX11_copy 110 = .ok (.goto 11, 3) := by decide +kernel
theorem dX11_copy_113 : decode cX11_copy 113 = .ok (.aload_n 0, 1) := by decide +kernel
theorem dX11_copy_114 : decode cX11_copy 114 = .ok (.getfield 44, 3) := by decide +kernel
theorem dX11_copy_117 : decode cX11_copy 117 = .ok (.iload 4, 2) := by decide +kernel
theorem dX11_copy_119 : decode cX11_copy 119 = .ok (.iaload, 1) := by decide +kernel
theorem dX11_copy_120 : decode cX11_copy 120 = .ok (.i2l, 1) := by decide +kernel
theorem dX11_copy_121 : decode cX11_copy 121 = .ok (.lreturn, 1) := by decide +kernel
theorem dX11_copy_122 : decode cX11_copy 122 = .ok (.iconst 0, 1) := by decide +kernel
theorem dX11_copy_123 : decode cX11_copy 123 = .ok (.istore 5, 2) := by decide +kernel
theorem dX11_copy_125 : decode cX11_copy 125 = .ok (.iconst 1, 1) := by decide +kernel
theorem dX11_copy_126 : decode cX11_copy 126 = .ok (.istore 6, 2) := by decide +kernel
theorem dX11_copy_128 : decode cX11_copy 128 = .ok (.iload 6, 2) := by decide +kernel
theorem dX11_copy_130 : decode cX11_copy 130 = .ok (.aload_n 0, 1) := by decide +kernel
theorem dX11_copy_131 : decode cX11_copy 131 = .ok (.getfield 162, 3) := by decide +kernel
theorem dX11_copy_134 : decode cX11_copy 134 = .ok (.if_icmp .ge 65, 3) := by decide +kernel
theorem dX11_copy_137 : decode cX11_copy 137 = .ok (.aload_n 0, 1) := by decide +kernel
theorem dX11_copy_138 : decode cX11_copy 138 = .ok (.iload 6, 2) := by decide +kernel
theorem dX11_copy_140 : decode cX11_copy 140 = .ok (.iload_n 2, 1) := by decide +kernel
theorem dX11_copy_141 : decode cX11_copy 141 = .ok (.invokevirtual 197, 3) := by decide +kernel
theorem dX11_copy_144 : decode cX11_copy 144 = .ok (.ifCond .eq 18, 3) := by decide +kernel
theorem dX11_copy_147 : decode cX11_copy 147 = .ok (.aload_n 0, 1) := by decide +kernel
theorem dX11_copy_148 : decode cX11_copy 148 = .ok (.getfield 56, 3) := by decide +kernel
theorem dX11_copy_151 : decode cX11_copy 151 = .ok (.bipush 48, 2) := by decide +kernel
theorem dX11_copy_153 : decode cX11_copy 153 = .ok (.iload_n 1, 1) := by decide +kernel
theorem dX11_copy_154 : decode cX11_copy 154 = .ok (.imul, 1) := by decide +kernel
theorem dX11_copy_155 : decode cX11_copy 155 = .ok (.iload 6, 2) := by decide +kernel
theorem dX11_copy_157 : decode cX11_copy 157 = .ok (.iadd, 1) := by decide +kernel
theorem dX11_copy_158 : decode cX11_copy 158 = .ok (.iaload, 1) := by decide +kernel
theorem dX11_copy_159 : decode cX11_copy 159 = .ok (.goto 4, 3) := by decide +kernel
theorem dX11_copy_162 : decode cX11_copy 162 = .ok (.iconst 0, 1) := by decide +kernel
theorem dX11_copy_163 : decode cX11_copy 163 = .ok (.istore 7, 2) := by decide +kernel
theorem dX11_copy_165 : decode cX11_copy 165 = .ok (.iload 7, 2) := by decide +kernel
theorem dX11_copy_167 : decode cX11_copy 167 = .ok (.iconst 1, 1) := by decide +kernel
theorem dX11_copy_168 : decode cX11_copy 168 = .ok (.if_icmp .eq 14, 3) := by decide +kernel
theorem dX11_copy_171 : decode cX11_copy 171 = .ok (.iload 7, 2) := by decide +kernel
theorem dX11_copy_173 : decode cX11_copy 173 = .ok (.iconst 2, 1) := by decide +kernel
theorem dX11_copy_174 : decode cX11_copy 174 = .ok (.if_icmp .ne 15, 3) := by decide +kernel
theorem dX11_copy_177 : decode cX11_copy 177 = .ok (.iload_n 3, 1) := by decide +kernel
theorem dX11_copy_178 : decode cX11_copy 178 = .ok (.iconst 3, 1) := by decide +kernel
theorem dX11_copy_179 : decode cX11_copy 179 = .ok (.if_icmp .ne 10, 3) := by decide +kernel
theorem dX11_copy_182 : decode cX11_copy 182 = .ok (.iload 5, 2) := by decide +kernel
theorem dX11_copy_184 : decode cX11_copy 184 = .ok (.iconst 1, 1) := by decide +kernel
theorem dX11_copy_185 : decode cX11_copy 185 = .ok (.iadd, 1) := by decide +kernel
theorem dX11_copy_186 : decode cX11_copy 186 = .ok (.goto 5, 3) := by decide +kernel
theorem dX11_copy_189 : decode cX11_copy 189 = .ok (.iload 5, 2) := by decide +kernel
theorem dX11_copy_191 : decode cX11_copy 191 = .ok (.istore 5, 2) := by decide +kernel
theorem dX11_copy_193 : decode cX11_copy 193 = .ok (.iinc 6 1, 3) := by decide +kernel
theorem dX11_copy_196 : decode cX11_copy 196 = .ok (.goto (-68), 3) := by decide +kernel
theorem dX11_copy_199 : decode cX11_copy 199 = .ok (.iload 5, 2) := by decide +kernel
theorem dX11_copy_201 : decode cX11_copy 201 = .ok (.i2l, 1) := by decide +kernel
theorem dX11_copy_202 : decode cX11_copy 202 = .ok (.lreturn, 1) := by decide +kernel
def f_X11_copy_L128 (a1 : Int32) (a2 : Int32) (a3 : Int32) : Nat → Int32 → Int32 → gM → Option (Int64 × gM)
  | 0, _, _, _ => none
  | n15 + 1, x12, x13, M14 => lt (M14 m_o 6) (fun v16 => (if v16 ≤ x13 then some (x12.toInt64, M14) else o1 (f_X11_isChild M14 x13 a2) (fun v19 => jn (fun (q : (Int32 × gM)) => match q with | (b20, M21) => jn (fun (q : (Int32 × gM)) => match q with | (b22, M23) => lt (x13 + 1) (fun x24 => f_X11_copy_L128 a1 a2 a3 n15 b22 x24 M23)) (fun J191 => jn (fun (M25 : gM) => J191 ((x12 + (1 : Int32)), M25)) (fun J182 => (if b20 = (1 : Int32) then J182 M21 else jn (fun (M27 : gM) => J191 (x12, M27)) (fun J189 => (if b20 = (2 : Int32) then (if a3 = (3 : Int32) then J182 M21 else J189 M21) else J189 M21)))))) (fun J163 => (if v19 = 0 then J163 ((0 : Int32), M14) else rd M14 m_entry 192 (((48 : Int32) * a1) + x13) (fun v31 => J163 (v31, M14)))))))
def f_X11_copy (M : gM) (a1 : Int32) (a2 : Int32) (a3 : Int32) : Option (Int64 × gM) :=
  o1 (f_X11_isServer M a1) (fun v2 => jn (fun (q : (Int32 × gM)) => match q with | (b3, M4) => lt (gset M4 m_o 66 b3) (fun M5 => lt (M5 m_o 66) (fun v6 => (if v6 ≤ 0 then lt ((((48 : Int32) * a1) + a2)) (fun x8 => rd M5 m_has 192 x8 (fun v9 => (if v9 = 0 then some ((-2199023255552 : Int64), M5) else (if (3 : Int32) ≤ a3 then f_X11_copy_L128 a1 a2 a3 100 (0 : Int32) (1 : Int32) M5 else rd M5 m_isDirectory 48 a2 (fun v32 => (if v32 = 0 then (if a3 = 0 then rd M5 m_value 192 x8 (fun v38 => some (v38.toInt64, M5)) else (if a3 = (1 : Int32) then rd M5 m_size 192 x8 (fun v37 => some (v37.toInt64, M5)) else rd M5 m_versions 192 x8 (fun v36 => some (v36.toInt64, M5)))) else some ((0 : Int64), M5))))))) else some ((0 : Int64), M5))))) (fun J30 => jn (fun (M39 : gM) => J30 ((1 : Int32), M39)) (fun J29 => (if v2 = 0 then J29 M else o1 (f_X11_isObject M a2) (fun v42 => (if v42 = 0 then J29 M else o1 (f_X11_in M a3 (0 : Int32) (4 : Int32)) (fun v45 => (if v45 = 0 then J29 M else J30 ((0 : Int32), M)))))))))
set_option maxHeartbeats 4000000 in
set_option maxRecDepth 100000 in
theorem t_X11_copy (l : Launch) (D : va_G) (dA : Nat → ClassId) (A : gI → Nat) (hJ : gJ mLive A) {M : gM} {a1 : Int32} {a2 : Int32} {a3 : Int32}  {y : (Int64 × gM)} (h : f_X11_copy M a1 a2 a3 = some y) : mMl l yX11_copy wsX11_copy ({ frames := 2, cells := 0, slots := 0, locals := 43 } : Room) D dA A [.ref (A m_o), .int a1, .int a2, .int a3] M y.1 y.2 := by
  refine Met.ofW (cc := cX11_copy) (maxL := 8) (ret := (some .long)) (by decide) rfl ?_
  intro p e s m args below meth c s₁ B hml hv
  obtain ⟨rfl, hP, hK⟩ := hv
  generalize hargs : ([.ref (A m_o), .int a1, .int a2, .int a3] : List Value).toArray = args at B ⊢
  have S : CallFix p m c cX11_copy 8 s args wsX11_copy RX11 := ⟨B.exec, B.bytes, hml, findClass_of_methodNamed B.named, atoms_spec (ws := wsX11_copy) B.pre⟩
  obtain ⟨hx, hb, -, hown, hts⟩ := id S
  have hr := B.returns
  have hlocks := B.notSynchronized
  have X : gX D vwCl dA mLive A (gA mLive A) s := ⟨hK, hJ, fun i hi => ⟨i, hi, rfl⟩⟩
  have Z : gZ D mLay dA mLive A (gA mLive A) s.heap M s.heap [] := ⟨hP, va_S.rf⟩
  have hin : ∀ w ∈ wsX110, w ∈ wsX11_copy := fun w h => List.mem_cons_of_mem _ (List.mem_append_right _ h)
  have hl_29 := hts (.fieldLink RX11 29 "ReplicaFilesModel" "isDirectory" "[Z") (by decide +kernel)
  have hl_32 := hts (.fieldLink RX11 32 "ReplicaFilesModel" "has" "[Z") (by decide +kernel)
  have hl_35 := hts (.fieldLink RX11 35 "ReplicaFilesModel" "value" "[I") (by decide +kernel)
  have hl_38 := hts (.fieldLink RX11 38 "ReplicaFilesModel" "size" "[I") (by decide +kernel)
  have hl_44 := hts (.fieldLink RX11 44 "ReplicaFilesModel" "versions" "[I") (by decide +kernel)
  have hl_56 := hts (.fieldLink RX11 56 "ReplicaFilesModel" "entry" "[I") (by decide +kernel)
  have hl_162 := hts (.fieldLink RX11 162 "ReplicaFilesModel" "made" "I") (by decide +kernel)
  have hl_165 := hts (.fieldLink RX11 165 "ReplicaFilesModel" "thrown" "I") (by decide +kernel)
  have hc_172 := hts (.constantLong RX11 172 (-2199023255552)) (by decide +kernel)
  have hl := lv_entry ([.ref (A m_o), .int a1, .int a2, .int a3]) (n := 8) (Nat.le_of_ble_eq_true rfl)
  rw [← hargs, lg_entry_eq, hargs]
  generalize (lg_sl ([.ref (A m_o), .int a1, .int a2, .int a3]) ++ List.replicate (8 - (lg_sl ([.ref (A m_o), .int a1, .int a2, .int a3])).length) Slot.unset).toArray = ls at hl ⊢
  have hl : lv_has ls 8 [(0, .ref (A m_o)), (1, .int a1), (2, .int a2), (3, .int a3)] := hl
  unfold f_X11_copy at h
  refine lv_aload_n hx hb dX11_copy_0 rfl (lv_at hl 0 rfl) ?_
  refine lv_aload_n hx hb dX11_copy_1 rfl (lv_at hl 0 rfl) ?_
  refine lv_iload_n hx hb dX11_copy_2 rfl (lv_at hl 1 rfl) ?_
  obtain ⟨v2, hc1, h⟩ := o1_e h
  refine g_Vi (As := [.int a1]) (rest := [.ref (A m_o)]) S X Z mlv_o rfl rfl (t_X11_isServer l D dA A hJ  hc1) (cwV 1 hts gX11_copy_X11_isServer rfl rfl rfl (by decide +kernel) ⟨Nat.le_of_ble_eq_true rfl, Nat.le_of_ble_eq_true rfl⟩) rfl hl.1 rfl (Nat.le_of_ble_eq_true rfl) dX11_copy_3 ⟨Nat.zero_le _, Nat.zero_le _⟩ (fun H locs Z => ?_)
  obtain ⟨J30, eJ30, h⟩ := jn_e h
  have hJ30 : ∀ (b3 : Int32) (M4 : gM) (H : Heap) (locs : List Loc) (ls : Array Slot), gZ D mLay dA mLive A (gA mLive A) s.heap M4 H locs → lv_has ls 8 [(0, .ref (A m_o)), (1, .int a1), (2, .int a2), (3, .int a3)] → J30 (b3, M4) = some y → W p l e (headSpec wsX11_copy ({ frames := 2, cells := 0, slots := 0, locals := 43 } : Room)).room s m args below meth c H locs 0 0 (MQ below (mQl D dA A y) args s 0 0 (gA mLive A)) (F0 m 30 ls [.int b3, .ref (A m_o)]) := by
    intro b3 M4 H locs ls Z hl h
    rw [eJ30] at h
    try dsimp only at h
    refine mp_thrown S X Z hin hl_165 dX11_copy_30 h (fun M5 H locs Z h => ?_)
    refine lv_aload_n hx hb dX11_copy_33 rfl (lv_at hl 0 rfl) ?_
    refine mr_thrown S X Z hin hl_165 dX11_copy_34 h (fun v6 h => ?_)
    refine lv_if_le (tgt := 42) hx hb dX11_copy_37 (by decide) (fun c7 => ?_) (fun c7 => ?_)
    · have h := if_t c7 h
      refine lv_bipush (v := (48 : Int32)) hx hb dX11_copy_42 (by decide) ?_
      refine lv_iload_n hx hb dX11_copy_44 rfl (lv_at hl 1 rfl) ?_
      refine lv_imul hx hb dX11_copy_45 ?_
      refine lv_iload_n hx hb dX11_copy_46 rfl (lv_at hl 2 rfl) ?_
      refine lv_iadd hx hb dX11_copy_47 ?_
      refine g_topi h (fun x8 h => ?_)
      refine lv_istore (lv' := [(4, .int x8), (0, .ref (A m_o)), (1, .int a1), (2, .int a2), (3, .int a3)]) hx hb dX11_copy_48 hl (by decide) rfl (fun ls hl => ?_)
      refine lv_aload_n hx hb dX11_copy_50 rfl (lv_at hl 1 rfl) ?_
      refine mr_has S X Z hin hl_32 dX11_copy_51 ?_
      refine lv_iload hx hb dX11_copy_54 (lv_at hl 0 rfl) ?_
      refine g_zald S X Z ml_has rfl dX11_copy_56 h (fun v9 h => ?_)
      refine lv_if_ne (tgt := 64) hx hb dX11_copy_57 (by decide) (fun c10 => ?_) (fun c10 => ?_)
      · have h := if_f c10 h
        refine lv_iload_n hx hb dX11_copy_64 rfl (lv_at hl 4 rfl) ?_
        refine lv_iconst (v := (3 : Int32)) hx hb dX11_copy_65 (by decide) ?_
        refine lv_icmp_ge (tgt := 122) hx hb dX11_copy_66 (by decide) (fun c11 => ?_) (fun c11 => ?_)
        · have h := if_t c11 h
          refine lv_iconst (v := (0 : Int32)) hx hb dX11_copy_122 (by decide) ?_
          refine lv_istore (lv' := [(5, .int (0 : Int32)), (4, .int x8), (0, .ref (A m_o)), (1, .int a1), (2, .int a2), (3, .int a3)]) hx hb dX11_copy_123 hl (by decide) rfl (fun ls hl => ?_)
          refine lv_iconst (v := (1 : Int32)) hx hb dX11_copy_125 (by decide) ?_
          refine lv_istore (lv' := [(6, .int (1 : Int32)), (5, .int (0 : Int32)), (4, .int x8), (0, .ref (A m_o)), (1, .int a1), (2, .int a2), (3, .int a3)]) hx hb dX11_copy_126 hl (by decide) rfl (fun ls hl => ?_)
          have hL128 : ∀ (n : Nat) (x12 : Int32) (x13 : Int32) (M14 : gM) (H : Heap) (locs : List Loc) (ls : Array Slot), gZ D mLay dA mLive A (gA mLive A) s.heap M14 H locs → lv_has ls 8 [(0, .ref (A m_o)), (1, .int a1), (2, .int a2), (3, .int a3), (5, .int x12), (6, .int x13)] → f_X11_copy_L128 a1 a2 a3 n x12 x13 M14 = some y → W p l e (headSpec wsX11_copy ({ frames := 2, cells := 0, slots := 0, locals := 43 } : Room)).room s m args below meth c H locs 0 0 (MQ below (mQl D dA A y) args s 0 0 (gA mLive A)) (F0 m 128 ls []) := by
            intro n
            induction n with
            | zero =>
              intro x12 x13 M14 H locs ls Z hl h
              rw [f_X11_copy_L128] at h
              cases h
            | succ n15 ih128 =>
              intro x12 x13 M14 H locs ls Z hl h
              rw [f_X11_copy_L128] at h
              refine lv_iload hx hb dX11_copy_128 (lv_at hl 5 rfl) ?_
              refine lv_aload_n hx hb dX11_copy_130 rfl (lv_at hl 0 rfl) ?_
              refine mr_made S X Z hin hl_162 dX11_copy_131 h (fun v16 h => ?_)
              refine lv_icmp_ge (tgt := 199) hx hb dX11_copy_134 (by decide) (fun c17 => ?_) (fun c17 => ?_)
              · have h := if_t c17 h
                refine lv_iload hx hb dX11_copy_199 (lv_at hl 4 rfl) ?_
                refine lv_i2l hx hb dX11_copy_201 rfl ?_
                have hy := Option.some.inj h
                subst hy
                exact g_rl S Z hr hlocks dX11_copy_202
              · have h := if_f c17 h
                refine lv_aload_n hx hb dX11_copy_137 rfl (lv_at hl 0 rfl) ?_
                refine lv_iload hx hb dX11_copy_138 (lv_at hl 5 rfl) ?_
                refine lv_iload_n hx hb dX11_copy_140 rfl (lv_at hl 2 rfl) ?_
                obtain ⟨v19, hc18, h⟩ := o1_e h
                refine g_Vi (As := [.int x13, .int a2]) (rest := []) S X Z mlv_o rfl rfl (t_X11_isChild l D dA A hJ  hc18) (cwV 2 hts gX11_copy_X11_isChild rfl rfl rfl (by decide +kernel) ⟨Nat.le_of_ble_eq_true rfl, Nat.le_of_ble_eq_true rfl⟩) rfl hl.1 rfl (Nat.le_of_ble_eq_true rfl) dX11_copy_141 ⟨Nat.zero_le _, Nat.zero_le _⟩ (fun H locs Z => ?_)
                obtain ⟨J163, eJ163, h⟩ := jn_e h
                have hJ163 : ∀ (b20 : Int32) (M21 : gM) (H : Heap) (locs : List Loc) (ls : Array Slot), gZ D mLay dA mLive A (gA mLive A) s.heap M21 H locs → lv_has ls 8 [(0, .ref (A m_o)), (1, .int a1), (2, .int a2), (3, .int a3), (5, .int x12), (6, .int x13)] → J163 (b20, M21) = some y → W p l e (headSpec wsX11_copy ({ frames := 2, cells := 0, slots := 0, locals := 43 } : Room)).room s m args below meth c H locs 0 0 (MQ below (mQl D dA A y) args s 0 0 (gA mLive A)) (F0 m 163 ls [.int b20]) := by
                  intro b20 M21 H locs ls Z hl h
                  rw [eJ163] at h
                  try dsimp only at h
                  refine lv_istore (lv' := [(7, .int b20), (0, .ref (A m_o)), (1, .int a1), (2, .int a2), (3, .int a3), (5, .int x12), (6, .int x13)]) hx hb dX11_copy_163 hl (by decide) rfl (fun ls hl => ?_)
                  refine lv_iload hx hb dX11_copy_165 (lv_at hl 0 rfl) ?_
                  refine lv_iconst (v := (1 : Int32)) hx hb dX11_copy_167 (by decide) ?_
                  obtain ⟨J191, eJ191, h⟩ := jn_e h
                  have hJ191 : ∀ (b22 : Int32) (M23 : gM) (H : Heap) (locs : List Loc) (ls : Array Slot), gZ D mLay dA mLive A (gA mLive A) s.heap M23 H locs → lv_has ls 8 [(0, .ref (A m_o)), (1, .int a1), (2, .int a2), (3, .int a3), (6, .int x13)] → J191 (b22, M23) = some y → W p l e (headSpec wsX11_copy ({ frames := 2, cells := 0, slots := 0, locals := 43 } : Room)).room s m args below meth c H locs 0 0 (MQ below (mQl D dA A y) args s 0 0 (gA mLive A)) (F0 m 191 ls [.int b22]) := by
                    intro b22 M23 H locs ls Z hl h
                    rw [eJ191] at h
                    try dsimp only at h
                    refine lv_istore (lv' := [(5, .int b22), (0, .ref (A m_o)), (1, .int a1), (2, .int a2), (3, .int a3), (6, .int x13)]) hx hb dX11_copy_191 hl (by decide) rfl (fun ls hl => ?_)
                    obtain ⟨x24, ex24, h⟩ := lt_e h
                    refine lv_iinc (v := x24) (lv' := [(6, .int x24), (5, .int b22), (0, .ref (A m_o)), (1, .int a1), (2, .int a2), (3, .int a3)]) hx hb dX11_copy_193 hl (k := 5) rfl (by rw [ex24]; rfl) (by decide) rfl (fun ls hl => ?_)
                    refine lv_goto (tgt := 128) hx hb dX11_copy_196 (by decide) ?_
                    exact ih128 b22 x24 M23 _ _ _ Z (lv_sub hl [2, 3, 4, 5, 1, 0] rfl) h
                  obtain ⟨J182, eJ182, h⟩ := jn_e h
                  have hJ182 : ∀ (M25 : gM) (H : Heap) (locs : List Loc) (ls : Array Slot), gZ D mLay dA mLive A (gA mLive A) s.heap M25 H locs → lv_has ls 8 [(0, .ref (A m_o)), (1, .int a1), (2, .int a2), (3, .int a3), (5, .int x12), (6, .int x13)] → J182 M25 = some y → W p l e (headSpec wsX11_copy ({ frames := 2, cells := 0, slots := 0, locals := 43 } : Room)).room s m args below meth c H locs 0 0 (MQ below (mQl D dA A y) args s 0 0 (gA mLive A)) (F0 m 182 ls []) := by
                    intro M25 H locs ls Z hl h
                    rw [eJ182] at h
                    try dsimp only at h
                    refine lv_iload hx hb dX11_copy_182 (lv_at hl 4 rfl) ?_
                    refine lv_iconst (v := (1 : Int32)) hx hb dX11_copy_184 (by decide) ?_
                    refine lv_iadd hx hb dX11_copy_185 ?_
                    refine lv_goto (tgt := 191) hx hb dX11_copy_186 (by decide) ?_
                    exact hJ191 (x12 + (1 : Int32)) M25 _ _ _ Z (lv_sub hl [0, 1, 2, 3, 5] rfl) h
                  refine lv_icmp_eq (tgt := 182) hx hb dX11_copy_168 (by decide) (fun c26 => ?_) (fun c26 => ?_)
                  · have h := if_t c26 h
                    exact hJ182 M21 _ _ _ Z (lv_sub hl [1, 2, 3, 4, 5, 6] rfl) h
                  · have h := if_f c26 h
                    refine lv_iload hx hb dX11_copy_171 (lv_at hl 0 rfl) ?_
                    refine lv_iconst (v := (2 : Int32)) hx hb dX11_copy_173 (by decide) ?_
                    obtain ⟨J189, eJ189, h⟩ := jn_e h
                    have hJ189 : ∀ (M27 : gM) (H : Heap) (locs : List Loc) (ls : Array Slot), gZ D mLay dA mLive A (gA mLive A) s.heap M27 H locs → lv_has ls 8 [(0, .ref (A m_o)), (1, .int a1), (2, .int a2), (3, .int a3), (5, .int x12), (6, .int x13)] → J189 M27 = some y → W p l e (headSpec wsX11_copy ({ frames := 2, cells := 0, slots := 0, locals := 43 } : Room)).room s m args below meth c H locs 0 0 (MQ below (mQl D dA A y) args s 0 0 (gA mLive A)) (F0 m 189 ls []) := by
                      intro M27 H locs ls Z hl h
                      rw [eJ189] at h
                      try dsimp only at h
                      refine lv_iload hx hb dX11_copy_189 (lv_at hl 4 rfl) ?_
                      exact hJ191 x12 M27 _ _ _ Z (lv_sub hl [0, 1, 2, 3, 5] rfl) h
                    refine lv_icmp_ne (tgt := 189) hx hb dX11_copy_174 (by decide) (fun c28 => ?_) (fun c28 => ?_)
                    · have h := if_f c28 h
                      exact hJ189 M21 _ _ _ Z (lv_sub hl [1, 2, 3, 4, 5, 6] rfl) h
                    · have h := if_t c28 h
                      refine lv_iload_n hx hb dX11_copy_177 rfl (lv_at hl 4 rfl) ?_
                      refine lv_iconst (v := (3 : Int32)) hx hb dX11_copy_178 (by decide) ?_
                      refine lv_icmp_ne (tgt := 189) hx hb dX11_copy_179 (by decide) (fun c29 => ?_) (fun c29 => ?_)
                      · have h := if_f c29 h
                        exact hJ189 M21 _ _ _ Z (lv_sub hl [1, 2, 3, 4, 5, 6] rfl) h
                      · have h := if_t c29 h
                        exact hJ182 M21 _ _ _ Z (lv_sub hl [1, 2, 3, 4, 5, 6] rfl) h
                refine lv_if_eq (tgt := 162) hx hb dX11_copy_144 (by decide) (fun c30 => ?_) (fun c30 => ?_)
                · have h := if_t c30 h
                  refine lv_iconst (v := (0 : Int32)) hx hb dX11_copy_162 (by decide) ?_
                  exact hJ163 (0 : Int32) M14 _ _ _ Z (lv_sub hl [0, 1, 2, 3, 4, 5] rfl) h
                · have h := if_f c30 h
                  refine lv_aload_n hx hb dX11_copy_147 rfl (lv_at hl 0 rfl) ?_
                  refine mr_entry S X Z hin hl_56 dX11_copy_148 ?_
                  refine lv_bipush (v := (48 : Int32)) hx hb dX11_copy_151 (by decide) ?_
                  refine lv_iload_n hx hb dX11_copy_153 rfl (lv_at hl 1 rfl) ?_
                  refine lv_imul hx hb dX11_copy_154 ?_
                  refine lv_iload hx hb dX11_copy_155 (lv_at hl 5 rfl) ?_
                  refine lv_iadd hx hb dX11_copy_157 ?_
                  refine g_iald S X Z ml_entry rfl dX11_copy_158 h (fun v31 h => ?_)
                  refine lv_goto (tgt := 163) hx hb dX11_copy_159 (by decide) ?_
                  exact hJ163 v31 M14 _ _ _ Z (lv_sub hl [0, 1, 2, 3, 4, 5] rfl) h
          exact hL128 100 (0 : Int32) (1 : Int32) M5 _ _ _ Z (lv_sub hl [3, 4, 5, 6, 1, 0] rfl) h
        · have h := if_f c11 h
          refine lv_aload_n hx hb dX11_copy_69 rfl (lv_at hl 1 rfl) ?_
          refine mr_isDirectory S X Z hin hl_29 dX11_copy_70 ?_
          refine lv_iload_n hx hb dX11_copy_73 rfl (lv_at hl 3 rfl) ?_
          refine g_zald S X Z ml_isDirectory rfl dX11_copy_74 h (fun v32 h => ?_)
          refine lv_if_eq (tgt := 82) hx hb dX11_copy_75 (by decide) (fun c33 => ?_) (fun c33 => ?_)
          · have h := if_t c33 h
            refine lv_iload_n hx hb dX11_copy_82 rfl (lv_at hl 4 rfl) ?_
            refine lv_if_ne (tgt := 97) hx hb dX11_copy_83 (by decide) (fun c34 => ?_) (fun c34 => ?_)
            · have h := if_f c34 h
              refine lv_iload_n hx hb dX11_copy_97 rfl (lv_at hl 4 rfl) ?_
              refine lv_iconst (v := (1 : Int32)) hx hb dX11_copy_98 (by decide) ?_
              refine lv_icmp_ne (tgt := 113) hx hb dX11_copy_99 (by decide) (fun c35 => ?_) (fun c35 => ?_)
              · have h := if_f c35 h
                refine lv_aload_n hx hb dX11_copy_113 rfl (lv_at hl 1 rfl) ?_
                refine mr_versions S X Z hin hl_44 dX11_copy_114 ?_
                refine lv_iload hx hb dX11_copy_117 (lv_at hl 0 rfl) ?_
                refine g_iald S X Z ml_versions rfl dX11_copy_119 h (fun v36 h => ?_)
                refine lv_i2l hx hb dX11_copy_120 rfl ?_
                have hy := Option.some.inj h
                subst hy
                exact g_rl S Z hr hlocks dX11_copy_121
              · have h := if_t c35 h
                refine lv_aload_n hx hb dX11_copy_102 rfl (lv_at hl 1 rfl) ?_
                refine mr_size S X Z hin hl_38 dX11_copy_103 ?_
                refine lv_iload hx hb dX11_copy_106 (lv_at hl 0 rfl) ?_
                refine g_iald S X Z ml_size rfl dX11_copy_108 h (fun v37 h => ?_)
                refine lv_i2l hx hb dX11_copy_109 rfl ?_
                refine lv_goto (tgt := 121) hx hb dX11_copy_110 (by decide) ?_
                have hy := Option.some.inj h
                subst hy
                exact g_rl S Z hr hlocks dX11_copy_121
            · have h := if_t c34 h
              refine lv_aload_n hx hb dX11_copy_86 rfl (lv_at hl 1 rfl) ?_
              refine mr_value S X Z hin hl_35 dX11_copy_87 ?_
              refine lv_iload hx hb dX11_copy_90 (lv_at hl 0 rfl) ?_
              refine g_iald S X Z ml_value rfl dX11_copy_92 h (fun v38 h => ?_)
              refine lv_i2l hx hb dX11_copy_93 rfl ?_
              refine lv_goto (tgt := 121) hx hb dX11_copy_94 (by decide) ?_
              have hy := Option.some.inj h
              subst hy
              exact g_rl S Z hr hlocks dX11_copy_121
          · have h := if_f c33 h
            refine lv_lconst (v := (0 : Int64)) hx hb dX11_copy_78 (by decide) ?_
            refine lv_goto (tgt := 121) hx hb dX11_copy_79 (by decide) ?_
            have hy := Option.some.inj h
            subst hy
            exact g_rl S Z hr hlocks dX11_copy_121
      · have h := if_t c10 h
        refine lv_ldc2 hx hb hown hc_172 dX11_copy_60 ?_
        have hy := Option.some.inj h
        subst hy
        exact g_rl S Z hr hlocks dX11_copy_63
    · have h := if_f c7 h
      refine lv_lconst (v := (0 : Int64)) hx hb dX11_copy_40 (by decide) ?_
      have hy := Option.some.inj h
      subst hy
      exact g_rl S Z hr hlocks dX11_copy_41
  obtain ⟨J29, eJ29, h⟩ := jn_e h
  have hJ29 : ∀ (M39 : gM) (H : Heap) (locs : List Loc) (ls : Array Slot), gZ D mLay dA mLive A (gA mLive A) s.heap M39 H locs → lv_has ls 8 [(0, .ref (A m_o)), (1, .int a1), (2, .int a2), (3, .int a3)] → J29 M39 = some y → W p l e (headSpec wsX11_copy ({ frames := 2, cells := 0, slots := 0, locals := 43 } : Room)).room s m args below meth c H locs 0 0 (MQ below (mQl D dA A y) args s 0 0 (gA mLive A)) (F0 m 29 ls [.ref (A m_o)]) := by
    intro M39 H locs ls Z hl h
    rw [eJ29] at h
    try dsimp only at h
    refine lv_iconst (v := (1 : Int32)) hx hb dX11_copy_29 (by decide) ?_
    exact hJ30 (1 : Int32) M39 _ _ _ Z (lv_sub hl [0, 1, 2, 3] rfl) h
  refine lv_if_eq (tgt := 29) hx hb dX11_copy_6 (by decide) (fun c40 => ?_) (fun c40 => ?_)
  · have h := if_t c40 h
    exact hJ29 M _ _ _ Z (lv_sub hl [0, 1, 2, 3] rfl) h
  · have h := if_f c40 h
    refine lv_iload_n hx hb dX11_copy_9 rfl (lv_at hl 2 rfl) ?_
    obtain ⟨v42, hc41, h⟩ := o1_e h
    refine g_Si (As := [.int a2]) (rest := [.ref (A m_o)]) S X Z (t_X11_isObject l D dA A hJ  hc41) (va_cwS 1 hts gX11_copy_X11_isObject rfl rfl rfl (by decide +kernel) ⟨Nat.le_of_ble_eq_true rfl, Nat.le_of_ble_eq_true rfl⟩) rfl hl.1 rfl (Nat.le_of_ble_eq_true rfl) dX11_copy_10 ⟨Nat.zero_le _, Nat.zero_le _⟩ (fun H locs Z => ?_)
    refine lv_if_eq (tgt := 29) hx hb dX11_copy_13 (by decide) (fun c43 => ?_) (fun c43 => ?_)
    · have h := if_t c43 h
      exact hJ29 M _ _ _ Z (lv_sub hl [0, 1, 2, 3] rfl) h
    · have h := if_f c43 h
      refine lv_iload_n hx hb dX11_copy_16 rfl (lv_at hl 3 rfl) ?_
      refine lv_iconst (v := (0 : Int32)) hx hb dX11_copy_17 (by decide) ?_
      refine lv_iconst (v := (4 : Int32)) hx hb dX11_copy_18 (by decide) ?_
      obtain ⟨v45, hc44, h⟩ := o1_e h
      refine g_Si (As := [.int a3, .int (0 : Int32), .int (4 : Int32)]) (rest := [.ref (A m_o)]) S X Z (t_X11_in l D dA A hJ  hc44) (va_cwS 3 hts gX11_copy_X11_in rfl rfl rfl (by decide +kernel) ⟨Nat.le_of_ble_eq_true rfl, Nat.le_of_ble_eq_true rfl⟩) rfl hl.1 rfl (Nat.le_of_ble_eq_true rfl) dX11_copy_19 ⟨Nat.zero_le _, Nat.zero_le _⟩ (fun H locs Z => ?_)
      refine lv_if_eq (tgt := 29) hx hb dX11_copy_22 (by decide) (fun c46 => ?_) (fun c46 => ?_)
      · have h := if_t c46 h
        exact hJ29 M _ _ _ Z (lv_sub hl [0, 1, 2, 3] rfl) h
      · have h := if_f c46 h
        refine lv_iconst (v := (0 : Int32)) hx hb dX11_copy_25 (by decide) ?_
        refine lv_goto (tgt := 30) hx hb dX11_copy_26 (by decide) ?_
        exact hJ30 (0 : Int32) M _ _ _ Z (lv_sub hl [0, 1, 2, 3] rfl) h
-- X11_vector (IIII)J: 77 instructions
set_option maxRecDepth 20000 in
theorem ggX11_vector_X11_isServer : GoodIn wsX11_vector wsX11_isServer := goodIn_r _ [12, 13, 14, 15, 11, 16, 20, 21, 22, 23, 24, 25, 26, 27, 28, 29, 30, 31, 32, 33, 34, 35, 36, 37, 38, 39, 40, 41, 42, 43, 44, 45, 46, 47, 48, 49, 50, 51, 52, 53, 54, 55, 56, 57, 58, 59, 60, 61, 62, 63, 64, 65, 66, 67, 68, 69, 70, 71, 72, 73, 74, 75, 76, 77, 78, 79, 80, 81, 82, 83, 84, 85, 86] (by decide +kernel) (by decide +kernel)
set_option maxRecDepth 20000 in
theorem gX11_vector_X11_isServer : GoodIn wsX11_vector (wsV RX11 184 RX11 yX11_isServer wsX11_isServer) := goodIn_app (goodIn_of _ (by decide +kernel)) ggX11_vector_X11_isServer
set_option maxRecDepth 20000 in
theorem ggX11_vector_X11_isObject : GoodIn wsX11_vector wsX11_isObject := goodIn_r _ [19, 14, 15, 11, 16] (by decide +kernel) (by decide +kernel)
set_option maxRecDepth 20000 in
theorem gX11_vector_X11_isObject : GoodIn wsX11_vector (va_wsS RX11 194 yX11_isObject wsX11_isObject) := goodIn_app (goodIn_of _ (by decide +kernel)) ggX11_vector_X11_isObject
set_option maxRecDepth 20000 in
theorem ggX11_vector_X11_in : GoodIn wsX11_vector wsX11_in := goodIn_r _ [16] (by decide +kernel) (by decide +kernel)
set_option maxRecDepth 20000 in
theorem gX11_vector_X11_in : GoodIn wsX11_vector (va_wsS RX11 168 yX11_in wsX11_in) := goodIn_app (goodIn_of _ (by decide +kernel)) ggX11_vector_X11_in
theorem dX11_vector_0 : decode cX11_vector 0 = .ok (.aload_n 0, 1) := by decide +kernel
theorem dX11_vector_1 : decode cX11_vector 1 = .ok (.aload_n 0, 1) := by decide +kernel
theorem dX11_vector_2 : decode cX11_vector 2 = .ok (.iload_n 1, 1) := by decide +kernel
theorem dX11_vector_3 : decode cX11_vector 3 = .ok (.invokevirtual 184, 3) := by decide +kernel
theorem dX11_vector_6 : decode cX11_vector 6 = .ok (.ifCond .eq 29, 3) := by decide +kernel
theorem dX11_vector_9 : decode cX11_vector 9 = .ok (.iload_n 2, 1) := by decide +kernel
theorem dX11_vector_10 : decode cX11_vector 10 = .ok (.invokestatic 194, 3) := by decide +kernel
theorem dX11_vector_13 : decode cX11_vector 13 = .ok (.ifCond .eq 22, 3) := by decide +kernel
theorem dX11_vector_16 : decode cX11_vector 16 = .ok (.iload 4, 2) := by decide +kernel
theorem dX11_vector_18 : decode cX11_vector 18 = .ok (.iconst 0, 1) := by decide +kernel
theorem dX11_vector_19 : decode cX11_vector 19 = .ok (.aload_n 0, 1) := by decide +kernel
theorem dX11_vector_20 : decode cX11_vector 20 = .ok (.getfield 159, 3) := by decide +kernel
theorem dX11_vector_23 : decode cX11_vector 23 = .ok (.iconst 1, 1) := by decide +kernel
theorem dX11_vector_24 : decode cX11_vector 24 = .ok (.isub, 1) := by decide +kernel
theorem dX11_vector_25 : decode cX11_vector 25 = .ok (.invokestatic 168, 3) := by decide +kernel
theorem dX11_vector_28 : decode cX11_vector 28 = .ok (.ifCond .eq 7, 3) := by decide +kernel
theorem dX11_vector_31 : decode cX11_vector 31 = .ok (.iconst 0, 1) := by decide +kernel
theorem dX11_vector_32 : decode cX11_vector 32 = .ok (.goto 4, 3) := by decide +kernel
theorem dX11_vector_35 : decode cX11_vector 35 = .ok (.iconst 1, 1) := by decide +kernel
theorem dX11_vector_36 : decode cX11_vector 36 = .ok (.putfield 165, 3) := by decide +kernel
theorem dX11_vector_39 : decode cX11_vector 39 = .ok (.aload_n 0, 1) := by decide +kernel
theorem dX11_vector_40 : decode cX11_vector 40 = .ok (.getfield 165, 3) := by decide +kernel
theorem dX11_vector_43 : decode cX11_vector 43 = .ok (.ifCond .le 5, 3) := by decide +kernel
theorem dX11_vector_46 : decode cX11_vector 46 = .ok (.lconst 0, 1) := by decide +kernel
theorem dX11_vector_47 : decode cX11_vector 47 = .ok (.lreturn, 1) := by decide +kernel
theorem dX11_vector_48 : decode cX11_vector 48 = .ok (.bipush 48, 2) := by decide +kernel
theorem dX11_vector_50 : decode cX11_vector 50 = .ok (.iload_n 1, 1) := by decide +kernel
theorem dX11_vector_51 : decode cX11_vector 51 = .ok (.imul, 1) := by decide +kernel
theorem dX11_vector_52 : decode cX11_vector 52 = .ok (.iload_n 2, 1) := by decide +kernel
theorem dX11_vector_53 : decode cX11_vector 53 = .ok (.iadd, 1) := by decide +kernel
theorem dX11_vector_54 : decode cX11_vector 54 = .ok (.istore 5, 2) := by decide +kernel
theorem dX11_vector_56 : decode cX11_vector 56 = .ok (.aload_n 0, 1) := by decide +kernel
theorem dX11_vector_57 : decode cX11_vector 57 = .ok (.getfield 32, 3) := by decide +kernel
theorem dX11_vector_60 : decode cX11_vector 60 = .ok (.iload 5, 2) := by decide +kernel
theorem dX11_vector_62 : decode cX11_vector 62 = .ok (.baload, 1) := by decide +kernel
theorem dX11_vector_63 : decode cX11_vector 63 = .ok (.ifCond .ne 7, 3) := by decide +kernel
theorem dX11_vector_66 : decode cX11_vector 66 = .ok (.ldc2_w 172, 3) := by decide +kernel
theorem dX11_vector_69 : decode cX11_vector 69 = .ok (.lreturn, 1) := by decide +kernel
theorem dX11_vector_70 : decode cX11_vector 70 = .ok (.iload_n 3, 1) := by decide +kernel
theorem dX11_vector_71 : decode cX11_vector 71 = .ok (.iconst (-1), 1) := by decide +kernel
theorem dX11_vector_72 : decode cX11_vector 72 = .ok (.if_icmp .ne 18, 3) := by decide +kernel
theorem dX11_vector_75 : decode cX11_vector 75 = .ok (.aload_n 0, 1) := by decide +kernel
theorem dX11_vector_76 : decode cX11_vector 76 = .ok (.getfield 41, 3) := by decide +kernel
theorem dX11_vector_79 : decode cX11_vector 79 = .ok (.bipush 8, 2) := by decide +kernel
theorem dX11_vector_81 : decode cX11_vector 81 = .ok (.iload 5, 2) := by decide +kernel
theorem dX11_vector_83 : decode cX11_vector 83 = .ok (.imul, 1) := by decide +kernel
theorem dX11_vector_84 : decode cX11_vector 84 = .ok (.iload 4, 2) := by decide +kernel
theorem dX11_vector_86 : decode cX11_vector 86 = .ok (.iadd, 1) := by decide +kernel
theorem dX11_vector_87 : decode cX11_vector 87 = .ok (.iaload, 1) := by decide +kernel
theorem dX11_vector_88 : decode cX11_vector 88 = .ok (.i2l, 1) := by decide +kernel
theorem dX11_vector_89 : decode cX11_vector 89 = .ok (.lreturn, 1) := by decide +kernel
theorem dX11_vector_90 : decode cX11_vector 90 = .ok (.iload_n 3, 1) := by decide +kernel
theorem dX11_vector_91 : decode cX11_vector 91 = .ok (.iconst 0, 1) := by decide +kernel
theorem dX11_vector_92 : decode cX11_vector 92 = .ok (.aload_n 0, 1) := by decide +kernel
theorem dX11_vector_93 : decode cX11_vector 93 = .ok (.getfield 44, 3) := by decide +kernel
theorem dX11_vector_96 : decode cX11_vector 96 = .ok (.iload 5, 2) := by decide +kernel
theorem dX11_vector_98 : decode cX11_vector 98 = .ok (.iaload, 1) := by decide +kernel
theorem dX11_vector_99 : decode cX11_vector 99 = .ok (.iconst 1, 1) := by decide +kernel
theorem dX11_vector_100 : decode cX11_vector 100 = .ok (.isub, 1) := by decide +kernel
theorem dX11_vector_101 : decode cX11_vector 101 = .ok (.invokestatic 168, 3) := by decide +kernel
theorem dX11_vector_104 : decode cX11_vector 104 = .ok (.ifCond .eq 25, 3) := by decide +kernel
theorem dX11_vector_107 : decode cX11_vector 107 = .ok (.aload_n 0, 1) := by decide +kernel
theorem dX11_vector_108 : decode cX11_vector 108 = .ok (.getfield 53, 3) := by decide +kernel
theorem dX11_vector_111 : decode cX11_vector 111 = .ok (.bipush 8, 2) := by decide +kernel
theorem dX11_vector_113 : decode cX11_vector 113 = .ok (.bipush 6, 2) := by decide +kernel
theorem dX11_vector_115 : decode cX11_vector 115 = .ok (.iload 5, 2) := by decide +kernel
theorem dX11_vector_117 : decode cX11_vector 117 = .ok (.imul, 1) := by decide +kernel
theorem dX11_vector_118 : decode cX11_vector 118 = .ok (.iload_n 3, 1) := by decide +kernel
theorem dX11_vector_119 : decode cX11_vector 119 = .ok (.iadd, 1) := by decide +kernel
theorem dX11_vector_120 : decode cX11_vector 120 = .ok (.imul, 1) := by decide +kernel
theorem dX11_vector_121 : decode cX11_vector 121 = .ok (.iload 4, 2) := by decide +kernel
theorem dX11_vector_123 : decode cX11_vector 123 = .ok (.iadd, 1) := by decide +kernel
theorem dX11_vector_124 : decode cX11_vector 124 = .ok (.iaload, 1) := by decide +kernel
theorem dX11_vector_125 : decode cX11_vector 125 = .ok (.i2l, 1) := by decide +kernel
theorem dX11_vector_126 : decode cX11_vector 126 = .ok (.goto 6, 3) := by decide +kernel
theorem dX11_vector_129 : decode cX11_vector 129 = .ok (.ldc2_w 172, 3) := by decide +kernel
theorem dX11_vector_132 : decode cX11_vector 132 = .ok (.lreturn, 1) := by decide +kernel
def f_X11_vector (M : gM) (a1 : Int32) (a2 : Int32) (a3 : Int32) (a4 : Int32) : Option (Int64 × gM) :=
  o1 (f_X11_isServer M a1) (fun v2 => jn (fun (q : (Int32 × gM)) => match q with | (b3, M4) => lt (gset M4 m_o 66 b3) (fun M5 => lt (M5 m_o 66) (fun v6 => (if v6 ≤ 0 then lt ((((48 : Int32) * a1) + a2)) (fun x8 => rd M5 m_has 192 x8 (fun v9 => (if v9 = 0 then some ((-2199023255552 : Int64), M5) else (if a3 = (-1 : Int32) then rd M5 m_vector 1536 (((8 : Int32) * x8) + a4) (fun v17 => some (v17.toInt64, M5)) else rd M5 m_versions 192 x8 (fun v12 => o1 (f_X11_in M5 a3 (0 : Int32) (v12 - (1 : Int32))) (fun v14 => (if v14 = 0 then some ((-2199023255552 : Int64), M5) else rd M5 m_versionVector 9216 (((8 : Int32) * (((6 : Int32) * x8) + a3)) + a4) (fun v16 => some (v16.toInt64, M5))))))))) else some ((0 : Int64), M5))))) (fun J36 => jn (fun (M18 : gM) => J36 ((1 : Int32), M18)) (fun J35 => (if v2 = 0 then J35 M else o1 (f_X11_isObject M a2) (fun v21 => (if v21 = 0 then J35 M else lt (M m_o 1) (fun v23 => o1 (f_X11_in M a4 (0 : Int32) (v23 - (1 : Int32))) (fun v25 => (if v25 = 0 then J35 M else J36 ((0 : Int32), M))))))))))
set_option maxHeartbeats 4000000 in
set_option maxRecDepth 100000 in
theorem t_X11_vector (l : Launch) (D : va_G) (dA : Nat → ClassId) (A : gI → Nat) (hJ : gJ mLive A) {M : gM} {a1 : Int32} {a2 : Int32} {a3 : Int32} {a4 : Int32}  {y : (Int64 × gM)} (h : f_X11_vector M a1 a2 a3 a4 = some y) : mMl l yX11_vector wsX11_vector ({ frames := 2, cells := 0, slots := 0, locals := 43 } : Room) D dA A [.ref (A m_o), .int a1, .int a2, .int a3, .int a4] M y.1 y.2 := by
  refine Met.ofW (cc := cX11_vector) (maxL := 6) (ret := (some .long)) (by decide) rfl ?_
  intro p e s m args below meth c s₁ B hml hv
  obtain ⟨rfl, hP, hK⟩ := hv
  generalize hargs : ([.ref (A m_o), .int a1, .int a2, .int a3, .int a4] : List Value).toArray = args at B ⊢
  have S : CallFix p m c cX11_vector 6 s args wsX11_vector RX11 := ⟨B.exec, B.bytes, hml, findClass_of_methodNamed B.named, atoms_spec (ws := wsX11_vector) B.pre⟩
  obtain ⟨hx, hb, -, hown, hts⟩ := id S
  have hr := B.returns
  have hlocks := B.notSynchronized
  have X : gX D vwCl dA mLive A (gA mLive A) s := ⟨hK, hJ, fun i hi => ⟨i, hi, rfl⟩⟩
  have Z : gZ D mLay dA mLive A (gA mLive A) s.heap M s.heap [] := ⟨hP, va_S.rf⟩
  have hin : ∀ w ∈ wsX110, w ∈ wsX11_vector := fun w h => List.mem_cons_of_mem _ (List.mem_append_right _ h)
  have hl_32 := hts (.fieldLink RX11 32 "ReplicaFilesModel" "has" "[Z") (by decide +kernel)
  have hl_41 := hts (.fieldLink RX11 41 "ReplicaFilesModel" "vector" "[I") (by decide +kernel)
  have hl_44 := hts (.fieldLink RX11 44 "ReplicaFilesModel" "versions" "[I") (by decide +kernel)
  have hl_53 := hts (.fieldLink RX11 53 "ReplicaFilesModel" "versionVector" "[I") (by decide +kernel)
  have hl_159 := hts (.fieldLink RX11 159 "ReplicaFilesModel" "counts" "I") (by decide +kernel)
  have hl_165 := hts (.fieldLink RX11 165 "ReplicaFilesModel" "thrown" "I") (by decide +kernel)
  have hc_172 := hts (.constantLong RX11 172 (-2199023255552)) (by decide +kernel)
  have hl := lv_entry ([.ref (A m_o), .int a1, .int a2, .int a3, .int a4]) (n := 6) (Nat.le_of_ble_eq_true rfl)
  rw [← hargs, lg_entry_eq, hargs]
  generalize (lg_sl ([.ref (A m_o), .int a1, .int a2, .int a3, .int a4]) ++ List.replicate (6 - (lg_sl ([.ref (A m_o), .int a1, .int a2, .int a3, .int a4])).length) Slot.unset).toArray = ls at hl ⊢
  have hl : lv_has ls 6 [(0, .ref (A m_o)), (1, .int a1), (2, .int a2), (3, .int a3), (4, .int a4)] := hl
  unfold f_X11_vector at h
  refine lv_aload_n hx hb dX11_vector_0 rfl (lv_at hl 0 rfl) ?_
  refine lv_aload_n hx hb dX11_vector_1 rfl (lv_at hl 0 rfl) ?_
  refine lv_iload_n hx hb dX11_vector_2 rfl (lv_at hl 1 rfl) ?_
  obtain ⟨v2, hc1, h⟩ := o1_e h
  refine g_Vi (As := [.int a1]) (rest := [.ref (A m_o)]) S X Z mlv_o rfl rfl (t_X11_isServer l D dA A hJ  hc1) (cwV 1 hts gX11_vector_X11_isServer rfl rfl rfl (by decide +kernel) ⟨Nat.le_of_ble_eq_true rfl, Nat.le_of_ble_eq_true rfl⟩) rfl hl.1 rfl (Nat.le_of_ble_eq_true rfl) dX11_vector_3 ⟨Nat.zero_le _, Nat.zero_le _⟩ (fun H locs Z => ?_)
  obtain ⟨J36, eJ36, h⟩ := jn_e h
  have hJ36 : ∀ (b3 : Int32) (M4 : gM) (H : Heap) (locs : List Loc) (ls : Array Slot), gZ D mLay dA mLive A (gA mLive A) s.heap M4 H locs → lv_has ls 6 [(0, .ref (A m_o)), (1, .int a1), (2, .int a2), (3, .int a3), (4, .int a4)] → J36 (b3, M4) = some y → W p l e (headSpec wsX11_vector ({ frames := 2, cells := 0, slots := 0, locals := 43 } : Room)).room s m args below meth c H locs 0 0 (MQ below (mQl D dA A y) args s 0 0 (gA mLive A)) (F0 m 36 ls [.int b3, .ref (A m_o)]) := by
    intro b3 M4 H locs ls Z hl h
    rw [eJ36] at h
    try dsimp only at h
    refine mp_thrown S X Z hin hl_165 dX11_vector_36 h (fun M5 H locs Z h => ?_)
    refine lv_aload_n hx hb dX11_vector_39 rfl (lv_at hl 0 rfl) ?_
    refine mr_thrown S X Z hin hl_165 dX11_vector_40 h (fun v6 h => ?_)
    refine lv_if_le (tgt := 48) hx hb dX11_vector_43 (by decide) (fun c7 => ?_) (fun c7 => ?_)
    · have h := if_t c7 h
      refine lv_bipush (v := (48 : Int32)) hx hb dX11_vector_48 (by decide) ?_
      refine lv_iload_n hx hb dX11_vector_50 rfl (lv_at hl 1 rfl) ?_
      refine lv_imul hx hb dX11_vector_51 ?_
      refine lv_iload_n hx hb dX11_vector_52 rfl (lv_at hl 2 rfl) ?_
      refine lv_iadd hx hb dX11_vector_53 ?_
      refine g_topi h (fun x8 h => ?_)
      refine lv_istore (lv' := [(5, .int x8), (0, .ref (A m_o)), (1, .int a1), (2, .int a2), (3, .int a3), (4, .int a4)]) hx hb dX11_vector_54 hl (by decide) rfl (fun ls hl => ?_)
      refine lv_aload_n hx hb dX11_vector_56 rfl (lv_at hl 1 rfl) ?_
      refine mr_has S X Z hin hl_32 dX11_vector_57 ?_
      refine lv_iload hx hb dX11_vector_60 (lv_at hl 0 rfl) ?_
      refine g_zald S X Z ml_has rfl dX11_vector_62 h (fun v9 h => ?_)
      refine lv_if_ne (tgt := 70) hx hb dX11_vector_63 (by decide) (fun c10 => ?_) (fun c10 => ?_)
      · have h := if_f c10 h
        refine lv_iload_n hx hb dX11_vector_70 rfl (lv_at hl 4 rfl) ?_
        refine lv_iconst (v := (-1 : Int32)) hx hb dX11_vector_71 (by decide) ?_
        refine lv_icmp_ne (tgt := 90) hx hb dX11_vector_72 (by decide) (fun c11 => ?_) (fun c11 => ?_)
        · have h := if_f c11 h
          refine lv_iload_n hx hb dX11_vector_90 rfl (lv_at hl 4 rfl) ?_
          refine lv_iconst (v := (0 : Int32)) hx hb dX11_vector_91 (by decide) ?_
          refine lv_aload_n hx hb dX11_vector_92 rfl (lv_at hl 1 rfl) ?_
          refine mr_versions S X Z hin hl_44 dX11_vector_93 ?_
          refine lv_iload hx hb dX11_vector_96 (lv_at hl 0 rfl) ?_
          refine g_iald S X Z ml_versions rfl dX11_vector_98 h (fun v12 h => ?_)
          refine lv_iconst (v := (1 : Int32)) hx hb dX11_vector_99 (by decide) ?_
          refine lv_isub hx hb dX11_vector_100 ?_
          obtain ⟨v14, hc13, h⟩ := o1_e h
          refine g_Si (As := [.int a3, .int (0 : Int32), .int (v12 - (1 : Int32))]) (rest := []) S X Z (t_X11_in l D dA A hJ  hc13) (va_cwS 3 hts gX11_vector_X11_in rfl rfl rfl (by decide +kernel) ⟨Nat.le_of_ble_eq_true rfl, Nat.le_of_ble_eq_true rfl⟩) rfl hl.1 rfl (Nat.le_of_ble_eq_true rfl) dX11_vector_101 ⟨Nat.zero_le _, Nat.zero_le _⟩ (fun H locs Z => ?_)
          refine lv_if_eq (tgt := 129) hx hb dX11_vector_104 (by decide) (fun c15 => ?_) (fun c15 => ?_)
          · have h := if_t c15 h
            refine lv_ldc2 hx hb hown hc_172 dX11_vector_129 ?_
            have hy := Option.some.inj h
            subst hy
            exact g_rl S Z hr hlocks dX11_vector_132
          · have h := if_f c15 h
            refine lv_aload_n hx hb dX11_vector_107 rfl (lv_at hl 1 rfl) ?_
            refine mr_versionVector S X Z hin hl_53 dX11_vector_108 ?_
            refine lv_bipush (v := (8 : Int32)) hx hb dX11_vector_111 (by decide) ?_
            refine lv_bipush (v := (6 : Int32)) hx hb dX11_vector_113 (by decide) ?_
            refine lv_iload hx hb dX11_vector_115 (lv_at hl 0 rfl) ?_
            refine lv_imul hx hb dX11_vector_117 ?_
            refine lv_iload_n hx hb dX11_vector_118 rfl (lv_at hl 4 rfl) ?_
            refine lv_iadd hx hb dX11_vector_119 ?_
            refine lv_imul hx hb dX11_vector_120 ?_
            refine lv_iload hx hb dX11_vector_121 (lv_at hl 5 rfl) ?_
            refine lv_iadd hx hb dX11_vector_123 ?_
            refine g_iald S X Z ml_versionVector rfl dX11_vector_124 h (fun v16 h => ?_)
            refine lv_i2l hx hb dX11_vector_125 rfl ?_
            refine lv_goto (tgt := 132) hx hb dX11_vector_126 (by decide) ?_
            have hy := Option.some.inj h
            subst hy
            exact g_rl S Z hr hlocks dX11_vector_132
        · have h := if_t c11 h
          refine lv_aload_n hx hb dX11_vector_75 rfl (lv_at hl 1 rfl) ?_
          refine mr_vector S X Z hin hl_41 dX11_vector_76 ?_
          refine lv_bipush (v := (8 : Int32)) hx hb dX11_vector_79 (by decide) ?_
          refine lv_iload hx hb dX11_vector_81 (lv_at hl 0 rfl) ?_
          refine lv_imul hx hb dX11_vector_83 ?_
          refine lv_iload hx hb dX11_vector_84 (lv_at hl 5 rfl) ?_
          refine lv_iadd hx hb dX11_vector_86 ?_
          refine g_iald S X Z ml_vector rfl dX11_vector_87 h (fun v17 h => ?_)
          refine lv_i2l hx hb dX11_vector_88 rfl ?_
          have hy := Option.some.inj h
          subst hy
          exact g_rl S Z hr hlocks dX11_vector_89
      · have h := if_t c10 h
        refine lv_ldc2 hx hb hown hc_172 dX11_vector_66 ?_
        have hy := Option.some.inj h
        subst hy
        exact g_rl S Z hr hlocks dX11_vector_69
    · have h := if_f c7 h
      refine lv_lconst (v := (0 : Int64)) hx hb dX11_vector_46 (by decide) ?_
      have hy := Option.some.inj h
      subst hy
      exact g_rl S Z hr hlocks dX11_vector_47
  obtain ⟨J35, eJ35, h⟩ := jn_e h
  have hJ35 : ∀ (M18 : gM) (H : Heap) (locs : List Loc) (ls : Array Slot), gZ D mLay dA mLive A (gA mLive A) s.heap M18 H locs → lv_has ls 6 [(0, .ref (A m_o)), (1, .int a1), (2, .int a2), (3, .int a3), (4, .int a4)] → J35 M18 = some y → W p l e (headSpec wsX11_vector ({ frames := 2, cells := 0, slots := 0, locals := 43 } : Room)).room s m args below meth c H locs 0 0 (MQ below (mQl D dA A y) args s 0 0 (gA mLive A)) (F0 m 35 ls [.ref (A m_o)]) := by
    intro M18 H locs ls Z hl h
    rw [eJ35] at h
    try dsimp only at h
    refine lv_iconst (v := (1 : Int32)) hx hb dX11_vector_35 (by decide) ?_
    exact hJ36 (1 : Int32) M18 _ _ _ Z (lv_sub hl [0, 1, 2, 3, 4] rfl) h
  refine lv_if_eq (tgt := 35) hx hb dX11_vector_6 (by decide) (fun c19 => ?_) (fun c19 => ?_)
  · have h := if_t c19 h
    exact hJ35 M _ _ _ Z (lv_sub hl [0, 1, 2, 3, 4] rfl) h
  · have h := if_f c19 h
    refine lv_iload_n hx hb dX11_vector_9 rfl (lv_at hl 2 rfl) ?_
    obtain ⟨v21, hc20, h⟩ := o1_e h
    refine g_Si (As := [.int a2]) (rest := [.ref (A m_o)]) S X Z (t_X11_isObject l D dA A hJ  hc20) (va_cwS 1 hts gX11_vector_X11_isObject rfl rfl rfl (by decide +kernel) ⟨Nat.le_of_ble_eq_true rfl, Nat.le_of_ble_eq_true rfl⟩) rfl hl.1 rfl (Nat.le_of_ble_eq_true rfl) dX11_vector_10 ⟨Nat.zero_le _, Nat.zero_le _⟩ (fun H locs Z => ?_)
    refine lv_if_eq (tgt := 35) hx hb dX11_vector_13 (by decide) (fun c22 => ?_) (fun c22 => ?_)
    · have h := if_t c22 h
      exact hJ35 M _ _ _ Z (lv_sub hl [0, 1, 2, 3, 4] rfl) h
    · have h := if_f c22 h
      refine lv_iload hx hb dX11_vector_16 (lv_at hl 4 rfl) ?_
      refine lv_iconst (v := (0 : Int32)) hx hb dX11_vector_18 (by decide) ?_
      refine lv_aload_n hx hb dX11_vector_19 rfl (lv_at hl 0 rfl) ?_
      refine mr_counts S X Z hin hl_159 dX11_vector_20 h (fun v23 h => ?_)
      refine lv_iconst (v := (1 : Int32)) hx hb dX11_vector_23 (by decide) ?_
      refine lv_isub hx hb dX11_vector_24 ?_
      obtain ⟨v25, hc24, h⟩ := o1_e h
      refine g_Si (As := [.int a4, .int (0 : Int32), .int (v23 - (1 : Int32))]) (rest := [.ref (A m_o)]) S X Z (t_X11_in l D dA A hJ  hc24) (va_cwS 3 hts gX11_vector_X11_in rfl rfl rfl (by decide +kernel) ⟨Nat.le_of_ble_eq_true rfl, Nat.le_of_ble_eq_true rfl⟩) rfl hl.1 rfl (Nat.le_of_ble_eq_true rfl) dX11_vector_25 ⟨Nat.zero_le _, Nat.zero_le _⟩ (fun H locs Z => ?_)
      refine lv_if_eq (tgt := 35) hx hb dX11_vector_28 (by decide) (fun c26 => ?_) (fun c26 => ?_)
      · have h := if_t c26 h
        exact hJ35 M _ _ _ Z (lv_sub hl [0, 1, 2, 3, 4] rfl) h
      · have h := if_f c26 h
        refine lv_iconst (v := (0 : Int32)) hx hb dX11_vector_31 (by decide) ?_
        refine lv_goto (tgt := 36) hx hb dX11_vector_32 (by decide) ?_
        exact hJ36 (0 : Int32) M _ _ _ Z (lv_sub hl [0, 1, 2, 3, 4] rfl) h
-- X11_version (IIII)J: 67 instructions
set_option maxRecDepth 20000 in
theorem ggX11_version_X11_isServer : GoodIn wsX11_version wsX11_isServer := goodIn_r _ [11, 12, 13, 14, 10, 15, 19, 20, 21, 22, 23, 24, 25, 26, 27, 28, 29, 30, 31, 32, 33, 34, 35, 36, 37, 38, 39, 40, 41, 42, 43, 44, 45, 46, 47, 48, 49, 50, 51, 52, 53, 54, 55, 56, 57, 58, 59, 60, 61, 62, 63, 64, 65, 66, 67, 68, 69, 70, 71, 72, 73, 74, 75, 76, 77, 78, 79, 80, 81, 82, 83, 84, 85] (by decide +kernel) (by decide +kernel)
set_option maxRecDepth 20000 in
theorem gX11_version_X11_isServer : GoodIn wsX11_version (wsV RX11 184 RX11 yX11_isServer wsX11_isServer) := goodIn_app (goodIn_of _ (by decide +kernel)) ggX11_version_X11_isServer
set_option maxRecDepth 20000 in
theorem ggX11_version_X11_isObject : GoodIn wsX11_version wsX11_isObject := goodIn_r _ [18, 13, 14, 10, 15] (by decide +kernel) (by decide +kernel)
set_option maxRecDepth 20000 in
theorem gX11_version_X11_isObject : GoodIn wsX11_version (va_wsS RX11 194 yX11_isObject wsX11_isObject) := goodIn_app (goodIn_of _ (by decide +kernel)) ggX11_version_X11_isObject
set_option maxRecDepth 20000 in
theorem ggX11_version_X11_in : GoodIn wsX11_version wsX11_in := goodIn_r _ [15] (by decide +kernel) (by decide +kernel)
set_option maxRecDepth 20000 in
theorem gX11_version_X11_in : GoodIn wsX11_version (va_wsS RX11 168 yX11_in wsX11_in) := goodIn_app (goodIn_of _ (by decide +kernel)) ggX11_version_X11_in
theorem dX11_version_0 : decode cX11_version 0 = .ok (.aload_n 0, 1) := by decide +kernel
theorem dX11_version_1 : decode cX11_version 1 = .ok (.aload_n 0, 1) := by decide +kernel
theorem dX11_version_2 : decode cX11_version 2 = .ok (.iload_n 1, 1) := by decide +kernel
theorem dX11_version_3 : decode cX11_version 3 = .ok (.invokevirtual 184, 3) := by decide +kernel
theorem dX11_version_6 : decode cX11_version 6 = .ok (.ifCond .eq 24, 3) := by decide +kernel
theorem dX11_version_9 : decode cX11_version 9 = .ok (.iload_n 2, 1) := by decide +kernel
theorem dX11_version_10 : decode cX11_version 10 = .ok (.invokestatic 194, 3) := by decide +kernel
theorem dX11_version_13 : decode cX11_version 13 = .ok (.ifCond .eq 17, 3) := by decide +kernel
theorem dX11_version_16 : decode cX11_version 16 = .ok (.iload 4, 2) := by decide +kernel
theorem dX11_version_18 : decode cX11_version 18 = .ok (.iconst 0, 1) := by decide +kernel
theorem dX11_version_19 : decode cX11_version 19 = .ok (.iconst 1, 1) := by decide +kernel
theorem dX11_version_20 : decode cX11_version 20 = .ok (.invokestatic 168, 3) := by decide +kernel
theorem dX11_version_23 : decode cX11_version 23 = .ok (.ifCond .eq 7, 3) := by decide +kernel
theorem dX11_version_26 : decode cX11_version 26 = .ok (.iconst 0, 1) := by decide +kernel
theorem dX11_version_27 : decode cX11_version 27 = .ok (.goto 4, 3) := by decide +kernel
theorem dX11_version_30 : decode cX11_version 30 = .ok (.iconst 1, 1) := by decide +kernel
theorem dX11_version_31 : decode cX11_version 31 = .ok (.putfield 165, 3) := by decide +kernel
theorem dX11_version_34 : decode cX11_version 34 = .ok (.aload_n 0, 1) := by decide +kernel
theorem dX11_version_35 : decode cX11_version 35 = .ok (.getfield 165, 3) := by decide +kernel
theorem dX11_version_38 : decode cX11_version 38 = .ok (.ifCond .le 5, 3) := by decide +kernel
theorem dX11_version_41 : decode cX11_version 41 = .ok (.lconst 0, 1) := by decide +kernel
theorem dX11_version_42 : decode cX11_version 42 = .ok (.lreturn, 1) := by decide +kernel
theorem dX11_version_43 : decode cX11_version 43 = .ok (.bipush 48, 2) := by decide +kernel
theorem dX11_version_45 : decode cX11_version 45 = .ok (.iload_n 1, 1) := by decide +kernel
theorem dX11_version_46 : decode cX11_version 46 = .ok (.imul, 1) := by decide +kernel
theorem dX11_version_47 : decode cX11_version 47 = .ok (.iload_n 2, 1) := by decide +kernel
theorem dX11_version_48 : decode cX11_version 48 = .ok (.iadd, 1) := by decide +kernel
theorem dX11_version_49 : decode cX11_version 49 = .ok (.istore 5, 2) := by decide +kernel
theorem dX11_version_51 : decode cX11_version 51 = .ok (.aload_n 0, 1) := by decide +kernel
theorem dX11_version_52 : decode cX11_version 52 = .ok (.getfield 32, 3) := by decide +kernel
theorem dX11_version_55 : decode cX11_version 55 = .ok (.iload 5, 2) := by decide +kernel
theorem dX11_version_57 : decode cX11_version 57 = .ok (.baload, 1) := by decide +kernel
theorem dX11_version_58 : decode cX11_version 58 = .ok (.ifCond .eq 20, 3) := by decide +kernel
theorem dX11_version_61 : decode cX11_version 61 = .ok (.iload_n 3, 1) := by decide +kernel
theorem dX11_version_62 : decode cX11_version 62 = .ok (.iconst 0, 1) := by decide +kernel
theorem dX11_version_63 : decode cX11_version 63 = .ok (.aload_n 0, 1) := by decide +kernel
theorem dX11_version_64 : decode cX11_version 64 = .ok (.getfield 44, 3) := by decide +kernel
theorem dX11_version_67 : decode cX11_version 67 = .ok (.iload 5, 2) := by decide +kernel
theorem dX11_version_69 : decode cX11_version 69 = .ok (.iaload, 1) := by decide +kernel
theorem dX11_version_70 : decode cX11_version 70 = .ok (.iconst 1, 1) := by decide +kernel
theorem dX11_version_71 : decode cX11_version 71 = .ok (.isub, 1) := by decide +kernel
theorem dX11_version_72 : decode cX11_version 72 = .ok (.invokestatic 168, 3) := by decide +kernel
theorem dX11_version_75 : decode cX11_version 75 = .ok (.ifCond .ne 7, 3) := by decide +kernel
theorem dX11_version_78 : decode cX11_version 78 = .ok (.ldc2_w 172, 3) := by decide +kernel
theorem dX11_version_81 : decode cX11_version 81 = .ok (.lreturn, 1) := by decide +kernel
theorem dX11_version_82 : decode cX11_version 82 = .ok (.iload 4, 2) := by decide +kernel
theorem dX11_version_84 : decode cX11_version 84 = .ok (.ifCond .ne 19, 3) := by decide +kernel
theorem dX11_version_87 : decode cX11_version 87 = .ok (.aload_n 0, 1) := by decide +kernel
theorem dX11_version_88 : decode cX11_version 88 = .ok (.getfield 47, 3) := by decide +kernel
theorem dX11_version_91 : decode cX11_version 91 = .ok (.bipush 6, 2) := by decide +kernel
theorem dX11_version_93 : decode cX11_version 93 = .ok (.iload 5, 2) := by decide +kernel
theorem dX11_version_95 : decode cX11_version 95 = .ok (.imul, 1) := by decide +kernel
theorem dX11_version_96 : decode cX11_version 96 = .ok (.iload_n 3, 1) := by decide +kernel
theorem dX11_version_97 : decode cX11_version 97 = .ok (.iadd, 1) := by decide +kernel
theorem dX11_version_98 : decode cX11_version 98 = .ok (.iaload, 1) := by decide +kernel
theorem dX11_version_99 : decode cX11_version 99 = .ok (.i2l, 1) := by decide +kernel
theorem dX11_version_100 : decode cX11_version 100 = .ok (.goto 16, 3) := by decide +kernel
theorem dX11_version_103 : decode cX11_version 103 = .ok (.aload_n 0, 1) := by decide +kernel
theorem dX11_version_104 : decode cX11_version 104 = .ok (.getfield 50, 3) := by decide +kernel
theorem dX11_version_107 : decode cX11_version 107 = .ok (.bipush 6, 2) := by decide +kernel
theorem dX11_version_109 : decode cX11_version 109 = .ok (.iload 5, 2) := by decide +kernel
theorem dX11_version_111 : decode cX11_version 111 = .ok (.imul, 1) := by decide +kernel
theorem dX11_version_112 : decode cX11_version 112 = .ok (.iload_n 3, 1) := by decide +kernel
theorem dX11_version_113 : decode cX11_version 113 = .ok (.iadd, 1) := by decide +kernel
theorem dX11_version_114 : decode cX11_version 114 = .ok (.iaload, 1) := by decide +kernel
theorem dX11_version_115 : decode cX11_version 115 = .ok (.i2l, 1) := by decide +kernel
theorem dX11_version_116 : decode cX11_version 116 = .ok (.lreturn, 1) := by decide +kernel
def f_X11_version (M : gM) (a1 : Int32) (a2 : Int32) (a3 : Int32) (a4 : Int32) : Option (Int64 × gM) :=
  o1 (f_X11_isServer M a1) (fun v2 => jn (fun (q : (Int32 × gM)) => match q with | (b3, M4) => lt (gset M4 m_o 66 b3) (fun M5 => lt (M5 m_o 66) (fun v6 => (if v6 ≤ 0 then lt ((((48 : Int32) * a1) + a2)) (fun x8 => rd M5 m_has 192 x8 (fun v9 => (if v9 = 0 then some ((-2199023255552 : Int64), M5) else rd M5 m_versions 192 x8 (fun v11 => o1 (f_X11_in M5 a3 (0 : Int32) (v11 - (1 : Int32))) (fun v13 => (if v13 = 0 then some ((-2199023255552 : Int64), M5) else (if a4 = 0 then rd M5 m_versionValue 1152 (((6 : Int32) * x8) + a3) (fun v17 => some (v17.toInt64, M5)) else rd M5 m_versionSize 1152 (((6 : Int32) * x8) + a3) (fun v16 => some (v16.toInt64, M5))))))))) else some ((0 : Int64), M5))))) (fun J31 => jn (fun (M18 : gM) => J31 ((1 : Int32), M18)) (fun J30 => (if v2 = 0 then J30 M else o1 (f_X11_isObject M a2) (fun v21 => (if v21 = 0 then J30 M else o1 (f_X11_in M a4 (0 : Int32) (1 : Int32)) (fun v24 => (if v24 = 0 then J30 M else J31 ((0 : Int32), M)))))))))
set_option maxHeartbeats 4000000 in
set_option maxRecDepth 100000 in
theorem t_X11_version (l : Launch) (D : va_G) (dA : Nat → ClassId) (A : gI → Nat) (hJ : gJ mLive A) {M : gM} {a1 : Int32} {a2 : Int32} {a3 : Int32} {a4 : Int32}  {y : (Int64 × gM)} (h : f_X11_version M a1 a2 a3 a4 = some y) : mMl l yX11_version wsX11_version ({ frames := 2, cells := 0, slots := 0, locals := 43 } : Room) D dA A [.ref (A m_o), .int a1, .int a2, .int a3, .int a4] M y.1 y.2 := by
  refine Met.ofW (cc := cX11_version) (maxL := 6) (ret := (some .long)) (by decide) rfl ?_
  intro p e s m args below meth c s₁ B hml hv
  obtain ⟨rfl, hP, hK⟩ := hv
  generalize hargs : ([.ref (A m_o), .int a1, .int a2, .int a3, .int a4] : List Value).toArray = args at B ⊢
  have S : CallFix p m c cX11_version 6 s args wsX11_version RX11 := ⟨B.exec, B.bytes, hml, findClass_of_methodNamed B.named, atoms_spec (ws := wsX11_version) B.pre⟩
  obtain ⟨hx, hb, -, hown, hts⟩ := id S
  have hr := B.returns
  have hlocks := B.notSynchronized
  have X : gX D vwCl dA mLive A (gA mLive A) s := ⟨hK, hJ, fun i hi => ⟨i, hi, rfl⟩⟩
  have Z : gZ D mLay dA mLive A (gA mLive A) s.heap M s.heap [] := ⟨hP, va_S.rf⟩
  have hin : ∀ w ∈ wsX110, w ∈ wsX11_version := fun w h => List.mem_cons_of_mem _ (List.mem_append_right _ h)
  have hl_32 := hts (.fieldLink RX11 32 "ReplicaFilesModel" "has" "[Z") (by decide +kernel)
  have hl_44 := hts (.fieldLink RX11 44 "ReplicaFilesModel" "versions" "[I") (by decide +kernel)
  have hl_47 := hts (.fieldLink RX11 47 "ReplicaFilesModel" "versionValue" "[I") (by decide +kernel)
  have hl_50 := hts (.fieldLink RX11 50 "ReplicaFilesModel" "versionSize" "[I") (by decide +kernel)
  have hl_165 := hts (.fieldLink RX11 165 "ReplicaFilesModel" "thrown" "I") (by decide +kernel)
  have hc_172 := hts (.constantLong RX11 172 (-2199023255552)) (by decide +kernel)
  have hl := lv_entry ([.ref (A m_o), .int a1, .int a2, .int a3, .int a4]) (n := 6) (Nat.le_of_ble_eq_true rfl)
  rw [← hargs, lg_entry_eq, hargs]
  generalize (lg_sl ([.ref (A m_o), .int a1, .int a2, .int a3, .int a4]) ++ List.replicate (6 - (lg_sl ([.ref (A m_o), .int a1, .int a2, .int a3, .int a4])).length) Slot.unset).toArray = ls at hl ⊢
  have hl : lv_has ls 6 [(0, .ref (A m_o)), (1, .int a1), (2, .int a2), (3, .int a3), (4, .int a4)] := hl
  unfold f_X11_version at h
  refine lv_aload_n hx hb dX11_version_0 rfl (lv_at hl 0 rfl) ?_
  refine lv_aload_n hx hb dX11_version_1 rfl (lv_at hl 0 rfl) ?_
  refine lv_iload_n hx hb dX11_version_2 rfl (lv_at hl 1 rfl) ?_
  obtain ⟨v2, hc1, h⟩ := o1_e h
  refine g_Vi (As := [.int a1]) (rest := [.ref (A m_o)]) S X Z mlv_o rfl rfl (t_X11_isServer l D dA A hJ  hc1) (cwV 1 hts gX11_version_X11_isServer rfl rfl rfl (by decide +kernel) ⟨Nat.le_of_ble_eq_true rfl, Nat.le_of_ble_eq_true rfl⟩) rfl hl.1 rfl (Nat.le_of_ble_eq_true rfl) dX11_version_3 ⟨Nat.zero_le _, Nat.zero_le _⟩ (fun H locs Z => ?_)
  obtain ⟨J31, eJ31, h⟩ := jn_e h
  have hJ31 : ∀ (b3 : Int32) (M4 : gM) (H : Heap) (locs : List Loc) (ls : Array Slot), gZ D mLay dA mLive A (gA mLive A) s.heap M4 H locs → lv_has ls 6 [(0, .ref (A m_o)), (1, .int a1), (2, .int a2), (3, .int a3), (4, .int a4)] → J31 (b3, M4) = some y → W p l e (headSpec wsX11_version ({ frames := 2, cells := 0, slots := 0, locals := 43 } : Room)).room s m args below meth c H locs 0 0 (MQ below (mQl D dA A y) args s 0 0 (gA mLive A)) (F0 m 31 ls [.int b3, .ref (A m_o)]) := by
    intro b3 M4 H locs ls Z hl h
    rw [eJ31] at h
    try dsimp only at h
    refine mp_thrown S X Z hin hl_165 dX11_version_31 h (fun M5 H locs Z h => ?_)
    refine lv_aload_n hx hb dX11_version_34 rfl (lv_at hl 0 rfl) ?_
    refine mr_thrown S X Z hin hl_165 dX11_version_35 h (fun v6 h => ?_)
    refine lv_if_le (tgt := 43) hx hb dX11_version_38 (by decide) (fun c7 => ?_) (fun c7 => ?_)
    · have h := if_t c7 h
      refine lv_bipush (v := (48 : Int32)) hx hb dX11_version_43 (by decide) ?_
      refine lv_iload_n hx hb dX11_version_45 rfl (lv_at hl 1 rfl) ?_
      refine lv_imul hx hb dX11_version_46 ?_
      refine lv_iload_n hx hb dX11_version_47 rfl (lv_at hl 2 rfl) ?_
      refine lv_iadd hx hb dX11_version_48 ?_
      refine g_topi h (fun x8 h => ?_)
      refine lv_istore (lv' := [(5, .int x8), (0, .ref (A m_o)), (1, .int a1), (2, .int a2), (3, .int a3), (4, .int a4)]) hx hb dX11_version_49 hl (by decide) rfl (fun ls hl => ?_)
      refine lv_aload_n hx hb dX11_version_51 rfl (lv_at hl 1 rfl) ?_
      refine mr_has S X Z hin hl_32 dX11_version_52 ?_
      refine lv_iload hx hb dX11_version_55 (lv_at hl 0 rfl) ?_
      refine g_zald S X Z ml_has rfl dX11_version_57 h (fun v9 h => ?_)
      refine lv_if_eq (tgt := 78) hx hb dX11_version_58 (by decide) (fun c10 => ?_) (fun c10 => ?_)
      · have h := if_t c10 h
        refine lv_ldc2 hx hb hown hc_172 dX11_version_78 ?_
        have hy := Option.some.inj h
        subst hy
        exact g_rl S Z hr hlocks dX11_version_81
      · have h := if_f c10 h
        refine lv_iload_n hx hb dX11_version_61 rfl (lv_at hl 4 rfl) ?_
        refine lv_iconst (v := (0 : Int32)) hx hb dX11_version_62 (by decide) ?_
        refine lv_aload_n hx hb dX11_version_63 rfl (lv_at hl 1 rfl) ?_
        refine mr_versions S X Z hin hl_44 dX11_version_64 ?_
        refine lv_iload hx hb dX11_version_67 (lv_at hl 0 rfl) ?_
        refine g_iald S X Z ml_versions rfl dX11_version_69 h (fun v11 h => ?_)
        refine lv_iconst (v := (1 : Int32)) hx hb dX11_version_70 (by decide) ?_
        refine lv_isub hx hb dX11_version_71 ?_
        obtain ⟨v13, hc12, h⟩ := o1_e h
        refine g_Si (As := [.int a3, .int (0 : Int32), .int (v11 - (1 : Int32))]) (rest := []) S X Z (t_X11_in l D dA A hJ  hc12) (va_cwS 3 hts gX11_version_X11_in rfl rfl rfl (by decide +kernel) ⟨Nat.le_of_ble_eq_true rfl, Nat.le_of_ble_eq_true rfl⟩) rfl hl.1 rfl (Nat.le_of_ble_eq_true rfl) dX11_version_72 ⟨Nat.zero_le _, Nat.zero_le _⟩ (fun H locs Z => ?_)
        refine lv_if_ne (tgt := 82) hx hb dX11_version_75 (by decide) (fun c14 => ?_) (fun c14 => ?_)
        · have h := if_f c14 h
          refine lv_iload hx hb dX11_version_82 (lv_at hl 5 rfl) ?_
          refine lv_if_ne (tgt := 103) hx hb dX11_version_84 (by decide) (fun c15 => ?_) (fun c15 => ?_)
          · have h := if_f c15 h
            refine lv_aload_n hx hb dX11_version_103 rfl (lv_at hl 1 rfl) ?_
            refine mr_versionSize S X Z hin hl_50 dX11_version_104 ?_
            refine lv_bipush (v := (6 : Int32)) hx hb dX11_version_107 (by decide) ?_
            refine lv_iload hx hb dX11_version_109 (lv_at hl 0 rfl) ?_
            refine lv_imul hx hb dX11_version_111 ?_
            refine lv_iload_n hx hb dX11_version_112 rfl (lv_at hl 4 rfl) ?_
            refine lv_iadd hx hb dX11_version_113 ?_
            refine g_iald S X Z ml_versionSize rfl dX11_version_114 h (fun v16 h => ?_)
            refine lv_i2l hx hb dX11_version_115 rfl ?_
            have hy := Option.some.inj h
            subst hy
            exact g_rl S Z hr hlocks dX11_version_116
          · have h := if_t c15 h
            refine lv_aload_n hx hb dX11_version_87 rfl (lv_at hl 1 rfl) ?_
            refine mr_versionValue S X Z hin hl_47 dX11_version_88 ?_
            refine lv_bipush (v := (6 : Int32)) hx hb dX11_version_91 (by decide) ?_
            refine lv_iload hx hb dX11_version_93 (lv_at hl 0 rfl) ?_
            refine lv_imul hx hb dX11_version_95 ?_
            refine lv_iload_n hx hb dX11_version_96 rfl (lv_at hl 4 rfl) ?_
            refine lv_iadd hx hb dX11_version_97 ?_
            refine g_iald S X Z ml_versionValue rfl dX11_version_98 h (fun v17 h => ?_)
            refine lv_i2l hx hb dX11_version_99 rfl ?_
            refine lv_goto (tgt := 116) hx hb dX11_version_100 (by decide) ?_
            have hy := Option.some.inj h
            subst hy
            exact g_rl S Z hr hlocks dX11_version_116
        · have h := if_t c14 h
          refine lv_ldc2 hx hb hown hc_172 dX11_version_78 ?_
          have hy := Option.some.inj h
          subst hy
          exact g_rl S Z hr hlocks dX11_version_81
    · have h := if_f c7 h
      refine lv_lconst (v := (0 : Int64)) hx hb dX11_version_41 (by decide) ?_
      have hy := Option.some.inj h
      subst hy
      exact g_rl S Z hr hlocks dX11_version_42
  obtain ⟨J30, eJ30, h⟩ := jn_e h
  have hJ30 : ∀ (M18 : gM) (H : Heap) (locs : List Loc) (ls : Array Slot), gZ D mLay dA mLive A (gA mLive A) s.heap M18 H locs → lv_has ls 6 [(0, .ref (A m_o)), (1, .int a1), (2, .int a2), (3, .int a3), (4, .int a4)] → J30 M18 = some y → W p l e (headSpec wsX11_version ({ frames := 2, cells := 0, slots := 0, locals := 43 } : Room)).room s m args below meth c H locs 0 0 (MQ below (mQl D dA A y) args s 0 0 (gA mLive A)) (F0 m 30 ls [.ref (A m_o)]) := by
    intro M18 H locs ls Z hl h
    rw [eJ30] at h
    try dsimp only at h
    refine lv_iconst (v := (1 : Int32)) hx hb dX11_version_30 (by decide) ?_
    exact hJ31 (1 : Int32) M18 _ _ _ Z (lv_sub hl [0, 1, 2, 3, 4] rfl) h
  refine lv_if_eq (tgt := 30) hx hb dX11_version_6 (by decide) (fun c19 => ?_) (fun c19 => ?_)
  · have h := if_t c19 h
    exact hJ30 M _ _ _ Z (lv_sub hl [0, 1, 2, 3, 4] rfl) h
  · have h := if_f c19 h
    refine lv_iload_n hx hb dX11_version_9 rfl (lv_at hl 2 rfl) ?_
    obtain ⟨v21, hc20, h⟩ := o1_e h
    refine g_Si (As := [.int a2]) (rest := [.ref (A m_o)]) S X Z (t_X11_isObject l D dA A hJ  hc20) (va_cwS 1 hts gX11_version_X11_isObject rfl rfl rfl (by decide +kernel) ⟨Nat.le_of_ble_eq_true rfl, Nat.le_of_ble_eq_true rfl⟩) rfl hl.1 rfl (Nat.le_of_ble_eq_true rfl) dX11_version_10 ⟨Nat.zero_le _, Nat.zero_le _⟩ (fun H locs Z => ?_)
    refine lv_if_eq (tgt := 30) hx hb dX11_version_13 (by decide) (fun c22 => ?_) (fun c22 => ?_)
    · have h := if_t c22 h
      exact hJ30 M _ _ _ Z (lv_sub hl [0, 1, 2, 3, 4] rfl) h
    · have h := if_f c22 h
      refine lv_iload hx hb dX11_version_16 (lv_at hl 4 rfl) ?_
      refine lv_iconst (v := (0 : Int32)) hx hb dX11_version_18 (by decide) ?_
      refine lv_iconst (v := (1 : Int32)) hx hb dX11_version_19 (by decide) ?_
      obtain ⟨v24, hc23, h⟩ := o1_e h
      refine g_Si (As := [.int a4, .int (0 : Int32), .int (1 : Int32)]) (rest := [.ref (A m_o)]) S X Z (t_X11_in l D dA A hJ  hc23) (va_cwS 3 hts gX11_version_X11_in rfl rfl rfl (by decide +kernel) ⟨Nat.le_of_ble_eq_true rfl, Nat.le_of_ble_eq_true rfl⟩) rfl hl.1 rfl (Nat.le_of_ble_eq_true rfl) dX11_version_20 ⟨Nat.zero_le _, Nat.zero_le _⟩ (fun H locs Z => ?_)
      refine lv_if_eq (tgt := 30) hx hb dX11_version_23 (by decide) (fun c25 => ?_) (fun c25 => ?_)
      · have h := if_t c25 h
        exact hJ30 M _ _ _ Z (lv_sub hl [0, 1, 2, 3, 4] rfl) h
      · have h := if_f c25 h
        refine lv_iconst (v := (0 : Int32)) hx hb dX11_version_26 (by decide) ?_
        refine lv_goto (tgt := 31) hx hb dX11_version_27 (by decide) ?_
        exact hJ31 (0 : Int32) M _ _ _ Z (lv_sub hl [0, 1, 2, 3, 4] rfl) h
-- X11_entry (IIII)J: 92 instructions
set_option maxRecDepth 20000 in
theorem ggX11_entry_X11_isServer : GoodIn wsX11_entry wsX11_isServer := goodIn_r _ [11, 12, 13, 14, 10, 15, 24, 25, 26, 27, 28, 29, 30, 31, 32, 33, 34, 35, 36, 37, 38, 39, 40, 41, 42, 43, 44, 45, 46, 47, 48, 49, 50, 51, 52, 53, 54, 55, 56, 57, 58, 59, 60, 61, 62, 63, 64, 65, 66, 67, 68, 69, 70, 71, 72, 73, 74, 75, 76, 77, 78, 79, 80, 81, 82, 83, 84, 85, 86, 87, 88, 89, 90] (by decide +kernel) (by decide +kernel)
set_option maxRecDepth 20000 in
theorem gX11_entry_X11_isServer : GoodIn wsX11_entry (wsV RX11 184 RX11 yX11_isServer wsX11_isServer) := goodIn_app (goodIn_of _ (by decide +kernel)) ggX11_entry_X11_isServer
set_option maxRecDepth 20000 in
theorem ggX11_entry_X11_isObject : GoodIn wsX11_entry wsX11_isObject := goodIn_r _ [18, 13, 14, 10, 15] (by decide +kernel) (by decide +kernel)
set_option maxRecDepth 20000 in
theorem gX11_entry_X11_isObject : GoodIn wsX11_entry (va_wsS RX11 194 yX11_isObject wsX11_isObject) := goodIn_app (goodIn_of _ (by decide +kernel)) ggX11_entry_X11_isObject
set_option maxRecDepth 20000 in
theorem ggX11_entry_X11_in : GoodIn wsX11_entry wsX11_in := goodIn_r _ [15] (by decide +kernel) (by decide +kernel)
set_option maxRecDepth 20000 in
theorem gX11_entry_X11_in : GoodIn wsX11_entry (va_wsS RX11 168 yX11_in wsX11_in) := goodIn_app (goodIn_of _ (by decide +kernel)) ggX11_entry_X11_in
set_option maxRecDepth 20000 in
theorem ggX11_entry_X11_isChild : GoodIn wsX11_entry wsX11_isChild := goodIn_r _ [22, 4, 23, 24, 25, 26, 27, 28, 29, 30, 31, 32, 33, 34, 35, 36, 37, 38, 39, 40, 41, 42, 43, 44, 45, 46, 47, 48, 49, 50, 51, 52, 53, 54, 55, 56, 57, 58, 59, 60, 61, 62, 63, 64, 65, 66, 67, 68, 69, 70, 71, 72, 73, 74, 75, 76, 77, 78, 79, 80, 81, 82, 83, 84, 85, 86, 87, 88, 89, 90] (by decide +kernel) (by decide +kernel)
set_option maxRecDepth 20000 in
theorem gX11_entry_X11_isChild : GoodIn wsX11_entry (wsV RX11 197 RX11 yX11_isChild wsX11_isChild) := goodIn_app (goodIn_of _ (by decide +kernel)) ggX11_entry_X11_isChild
theorem dX11_entry_0 : decode cX11_entry 0 = .ok (.aload_n 0, 1) := by decide +kernel
theorem dX11_entry_1 : decode cX11_entry 1 = .ok (.aload_n 0, 1) := by decide +kernel
theorem dX11_entry_2 : decode cX11_entry 2 = .ok (.iload_n 1, 1) := by decide +kernel
theorem dX11_entry_3 : decode cX11_entry 3 = .ok (.invokevirtual 184, 3) := by decide +kernel
theorem dX11_entry_6 : decode cX11_entry 6 = .ok (.ifCond .eq 24, 3) := by decide +kernel
theorem dX11_entry_9 : decode cX11_entry 9 = .ok (.iload_n 2, 1) := by decide +kernel
theorem dX11_entry_10 : decode cX11_entry 10 = .ok (.invokestatic 194, 3) := by decide +kernel
theorem dX11_entry_13 : decode cX11_entry 13 = .ok (.ifCond .eq 17, 3) := by decide +kernel
theorem dX11_entry_16 : decode cX11_entry 16 = .ok (.iload 4, 2) := by decide +kernel
theorem dX11_entry_18 : decode cX11_entry 18 = .ok (.iconst 0, 1) := by decide +kernel
theorem dX11_entry_19 : decode cX11_entry 19 = .ok (.iconst 2, 1) := by decide +kernel
theorem dX11_entry_20 : decode cX11_entry 20 = .ok (.invokestatic 168, 3) := by decide +kernel
theorem dX11_entry_23 : decode cX11_entry 23 = .ok (.ifCond .eq 7, 3) := by decide +kernel
theorem dX11_entry_26 : decode cX11_entry 26 = .ok (.iconst 0, 1) := by decide +kernel
theorem dX11_entry_27 : decode cX11_entry 27 = .ok (.goto 4, 3) := by decide +kernel
theorem dX11_entry_30 : decode cX11_entry 30 = .ok (.iconst 1, 1) := by decide +kernel
theorem dX11_entry_31 : decode cX11_entry 31 = .ok (.putfield 165, 3) := by decide +kernel
theorem dX11_entry_34 : decode cX11_entry 34 = .ok (.aload_n 0, 1) := by decide +kernel
theorem dX11_entry_35 : decode cX11_entry 35 = .ok (.getfield 165, 3) := by decide +kernel
theorem dX11_entry_38 : decode cX11_entry 38 = .ok (.ifCond .le 5, 3) := by decide +kernel
theorem dX11_entry_41 : decode cX11_entry 41 = .ok (.lconst 0, 1) := by decide +kernel
theorem dX11_entry_42 : decode cX11_entry 42 = .ok (.lreturn, 1) := by decide +kernel
theorem dX11_entry_43 : decode cX11_entry 43 = .ok (.aload_n 0, 1) := by decide +kernel
theorem dX11_entry_44 : decode cX11_entry 44 = .ok (.getfield 32, 3) := by decide +kernel
theorem dX11_entry_47 : decode cX11_entry 47 = .ok (.bipush 48, 2) := by decide +kernel
theorem dX11_entry_49 : decode cX11_entry 49 = .ok (.iload_n 1, 1) := by decide +kernel
theorem dX11_entry_50 : decode cX11_entry 50 = .ok (.imul, 1) := by decide +kernel
theorem dX11_entry_51 : decode cX11_entry 51 = .ok (.iload_n 2, 1) := by decide +kernel
theorem dX11_entry_52 : decode cX11_entry 52 = .ok (.iadd, 1) := by decide +kernel
theorem dX11_entry_53 : decode cX11_entry 53 = .ok (.baload, 1) := by decide +kernel
theorem dX11_entry_54 : decode cX11_entry 54 = .ok (.ifCond .ne 7, 3) := by decide +kernel
theorem dX11_entry_57 : decode cX11_entry 57 = .ok (.ldc2_w 172, 3) := by decide +kernel
theorem dX11_entry_60 : decode cX11_entry 60 = .ok (.lreturn, 1) := by decide +kernel
theorem dX11_entry_61 : decode cX11_entry 61 = .ok (.iload_n 3, 1) := by decide +kernel
theorem dX11_entry_62 : decode cX11_entry 62 = .ok (.istore 5, 2) := by decide +kernel
theorem dX11_entry_64 : decode cX11_entry 64 = .ok (.iconst 1, 1) := by decide +kernel
theorem dX11_entry_65 : decode cX11_entry 65 = .ok (.istore 6, 2) := by decide +kernel
theorem dX11_entry_67 : decode cX11_entry 67 = .ok (.iload 6, 2) := by decide +kernel
theorem dX11_entry_69 : decode cX11_entry 69 = .ok (.aload_n 0, 1) := by decide +kernel
theorem dX11_entry_70 : decode cX11_entry 70 = .ok (.getfield 162, 3) := by decide +kernel
theorem dX11_entry_73 : decode cX11_entry 73 = .ok (.if_icmp .ge 96, 3) := by decide +kernel
theorem dX11_entry_76 : decode cX11_entry 76 = .ok (.iload_n 3, 1) := by decide +kernel
theorem dX11_entry_77 : decode cX11_entry 77 = .ok (.ifCond .lt 92, 3) := by decide +kernel
theorem dX11_entry_80 : decode cX11_entry 80 = .ok (.aload_n 0, 1) := by decide +kernel
theorem dX11_entry_81 : decode cX11_entry 81 = .ok (.iload 6, 2) := by decide +kernel
theorem dX11_entry_83 : decode cX11_entry 83 = .ok (.iload_n 2, 1) := by decide +kernel
theorem dX11_entry_84 : decode cX11_entry 84 = .ok (.invokevirtual 197, 3) := by decide +kernel
theorem dX11_entry_87 : decode cX11_entry 87 = .ok (.ifCond .eq 76, 3) := by decide +kernel
theorem dX11_entry_90 : decode cX11_entry 90 = .ok (.aload_n 0, 1) := by decide +kernel
theorem dX11_entry_91 : decode cX11_entry 91 = .ok (.getfield 56, 3) := by decide +kernel
theorem dX11_entry_94 : decode cX11_entry 94 = .ok (.bipush 48, 2) := by decide +kernel
theorem dX11_entry_96 : decode cX11_entry 96 = .ok (.iload_n 1, 1) := by decide +kernel
theorem dX11_entry_97 : decode cX11_entry 97 = .ok (.imul, 1) := by decide +kernel
theorem dX11_entry_98 : decode cX11_entry 98 = .ok (.iload 6, 2) := by decide +kernel
theorem dX11_entry_100 : decode cX11_entry 100 = .ok (.iadd, 1) := by decide +kernel
theorem dX11_entry_101 : decode cX11_entry 101 = .ok (.iaload, 1) := by decide +kernel
theorem dX11_entry_102 : decode cX11_entry 102 = .ok (.ifCond .le 61, 3) := by decide +kernel
theorem dX11_entry_105 : decode cX11_entry 105 = .ok (.iload 5, 2) := by decide +kernel
theorem dX11_entry_107 : decode cX11_entry 107 = .ok (.ifCond .ne 53, 3) := by decide +kernel
theorem dX11_entry_110 : decode cX11_entry 110 = .ok (.iload 4, 2) := by decide +kernel
theorem dX11_entry_112 : decode cX11_entry 112 = .ok (.ifCond .ne 9, 3) := by decide +kernel
theorem dX11_entry_115 : decode cX11_entry 115 = .ok (.iload 6, 2) := by decide +kernel
theorem dX11_entry_117 : decode cX11_entry 117 = .ok (.i2l, 1) := by decide +kernel
theorem dX11_entry_118 : decode cX11_entry 118 = .ok (.goto 41, 3) := by decide +kernel
theorem dX11_entry_121 : decode cX11_entry 121 = .ok (.iload 4, 2) := by decide +kernel
theorem dX11_entry_123 : decode cX11_entry 123 = .ok (.iconst 1, 1) := by decide +kernel
theorem dX11_entry_124 : decode cX11_entry 124 = .ok (.if_icmp .ne 14, 3) := by decide +kernel
theorem dX11_entry_127 : decode cX11_entry 127 = .ok (.aload_n 0, 1) := by decide +kernel
theorem dX11_entry_128 : decode cX11_entry 128 = .ok (.getfield 26, 3) := by decide +kernel
theorem dX11_entry_131 : decode cX11_entry 131 = .ok (.iload 6, 2) := by decide +kernel
theorem dX11_entry_133 : decode cX11_entry 133 = .ok (.iaload, 1) := by decide +kernel
theorem dX11_entry_134 : decode cX11_entry 134 = .ok (.i2l, 1) := by decide +kernel
theorem dX11_entry_135 : decode cX11_entry 135 = .ok (.goto 24, 3) := by decide +kernel
theorem dX11_entry_138 : decode cX11_entry 138 = .ok (.aload_n 0, 1) := by decide +kernel
theorem dX11_entry_139 : decode cX11_entry 139 = .ok (.getfield 56, 3) := by decide +kernel
theorem dX11_entry_142 : decode cX11_entry 142 = .ok (.bipush 48, 2) := by decide +kernel
theorem dX11_entry_144 : decode cX11_entry 144 = .ok (.iload_n 1, 1) := by decide +kernel
theorem dX11_entry_145 : decode cX11_entry 145 = .ok (.imul, 1) := by decide +kernel
theorem dX11_entry_146 : decode cX11_entry 146 = .ok (.iload 6, 2) := by decide +kernel
theorem dX11_entry_148 : decode cX11_entry 148 = .ok (.iadd, 1) := by decide +kernel
theorem dX11_entry_149 : decode cX11_entry 149 = .ok (.iaload, 1) := by decide +kernel
theorem dX11_entry_150 : decode cX11_entry 150 = .ok (.iconst 2, 1) := by decide +kernel
theorem dX11_entry_151 : decode cX11_entry 151 = .ok (.if_icmp .ne 7, 3) := by decide +kernel
theorem dX11_entry_154 : decode cX11_entry 154 = .ok (.lconst 1, 1) := by decide +kernel
theorem dX11_entry_155 : decode cX11_entry 155 = .ok (.goto 4, 3) := by decide +kernel
theorem dX11_entry_158 : decode cX11_entry 158 = .ok (.lconst 0, 1) := by decide +kernel
theorem dX11_entry_159 : decode cX11_entry 159 = .ok (.lreturn, 1) := by decide +kernel
theorem dX11_entry_160 : decode cX11_entry 160 = .ok (.iinc 5 (-1), 3) := by decide +kernel
theorem dX11_entry_163 : decode cX11_entry 163 = .ok (.iinc 6 1, 3) := by decide +kernel
theorem dX11_entry_166 : decode cX11_entry 166 = .ok (.goto (-99), 3) := by decide +kernel
theorem dX11_entry_169 : decode cX11_entry 169 = .ok (.ldc2_w 172, 3) := by decide +kernel
theorem dX11_entry_172 : decode cX11_entry 172 = .ok (.lreturn, 1) := by decide +kernel
def f_X11_entry_L67 (a1 : Int32) (a2 : Int32) (a3 : Int32) (a4 : Int32) (J110 : (Int32 × gM) → Option (Int64 × gM)) : Nat → Int32 → Int32 → gM → Option (Int64 × gM)
  | 0, _, _, _ => none
  | n20 + 1, x17, x18, M19 => lt (M19 m_o 6) (fun v21 => (if v21 ≤ x18 then some ((-2199023255552 : Int64), M19) else (if a3 < 0 then some ((-2199023255552 : Int64), M19) else o1 (f_X11_isChild M19 x18 a2) (fun v25 => jn (fun (q : (Int32 × gM)) => match q with | (b26, M27) => lt (x18 + 1) (fun x28 => f_X11_entry_L67 a1 a2 a3 a4 J110 n20 b26 x28 M27)) (fun J163 => (if v25 = 0 then J163 (x17, M19) else rd M19 m_entry 192 (((48 : Int32) * a1) + x18) (fun v30 => (if v30 ≤ 0 then J163 (x17, M19) else (if x17 = 0 then J110 (x18, M19) else lt (x17 + (-1)) (fun x33 => J163 (x33, M19)))))))))))
def f_X11_entry (M : gM) (a1 : Int32) (a2 : Int32) (a3 : Int32) (a4 : Int32) : Option (Int64 × gM) :=
  o1 (f_X11_isServer M a1) (fun v2 => jn (fun (q : (Int32 × gM)) => match q with | (b3, M4) => lt (gset M4 m_o 66 b3) (fun M5 => lt (M5 m_o 66) (fun v6 => (if v6 ≤ 0 then rd M5 m_has 192 (((48 : Int32) * a1) + a2) (fun v8 => (if v8 = 0 then some ((-2199023255552 : Int64), M5) else jn (fun (q : (Int32 × gM)) => match q with | (b10, M11) => (if a4 = 0 then some (b10.toInt64, M11) else (if a4 = (1 : Int32) then rd M11 m_name 48 b10 (fun v16 => some (v16.toInt64, M11)) else rd M11 m_entry 192 (((48 : Int32) * a1) + b10) (fun v14 => (if v14 = (2 : Int32) then some ((1 : Int64), M11) else some ((0 : Int64), M11)))))) (fun J110 => f_X11_entry_L67 a1 a2 a3 a4 J110 100 a3 (1 : Int32) M5))) else some ((0 : Int64), M5))))) (fun J31 => jn (fun (M34 : gM) => J31 ((1 : Int32), M34)) (fun J30 => (if v2 = 0 then J30 M else o1 (f_X11_isObject M a2) (fun v37 => (if v37 = 0 then J30 M else o1 (f_X11_in M a4 (0 : Int32) (2 : Int32)) (fun v40 => (if v40 = 0 then J30 M else J31 ((0 : Int32), M)))))))))
set_option maxHeartbeats 4000000 in
set_option maxRecDepth 100000 in
theorem t_X11_entry (l : Launch) (D : va_G) (dA : Nat → ClassId) (A : gI → Nat) (hJ : gJ mLive A) {M : gM} {a1 : Int32} {a2 : Int32} {a3 : Int32} {a4 : Int32}  {y : (Int64 × gM)} (h : f_X11_entry M a1 a2 a3 a4 = some y) : mMl l yX11_entry wsX11_entry ({ frames := 2, cells := 0, slots := 0, locals := 43 } : Room) D dA A [.ref (A m_o), .int a1, .int a2, .int a3, .int a4] M y.1 y.2 := by
  refine Met.ofW (cc := cX11_entry) (maxL := 7) (ret := (some .long)) (by decide) rfl ?_
  intro p e s m args below meth c s₁ B hml hv
  obtain ⟨rfl, hP, hK⟩ := hv
  generalize hargs : ([.ref (A m_o), .int a1, .int a2, .int a3, .int a4] : List Value).toArray = args at B ⊢
  have S : CallFix p m c cX11_entry 7 s args wsX11_entry RX11 := ⟨B.exec, B.bytes, hml, findClass_of_methodNamed B.named, atoms_spec (ws := wsX11_entry) B.pre⟩
  obtain ⟨hx, hb, -, hown, hts⟩ := id S
  have hr := B.returns
  have hlocks := B.notSynchronized
  have X : gX D vwCl dA mLive A (gA mLive A) s := ⟨hK, hJ, fun i hi => ⟨i, hi, rfl⟩⟩
  have Z : gZ D mLay dA mLive A (gA mLive A) s.heap M s.heap [] := ⟨hP, va_S.rf⟩
  have hin : ∀ w ∈ wsX110, w ∈ wsX11_entry := fun w h => List.mem_cons_of_mem _ (List.mem_append_right _ h)
  have hl_26 := hts (.fieldLink RX11 26 "ReplicaFilesModel" "name" "[I") (by decide +kernel)
  have hl_32 := hts (.fieldLink RX11 32 "ReplicaFilesModel" "has" "[Z") (by decide +kernel)
  have hl_56 := hts (.fieldLink RX11 56 "ReplicaFilesModel" "entry" "[I") (by decide +kernel)
  have hl_162 := hts (.fieldLink RX11 162 "ReplicaFilesModel" "made" "I") (by decide +kernel)
  have hl_165 := hts (.fieldLink RX11 165 "ReplicaFilesModel" "thrown" "I") (by decide +kernel)
  have hc_172 := hts (.constantLong RX11 172 (-2199023255552)) (by decide +kernel)
  have hl := lv_entry ([.ref (A m_o), .int a1, .int a2, .int a3, .int a4]) (n := 7) (Nat.le_of_ble_eq_true rfl)
  rw [← hargs, lg_entry_eq, hargs]
  generalize (lg_sl ([.ref (A m_o), .int a1, .int a2, .int a3, .int a4]) ++ List.replicate (7 - (lg_sl ([.ref (A m_o), .int a1, .int a2, .int a3, .int a4])).length) Slot.unset).toArray = ls at hl ⊢
  have hl : lv_has ls 7 [(0, .ref (A m_o)), (1, .int a1), (2, .int a2), (3, .int a3), (4, .int a4)] := hl
  unfold f_X11_entry at h
  refine lv_aload_n hx hb dX11_entry_0 rfl (lv_at hl 0 rfl) ?_
  refine lv_aload_n hx hb dX11_entry_1 rfl (lv_at hl 0 rfl) ?_
  refine lv_iload_n hx hb dX11_entry_2 rfl (lv_at hl 1 rfl) ?_
  obtain ⟨v2, hc1, h⟩ := o1_e h
  refine g_Vi (As := [.int a1]) (rest := [.ref (A m_o)]) S X Z mlv_o rfl rfl (t_X11_isServer l D dA A hJ  hc1) (cwV 1 hts gX11_entry_X11_isServer rfl rfl rfl (by decide +kernel) ⟨Nat.le_of_ble_eq_true rfl, Nat.le_of_ble_eq_true rfl⟩) rfl hl.1 rfl (Nat.le_of_ble_eq_true rfl) dX11_entry_3 ⟨Nat.zero_le _, Nat.zero_le _⟩ (fun H locs Z => ?_)
  obtain ⟨J31, eJ31, h⟩ := jn_e h
  have hJ31 : ∀ (b3 : Int32) (M4 : gM) (H : Heap) (locs : List Loc) (ls : Array Slot), gZ D mLay dA mLive A (gA mLive A) s.heap M4 H locs → lv_has ls 7 [(0, .ref (A m_o)), (1, .int a1), (2, .int a2), (3, .int a3), (4, .int a4)] → J31 (b3, M4) = some y → W p l e (headSpec wsX11_entry ({ frames := 2, cells := 0, slots := 0, locals := 43 } : Room)).room s m args below meth c H locs 0 0 (MQ below (mQl D dA A y) args s 0 0 (gA mLive A)) (F0 m 31 ls [.int b3, .ref (A m_o)]) := by
    intro b3 M4 H locs ls Z hl h
    rw [eJ31] at h
    try dsimp only at h
    refine mp_thrown S X Z hin hl_165 dX11_entry_31 h (fun M5 H locs Z h => ?_)
    refine lv_aload_n hx hb dX11_entry_34 rfl (lv_at hl 0 rfl) ?_
    refine mr_thrown S X Z hin hl_165 dX11_entry_35 h (fun v6 h => ?_)
    refine lv_if_le (tgt := 43) hx hb dX11_entry_38 (by decide) (fun c7 => ?_) (fun c7 => ?_)
    · have h := if_t c7 h
      refine lv_aload_n hx hb dX11_entry_43 rfl (lv_at hl 0 rfl) ?_
      refine mr_has S X Z hin hl_32 dX11_entry_44 ?_
      refine lv_bipush (v := (48 : Int32)) hx hb dX11_entry_47 (by decide) ?_
      refine lv_iload_n hx hb dX11_entry_49 rfl (lv_at hl 1 rfl) ?_
      refine lv_imul hx hb dX11_entry_50 ?_
      refine lv_iload_n hx hb dX11_entry_51 rfl (lv_at hl 2 rfl) ?_
      refine lv_iadd hx hb dX11_entry_52 ?_
      refine g_zald S X Z ml_has rfl dX11_entry_53 h (fun v8 h => ?_)
      refine lv_if_ne (tgt := 61) hx hb dX11_entry_54 (by decide) (fun c9 => ?_) (fun c9 => ?_)
      · have h := if_f c9 h
        refine lv_iload_n hx hb dX11_entry_61 rfl (lv_at hl 3 rfl) ?_
        refine lv_istore (lv' := [(5, .int a3), (0, .ref (A m_o)), (1, .int a1), (2, .int a2), (3, .int a3), (4, .int a4)]) hx hb dX11_entry_62 hl (by decide) rfl (fun ls hl => ?_)
        refine lv_iconst (v := (1 : Int32)) hx hb dX11_entry_64 (by decide) ?_
        refine lv_istore (lv' := [(6, .int (1 : Int32)), (5, .int a3), (0, .ref (A m_o)), (1, .int a1), (2, .int a2), (3, .int a3), (4, .int a4)]) hx hb dX11_entry_65 hl (by decide) rfl (fun ls hl => ?_)
        obtain ⟨J110, eJ110, h⟩ := jn_e h
        have hJ110 : ∀ (b10 : Int32) (M11 : gM) (H : Heap) (locs : List Loc) (ls : Array Slot), gZ D mLay dA mLive A (gA mLive A) s.heap M11 H locs → lv_has ls 7 [(0, .ref (A m_o)), (1, .int a1), (4, .int a4), (6, .int b10)] → J110 (b10, M11) = some y → W p l e (headSpec wsX11_entry ({ frames := 2, cells := 0, slots := 0, locals := 43 } : Room)).room s m args below meth c H locs 0 0 (MQ below (mQl D dA A y) args s 0 0 (gA mLive A)) (F0 m 110 ls []) := by
          intro b10 M11 H locs ls Z hl h
          rw [eJ110] at h
          try dsimp only at h
          refine lv_iload hx hb dX11_entry_110 (lv_at hl 2 rfl) ?_
          refine lv_if_ne (tgt := 121) hx hb dX11_entry_112 (by decide) (fun c12 => ?_) (fun c12 => ?_)
          · have h := if_f c12 h
            refine lv_iload hx hb dX11_entry_121 (lv_at hl 2 rfl) ?_
            refine lv_iconst (v := (1 : Int32)) hx hb dX11_entry_123 (by decide) ?_
            refine lv_icmp_ne (tgt := 138) hx hb dX11_entry_124 (by decide) (fun c13 => ?_) (fun c13 => ?_)
            · have h := if_f c13 h
              refine lv_aload_n hx hb dX11_entry_138 rfl (lv_at hl 0 rfl) ?_
              refine mr_entry S X Z hin hl_56 dX11_entry_139 ?_
              refine lv_bipush (v := (48 : Int32)) hx hb dX11_entry_142 (by decide) ?_
              refine lv_iload_n hx hb dX11_entry_144 rfl (lv_at hl 1 rfl) ?_
              refine lv_imul hx hb dX11_entry_145 ?_
              refine lv_iload hx hb dX11_entry_146 (lv_at hl 3 rfl) ?_
              refine lv_iadd hx hb dX11_entry_148 ?_
              refine g_iald S X Z ml_entry rfl dX11_entry_149 h (fun v14 h => ?_)
              refine lv_iconst (v := (2 : Int32)) hx hb dX11_entry_150 (by decide) ?_
              refine lv_icmp_ne (tgt := 158) hx hb dX11_entry_151 (by decide) (fun c15 => ?_) (fun c15 => ?_)
              · have h := if_f c15 h
                refine lv_lconst (v := (0 : Int64)) hx hb dX11_entry_158 (by decide) ?_
                have hy := Option.some.inj h
                subst hy
                exact g_rl S Z hr hlocks dX11_entry_159
              · have h := if_t c15 h
                refine lv_lconst (v := (1 : Int64)) hx hb dX11_entry_154 (by decide) ?_
                refine lv_goto (tgt := 159) hx hb dX11_entry_155 (by decide) ?_
                have hy := Option.some.inj h
                subst hy
                exact g_rl S Z hr hlocks dX11_entry_159
            · have h := if_t c13 h
              refine lv_aload_n hx hb dX11_entry_127 rfl (lv_at hl 0 rfl) ?_
              refine mr_name S X Z hin hl_26 dX11_entry_128 ?_
              refine lv_iload hx hb dX11_entry_131 (lv_at hl 3 rfl) ?_
              refine g_iald S X Z ml_name rfl dX11_entry_133 h (fun v16 h => ?_)
              refine lv_i2l hx hb dX11_entry_134 rfl ?_
              refine lv_goto (tgt := 159) hx hb dX11_entry_135 (by decide) ?_
              have hy := Option.some.inj h
              subst hy
              exact g_rl S Z hr hlocks dX11_entry_159
          · have h := if_t c12 h
            refine lv_iload hx hb dX11_entry_115 (lv_at hl 3 rfl) ?_
            refine lv_i2l hx hb dX11_entry_117 rfl ?_
            refine lv_goto (tgt := 159) hx hb dX11_entry_118 (by decide) ?_
            have hy := Option.some.inj h
            subst hy
            exact g_rl S Z hr hlocks dX11_entry_159
        have hL67 : ∀ (n : Nat) (x17 : Int32) (x18 : Int32) (M19 : gM) (H : Heap) (locs : List Loc) (ls : Array Slot), gZ D mLay dA mLive A (gA mLive A) s.heap M19 H locs → lv_has ls 7 [(0, .ref (A m_o)), (1, .int a1), (2, .int a2), (3, .int a3), (4, .int a4), (5, .int x17), (6, .int x18)] → f_X11_entry_L67 a1 a2 a3 a4 J110 n x17 x18 M19 = some y → W p l e (headSpec wsX11_entry ({ frames := 2, cells := 0, slots := 0, locals := 43 } : Room)).room s m args below meth c H locs 0 0 (MQ below (mQl D dA A y) args s 0 0 (gA mLive A)) (F0 m 67 ls []) := by
          intro n
          induction n with
          | zero =>
            intro x17 x18 M19 H locs ls Z hl h
            rw [f_X11_entry_L67] at h
            cases h
          | succ n20 ih67 =>
            intro x17 x18 M19 H locs ls Z hl h
            rw [f_X11_entry_L67] at h
            refine lv_iload hx hb dX11_entry_67 (lv_at hl 6 rfl) ?_
            refine lv_aload_n hx hb dX11_entry_69 rfl (lv_at hl 0 rfl) ?_
            refine mr_made S X Z hin hl_162 dX11_entry_70 h (fun v21 h => ?_)
            refine lv_icmp_ge (tgt := 169) hx hb dX11_entry_73 (by decide) (fun c22 => ?_) (fun c22 => ?_)
            · have h := if_t c22 h
              refine lv_ldc2 hx hb hown hc_172 dX11_entry_169 ?_
              have hy := Option.some.inj h
              subst hy
              exact g_rl S Z hr hlocks dX11_entry_172
            · have h := if_f c22 h
              refine lv_iload_n hx hb dX11_entry_76 rfl (lv_at hl 3 rfl) ?_
              refine lv_if_lt (tgt := 169) hx hb dX11_entry_77 (by decide) (fun c23 => ?_) (fun c23 => ?_)
              · have h := if_t c23 h
                refine lv_ldc2 hx hb hown hc_172 dX11_entry_169 ?_
                have hy := Option.some.inj h
                subst hy
                exact g_rl S Z hr hlocks dX11_entry_172
              · have h := if_f c23 h
                refine lv_aload_n hx hb dX11_entry_80 rfl (lv_at hl 0 rfl) ?_
                refine lv_iload hx hb dX11_entry_81 (lv_at hl 6 rfl) ?_
                refine lv_iload_n hx hb dX11_entry_83 rfl (lv_at hl 2 rfl) ?_
                obtain ⟨v25, hc24, h⟩ := o1_e h
                refine g_Vi (As := [.int x18, .int a2]) (rest := []) S X Z mlv_o rfl rfl (t_X11_isChild l D dA A hJ  hc24) (cwV 2 hts gX11_entry_X11_isChild rfl rfl rfl (by decide +kernel) ⟨Nat.le_of_ble_eq_true rfl, Nat.le_of_ble_eq_true rfl⟩) rfl hl.1 rfl (Nat.le_of_ble_eq_true rfl) dX11_entry_84 ⟨Nat.zero_le _, Nat.zero_le _⟩ (fun H locs Z => ?_)
                obtain ⟨J163, eJ163, h⟩ := jn_e h
                have hJ163 : ∀ (b26 : Int32) (M27 : gM) (H : Heap) (locs : List Loc) (ls : Array Slot), gZ D mLay dA mLive A (gA mLive A) s.heap M27 H locs → lv_has ls 7 [(0, .ref (A m_o)), (1, .int a1), (2, .int a2), (3, .int a3), (4, .int a4), (5, .int b26), (6, .int x18)] → J163 (b26, M27) = some y → W p l e (headSpec wsX11_entry ({ frames := 2, cells := 0, slots := 0, locals := 43 } : Room)).room s m args below meth c H locs 0 0 (MQ below (mQl D dA A y) args s 0 0 (gA mLive A)) (F0 m 163 ls []) := by
                  intro b26 M27 H locs ls Z hl h
                  rw [eJ163] at h
                  try dsimp only at h
                  obtain ⟨x28, ex28, h⟩ := lt_e h
                  refine lv_iinc (v := x28) (lv' := [(6, .int x28), (0, .ref (A m_o)), (1, .int a1), (2, .int a2), (3, .int a3), (4, .int a4), (5, .int b26)]) hx hb dX11_entry_163 hl (k := 6) rfl (by rw [ex28]; rfl) (by decide) rfl (fun ls hl => ?_)
                  refine lv_goto (tgt := 67) hx hb dX11_entry_166 (by decide) ?_
                  exact ih67 b26 x28 M27 _ _ _ Z (lv_sub hl [1, 2, 3, 4, 5, 6, 0] rfl) h
                refine lv_if_eq (tgt := 163) hx hb dX11_entry_87 (by decide) (fun c29 => ?_) (fun c29 => ?_)
                · have h := if_t c29 h
                  exact hJ163 x17 M19 _ _ _ Z (lv_sub hl [0, 1, 2, 3, 4, 5, 6] rfl) h
                · have h := if_f c29 h
                  refine lv_aload_n hx hb dX11_entry_90 rfl (lv_at hl 0 rfl) ?_
                  refine mr_entry S X Z hin hl_56 dX11_entry_91 ?_
                  refine lv_bipush (v := (48 : Int32)) hx hb dX11_entry_94 (by decide) ?_
                  refine lv_iload_n hx hb dX11_entry_96 rfl (lv_at hl 1 rfl) ?_
                  refine lv_imul hx hb dX11_entry_97 ?_
                  refine lv_iload hx hb dX11_entry_98 (lv_at hl 6 rfl) ?_
                  refine lv_iadd hx hb dX11_entry_100 ?_
                  refine g_iald S X Z ml_entry rfl dX11_entry_101 h (fun v30 h => ?_)
                  refine lv_if_le (tgt := 163) hx hb dX11_entry_102 (by decide) (fun c31 => ?_) (fun c31 => ?_)
                  · have h := if_t c31 h
                    exact hJ163 x17 M19 _ _ _ Z (lv_sub hl [0, 1, 2, 3, 4, 5, 6] rfl) h
                  · have h := if_f c31 h
                    refine lv_iload hx hb dX11_entry_105 (lv_at hl 5 rfl) ?_
                    refine lv_if_ne (tgt := 160) hx hb dX11_entry_107 (by decide) (fun c32 => ?_) (fun c32 => ?_)
                    · have h := if_f c32 h
                      obtain ⟨x33, ex33, h⟩ := lt_e h
                      refine lv_iinc (v := x33) (lv' := [(5, .int x33), (0, .ref (A m_o)), (1, .int a1), (2, .int a2), (3, .int a3), (4, .int a4), (6, .int x18)]) hx hb dX11_entry_160 hl (k := 5) rfl (by rw [ex33]; rfl) (by decide) rfl (fun ls hl => ?_)
                      exact hJ163 x33 M19 _ _ _ Z (lv_sub hl [1, 2, 3, 4, 5, 0, 6] rfl) h
                    · have h := if_t c32 h
                      exact hJ110 x18 M19 _ _ _ Z (lv_sub hl [0, 1, 4, 6] rfl) h
        exact hL67 100 a3 (1 : Int32) M5 _ _ _ Z (lv_sub hl [2, 3, 4, 5, 6, 1, 0] rfl) h
      · have h := if_t c9 h
        refine lv_ldc2 hx hb hown hc_172 dX11_entry_57 ?_
        have hy := Option.some.inj h
        subst hy
        exact g_rl S Z hr hlocks dX11_entry_60
    · have h := if_f c7 h
      refine lv_lconst (v := (0 : Int64)) hx hb dX11_entry_41 (by decide) ?_
      have hy := Option.some.inj h
      subst hy
      exact g_rl S Z hr hlocks dX11_entry_42
  obtain ⟨J30, eJ30, h⟩ := jn_e h
  have hJ30 : ∀ (M34 : gM) (H : Heap) (locs : List Loc) (ls : Array Slot), gZ D mLay dA mLive A (gA mLive A) s.heap M34 H locs → lv_has ls 7 [(0, .ref (A m_o)), (1, .int a1), (2, .int a2), (3, .int a3), (4, .int a4)] → J30 M34 = some y → W p l e (headSpec wsX11_entry ({ frames := 2, cells := 0, slots := 0, locals := 43 } : Room)).room s m args below meth c H locs 0 0 (MQ below (mQl D dA A y) args s 0 0 (gA mLive A)) (F0 m 30 ls [.ref (A m_o)]) := by
    intro M34 H locs ls Z hl h
    rw [eJ30] at h
    try dsimp only at h
    refine lv_iconst (v := (1 : Int32)) hx hb dX11_entry_30 (by decide) ?_
    exact hJ31 (1 : Int32) M34 _ _ _ Z (lv_sub hl [0, 1, 2, 3, 4] rfl) h
  refine lv_if_eq (tgt := 30) hx hb dX11_entry_6 (by decide) (fun c35 => ?_) (fun c35 => ?_)
  · have h := if_t c35 h
    exact hJ30 M _ _ _ Z (lv_sub hl [0, 1, 2, 3, 4] rfl) h
  · have h := if_f c35 h
    refine lv_iload_n hx hb dX11_entry_9 rfl (lv_at hl 2 rfl) ?_
    obtain ⟨v37, hc36, h⟩ := o1_e h
    refine g_Si (As := [.int a2]) (rest := [.ref (A m_o)]) S X Z (t_X11_isObject l D dA A hJ  hc36) (va_cwS 1 hts gX11_entry_X11_isObject rfl rfl rfl (by decide +kernel) ⟨Nat.le_of_ble_eq_true rfl, Nat.le_of_ble_eq_true rfl⟩) rfl hl.1 rfl (Nat.le_of_ble_eq_true rfl) dX11_entry_10 ⟨Nat.zero_le _, Nat.zero_le _⟩ (fun H locs Z => ?_)
    refine lv_if_eq (tgt := 30) hx hb dX11_entry_13 (by decide) (fun c38 => ?_) (fun c38 => ?_)
    · have h := if_t c38 h
      exact hJ30 M _ _ _ Z (lv_sub hl [0, 1, 2, 3, 4] rfl) h
    · have h := if_f c38 h
      refine lv_iload hx hb dX11_entry_16 (lv_at hl 4 rfl) ?_
      refine lv_iconst (v := (0 : Int32)) hx hb dX11_entry_18 (by decide) ?_
      refine lv_iconst (v := (2 : Int32)) hx hb dX11_entry_19 (by decide) ?_
      obtain ⟨v40, hc39, h⟩ := o1_e h
      refine g_Si (As := [.int a4, .int (0 : Int32), .int (2 : Int32)]) (rest := [.ref (A m_o)]) S X Z (t_X11_in l D dA A hJ  hc39) (va_cwS 3 hts gX11_entry_X11_in rfl rfl rfl (by decide +kernel) ⟨Nat.le_of_ble_eq_true rfl, Nat.le_of_ble_eq_true rfl⟩) rfl hl.1 rfl (Nat.le_of_ble_eq_true rfl) dX11_entry_20 ⟨Nat.zero_le _, Nat.zero_le _⟩ (fun H locs Z => ?_)
      refine lv_if_eq (tgt := 30) hx hb dX11_entry_23 (by decide) (fun c41 => ?_) (fun c41 => ?_)
      · have h := if_t c41 h
        exact hJ30 M _ _ _ Z (lv_sub hl [0, 1, 2, 3, 4] rfl) h
      · have h := if_f c41 h
        refine lv_iconst (v := (0 : Int32)) hx hb dX11_entry_26 (by decide) ?_
        refine lv_goto (tgt := 31) hx hb dX11_entry_27 (by decide) ?_
        exact hJ31 (0 : Int32) M _ _ _ Z (lv_sub hl [0, 1, 2, 3, 4] rfl) h
-- X11_keptThere (II)I: 33 instructions
set_option maxRecDepth 20000 in
theorem ggX11_keptThere_X11_isChild : GoodIn wsX11_keptThere wsX11_isChild := goodIn_r _ [7, 1, 8, 9, 10, 11, 12, 13, 14, 15, 16, 17, 18, 19, 20, 21, 22, 23, 24, 25, 26, 27, 28, 29, 30, 31, 32, 33, 34, 35, 36, 37, 38, 39, 40, 41, 42, 43, 44, 45, 46, 47, 48, 49, 50, 51, 52, 53, 54, 55, 56, 57, 58, 59, 60, 61, 62, 63, 64, 65, 66, 67, 68, 69, 70, 71, 72, 73, 74, 75] (by decide +kernel) (by decide +kernel)
set_option maxRecDepth 20000 in
theorem gX11_keptThere_X11_isChild : GoodIn wsX11_keptThere (wsV RX11 197 RX11 yX11_isChild wsX11_isChild) := goodIn_app (goodIn_of _ (by decide +kernel)) ggX11_keptThere_X11_isChild
theorem dX11_keptThere_0 : decode cX11_keptThere 0 = .ok (.iconst 0, 1) := by decide +kernel
theorem dX11_keptThere_1 : decode cX11_keptThere 1 = .ok (.istore_n 3, 1) := by decide +kernel
theorem dX11_keptThere_2 : decode cX11_keptThere 2 = .ok (.iconst 1, 1) := by decide +kernel
theorem dX11_keptThere_3 : decode cX11_keptThere 3 = .ok (.istore 4, 2) := by decide +kernel
theorem dX11_keptThere_5 : decode cX11_keptThere 5 = .ok (.iload 4, 2) := by decide +kernel
theorem dX11_keptThere_7 : decode cX11_keptThere 7 = .ok (.aload_n 0, 1) := by decide +kernel
theorem dX11_keptThere_8 : decode cX11_keptThere 8 = .ok (.getfield 162, 3) := by decide +kernel
theorem dX11_keptThere_11 : decode cX11_keptThere 11 = .ok (.if_icmp .ge 43, 3) := by decide +kernel
theorem dX11_keptThere_14 : decode cX11_keptThere 14 = .ok (.aload_n 0, 1) := by decide +kernel
theorem dX11_keptThere_15 : decode cX11_keptThere 15 = .ok (.iload 4, 2) := by decide +kernel
theorem dX11_keptThere_17 : decode cX11_keptThere 17 = .ok (.iload_n 2, 1) := by decide +kernel
theorem dX11_keptThere_18 : decode cX11_keptThere 18 = .ok (.invokevirtual 197, 3) := by decide +kernel
theorem dX11_keptThere_21 : decode cX11_keptThere 21 = .ok (.ifCond .eq 25, 3) := by decide +kernel
theorem dX11_keptThere_24 : decode cX11_keptThere 24 = .ok (.aload_n 0, 1) := by decide +kernel
theorem dX11_keptThere_25 : decode cX11_keptThere 25 = .ok (.getfield 89, 3) := by decide +kernel
theorem dX11_keptThere_28 : decode cX11_keptThere 28 = .ok (.bipush 48, 2) := by decide +kernel
theorem dX11_keptThere_30 : decode cX11_keptThere 30 = .ok (.iload_n 1, 1) := by decide +kernel
theorem dX11_keptThere_31 : decode cX11_keptThere 31 = .ok (.imul, 1) := by decide +kernel
theorem dX11_keptThere_32 : decode cX11_keptThere 32 = .ok (.iload 4, 2) := by decide +kernel
theorem dX11_keptThere_34 : decode cX11_keptThere 34 = .ok (.iadd, 1) := by decide +kernel
theorem dX11_keptThere_35 : decode cX11_keptThere 35 = .ok (.iaload, 1) := by decide +kernel
theorem dX11_keptThere_36 : decode cX11_keptThere 36 = .ok (.iconst 1, 1) := by decide +kernel
theorem dX11_keptThere_37 : decode cX11_keptThere 37 = .ok (.if_icmp .ne 9, 3) := by decide +kernel
theorem dX11_keptThere_40 : decode cX11_keptThere 40 = .ok (.iload_n 3, 1) := by decide +kernel
theorem dX11_keptThere_41 : decode cX11_keptThere 41 = .ok (.iconst 1, 1) := by decide +kernel
theorem dX11_keptThere_42 : decode cX11_keptThere 42 = .ok (.iadd, 1) := by decide +kernel
theorem dX11_keptThere_43 : decode cX11_keptThere 43 = .ok (.goto 4, 3) := by decide +kernel
theorem dX11_keptThere_46 : decode cX11_keptThere 46 = .ok (.iload_n 3, 1) := by decide +kernel
theorem dX11_keptThere_47 : decode cX11_keptThere 47 = .ok (.istore_n 3, 1) := by decide +kernel
theorem dX11_keptThere_48 : decode cX11_keptThere 48 = .ok (.iinc 4 1, 3) := by decide +kernel
theorem dX11_keptThere_51 : decode cX11_keptThere 51 = .ok (.goto (-46), 3) := by decide +kernel
theorem dX11_keptThere_54 : decode cX11_keptThere 54 = .ok (.iload_n 3, 1) := by decide +kernel
theorem dX11_keptThere_55 : decode cX11_keptThere 55 = .ok (.ireturn, 1) := by decide +kernel
def f_X11_keptThere_L5 (M3 : gM) (a1 : Int32) (a2 : Int32) : Nat → Int32 → Int32 → Option Int32
  | 0, _, _ => none
  | n4 + 1, x1, x2 => lt (M3 m_o 6) (fun v5 => (if v5 ≤ x2 then some x1 else o1 (f_X11_isChild M3 x2 a2) (fun v8 => jn (fun (b9 : Int32) => lt (x2 + 1) (fun x10 => f_X11_keptThere_L5 M3 a1 a2 n4 b9 x10)) (fun J47 => jn (fun (_ : Unit) => J47 x1) (fun J46 => (if v8 = 0 then J46 () else rd M3 m_keptEntry 192 (((48 : Int32) * a1) + x2) (fun v12 => (if v12 = (1 : Int32) then J47 (x1 + (1 : Int32)) else J46 ()))))))))
def f_X11_keptThere (M : gM) (a1 : Int32) (a2 : Int32) : Option Int32 :=
  f_X11_keptThere_L5 M a1 a2 100 (0 : Int32) (1 : Int32)
set_option maxHeartbeats 4000000 in
set_option maxRecDepth 100000 in
theorem t_X11_keptThere (l : Launch) (D : va_G) (dA : Nat → ClassId) (A : gI → Nat) (hJ : gJ mLive A) {M : gM} {a1 : Int32} {a2 : Int32}  {y : Int32} (h : f_X11_keptThere M a1 a2 = some y) : mMi l yX11_keptThere wsX11_keptThere ({ frames := 1, cells := 0, slots := 0, locals := 22 } : Room) D dA A [.ref (A m_o), .int a1, .int a2] M y M := by
  refine Met.ofW (cc := cX11_keptThere) (maxL := 5) (ret := (some .int)) (by decide) rfl ?_
  intro p e s m args below meth c s₁ B hml hv
  obtain ⟨rfl, hP, hK⟩ := hv
  generalize hargs : ([.ref (A m_o), .int a1, .int a2] : List Value).toArray = args at B ⊢
  have S : CallFix p m c cX11_keptThere 5 s args wsX11_keptThere RX11 := ⟨B.exec, B.bytes, hml, findClass_of_methodNamed B.named, atoms_spec (ws := wsX11_keptThere) B.pre⟩
  obtain ⟨hx, hb, -, hown, hts⟩ := id S
  have hr := B.returns
  have hlocks := B.notSynchronized
  have X : gX D vwCl dA mLive A (gA mLive A) s := ⟨hK, hJ, fun i hi => ⟨i, hi, rfl⟩⟩
  have Z : gZ D mLay dA mLive A (gA mLive A) s.heap M s.heap [] := ⟨hP, va_S.rf⟩
  have hin : ∀ w ∈ wsX110, w ∈ wsX11_keptThere := fun w h => List.mem_cons_of_mem _ (List.mem_append_right _ h)
  have hl_89 := hts (.fieldLink RX11 89 "ReplicaFilesModel" "keptEntry" "[I") (by decide +kernel)
  have hl_162 := hts (.fieldLink RX11 162 "ReplicaFilesModel" "made" "I") (by decide +kernel)
  have hl := lv_entry ([.ref (A m_o), .int a1, .int a2]) (n := 5) (Nat.le_of_ble_eq_true rfl)
  rw [← hargs, lg_entry_eq, hargs]
  generalize (lg_sl ([.ref (A m_o), .int a1, .int a2]) ++ List.replicate (5 - (lg_sl ([.ref (A m_o), .int a1, .int a2])).length) Slot.unset).toArray = ls at hl ⊢
  have hl : lv_has ls 5 [(0, .ref (A m_o)), (1, .int a1), (2, .int a2)] := hl
  unfold f_X11_keptThere at h
  refine lv_iconst (v := (0 : Int32)) hx hb dX11_keptThere_0 (by decide) ?_
  refine lv_istore_n (lv' := [(3, .int (0 : Int32)), (0, .ref (A m_o)), (1, .int a1), (2, .int a2)]) hx hb dX11_keptThere_1 rfl hl (by decide) rfl (fun ls hl => ?_)
  refine lv_iconst (v := (1 : Int32)) hx hb dX11_keptThere_2 (by decide) ?_
  refine lv_istore (lv' := [(4, .int (1 : Int32)), (3, .int (0 : Int32)), (0, .ref (A m_o)), (1, .int a1), (2, .int a2)]) hx hb dX11_keptThere_3 hl (by decide) rfl (fun ls hl => ?_)
  have hL5 : ∀ (n : Nat) (x1 : Int32) (x2 : Int32) (H : Heap) (locs : List Loc) (ls : Array Slot), gZ D mLay dA mLive A (gA mLive A) s.heap M H locs → lv_has ls 5 [(0, .ref (A m_o)), (1, .int a1), (2, .int a2), (3, .int x1), (4, .int x2)] → f_X11_keptThere_L5 M a1 a2 n x1 x2 = some y → W p l e (headSpec wsX11_keptThere ({ frames := 1, cells := 0, slots := 0, locals := 22 } : Room)).room s m args below meth c H locs 0 0 (MQ below (mQi D dA A (y, M)) args s 0 0 (gA mLive A)) (F0 m 5 ls []) := by
    intro n
    induction n with
    | zero =>
      intro x1 x2 H locs ls Z hl h
      rw [f_X11_keptThere_L5] at h
      cases h
    | succ n4 ih5 =>
      intro x1 x2 H locs ls Z hl h
      rw [f_X11_keptThere_L5] at h
      refine lv_iload hx hb dX11_keptThere_5 (lv_at hl 4 rfl) ?_
      refine lv_aload_n hx hb dX11_keptThere_7 rfl (lv_at hl 0 rfl) ?_
      refine mr_made S X Z hin hl_162 dX11_keptThere_8 h (fun v5 h => ?_)
      refine lv_icmp_ge (tgt := 54) hx hb dX11_keptThere_11 (by decide) (fun c6 => ?_) (fun c6 => ?_)
      · have h := if_t c6 h
        refine lv_iload_n hx hb dX11_keptThere_54 rfl (lv_at hl 3 rfl) ?_
        have hy := Option.some.inj h
        subst hy
        exact g_ri S Z hr hlocks dX11_keptThere_55
      · have h := if_f c6 h
        refine lv_aload_n hx hb dX11_keptThere_14 rfl (lv_at hl 0 rfl) ?_
        refine lv_iload hx hb dX11_keptThere_15 (lv_at hl 4 rfl) ?_
        refine lv_iload_n hx hb dX11_keptThere_17 rfl (lv_at hl 2 rfl) ?_
        obtain ⟨v8, hc7, h⟩ := o1_e h
        refine g_Vi (As := [.int x2, .int a2]) (rest := []) S X Z mlv_o rfl rfl (t_X11_isChild l D dA A hJ  hc7) (cwV 2 hts gX11_keptThere_X11_isChild rfl rfl rfl (by decide +kernel) ⟨Nat.le_of_ble_eq_true rfl, Nat.le_of_ble_eq_true rfl⟩) rfl hl.1 rfl (Nat.le_of_ble_eq_true rfl) dX11_keptThere_18 ⟨Nat.zero_le _, Nat.zero_le _⟩ (fun H locs Z => ?_)
        obtain ⟨J47, eJ47, h⟩ := jn_e h
        have hJ47 : ∀ (b9 : Int32) (H : Heap) (locs : List Loc) (ls : Array Slot), gZ D mLay dA mLive A (gA mLive A) s.heap M H locs → lv_has ls 5 [(0, .ref (A m_o)), (1, .int a1), (2, .int a2), (4, .int x2)] → J47 b9 = some y → W p l e (headSpec wsX11_keptThere ({ frames := 1, cells := 0, slots := 0, locals := 22 } : Room)).room s m args below meth c H locs 0 0 (MQ below (mQi D dA A (y, M)) args s 0 0 (gA mLive A)) (F0 m 47 ls [.int b9]) := by
          intro b9 H locs ls Z hl h
          rw [eJ47] at h
          try dsimp only at h
          refine lv_istore_n (lv' := [(3, .int b9), (0, .ref (A m_o)), (1, .int a1), (2, .int a2), (4, .int x2)]) hx hb dX11_keptThere_47 rfl hl (by decide) rfl (fun ls hl => ?_)
          obtain ⟨x10, ex10, h⟩ := lt_e h
          refine lv_iinc (v := x10) (lv' := [(4, .int x10), (3, .int b9), (0, .ref (A m_o)), (1, .int a1), (2, .int a2)]) hx hb dX11_keptThere_48 hl (k := 4) rfl (by rw [ex10]; rfl) (by decide) rfl (fun ls hl => ?_)
          refine lv_goto (tgt := 5) hx hb dX11_keptThere_51 (by decide) ?_
          exact ih5 b9 x10 _ _ _ Z (lv_sub hl [2, 3, 4, 1, 0] rfl) h
        obtain ⟨J46, eJ46, h⟩ := jn_e h
        have hJ46 : ∀  (H : Heap) (locs : List Loc) (ls : Array Slot), gZ D mLay dA mLive A (gA mLive A) s.heap M H locs → lv_has ls 5 [(0, .ref (A m_o)), (1, .int a1), (2, .int a2), (3, .int x1), (4, .int x2)] → J46 () = some y → W p l e (headSpec wsX11_keptThere ({ frames := 1, cells := 0, slots := 0, locals := 22 } : Room)).room s m args below meth c H locs 0 0 (MQ below (mQi D dA A (y, M)) args s 0 0 (gA mLive A)) (F0 m 46 ls []) := by
          intro  H locs ls Z hl h
          rw [eJ46] at h
          try dsimp only at h
          refine lv_iload_n hx hb dX11_keptThere_46 rfl (lv_at hl 3 rfl) ?_
          exact hJ47 x1 _ _ _ Z (lv_sub hl [0, 1, 2, 4] rfl) h
        refine lv_if_eq (tgt := 46) hx hb dX11_keptThere_21 (by decide) (fun c11 => ?_) (fun c11 => ?_)
        · have h := if_t c11 h
          exact hJ46  _ _ _ Z (lv_sub hl [0, 1, 2, 3, 4] rfl) h
        · have h := if_f c11 h
          refine lv_aload_n hx hb dX11_keptThere_24 rfl (lv_at hl 0 rfl) ?_
          refine mr_keptEntry S X Z hin hl_89 dX11_keptThere_25 ?_
          refine lv_bipush (v := (48 : Int32)) hx hb dX11_keptThere_28 (by decide) ?_
          refine lv_iload_n hx hb dX11_keptThere_30 rfl (lv_at hl 1 rfl) ?_
          refine lv_imul hx hb dX11_keptThere_31 ?_
          refine lv_iload hx hb dX11_keptThere_32 (lv_at hl 4 rfl) ?_
          refine lv_iadd hx hb dX11_keptThere_34 ?_
          refine g_iald S X Z ml_keptEntry rfl dX11_keptThere_35 h (fun v12 h => ?_)
          refine lv_iconst (v := (1 : Int32)) hx hb dX11_keptThere_36 (by decide) ?_
          refine lv_icmp_ne (tgt := 46) hx hb dX11_keptThere_37 (by decide) (fun c13 => ?_) (fun c13 => ?_)
          · have h := if_f c13 h
            exact hJ46  _ _ _ Z (lv_sub hl [0, 1, 2, 3, 4] rfl) h
          · have h := if_t c13 h
            refine lv_iload_n hx hb dX11_keptThere_40 rfl (lv_at hl 3 rfl) ?_
            refine lv_iconst (v := (1 : Int32)) hx hb dX11_keptThere_41 (by decide) ?_
            refine lv_iadd hx hb dX11_keptThere_42 ?_
            refine lv_goto (tgt := 47) hx hb dX11_keptThere_43 (by decide) ?_
            exact hJ47 (x1 + (1 : Int32)) _ _ _ Z (lv_sub hl [0, 1, 2, 4] rfl) h
  exact hL5 100 (0 : Int32) (1 : Int32) _ _ _ Z (lv_sub hl [2, 3, 4, 1, 0] rfl) h
-- X11_cached (III)J: 90 instructions
set_option maxRecDepth 20000 in
theorem ggX11_cached_X11_isClient : GoodIn wsX11_cached wsX11_isClient := goodIn_r _ [12, 13, 14, 11, 15] (by decide +kernel) (by decide +kernel)
set_option maxRecDepth 20000 in
theorem gX11_cached_X11_isClient : GoodIn wsX11_cached (va_wsS RX11 191 yX11_isClient wsX11_isClient) := goodIn_app (goodIn_of _ (by decide +kernel)) ggX11_cached_X11_isClient
set_option maxRecDepth 20000 in
theorem ggX11_cached_X11_isObject : GoodIn wsX11_cached wsX11_isObject := goodIn_r _ [18, 13, 14, 11, 15] (by decide +kernel) (by decide +kernel)
set_option maxRecDepth 20000 in
theorem gX11_cached_X11_isObject : GoodIn wsX11_cached (va_wsS RX11 194 yX11_isObject wsX11_isObject) := goodIn_app (goodIn_of _ (by decide +kernel)) ggX11_cached_X11_isObject
set_option maxRecDepth 20000 in
theorem ggX11_cached_X11_in : GoodIn wsX11_cached wsX11_in := goodIn_r _ [15] (by decide +kernel) (by decide +kernel)
set_option maxRecDepth 20000 in
theorem gX11_cached_X11_in : GoodIn wsX11_cached (va_wsS RX11 168 yX11_in wsX11_in) := goodIn_app (goodIn_of _ (by decide +kernel)) ggX11_cached_X11_in
set_option maxRecDepth 20000 in
theorem ggX11_cached_X11_keptThere : GoodIn wsX11_cached wsX11_keptThere := goodIn_r _ [22, 23, 24, 25, 26, 27, 11, 28, 29, 45, 46, 47, 48, 49, 50, 51, 52, 53, 54, 55, 56, 57, 58, 59, 60, 61, 62, 63, 64, 65, 66, 67, 68, 69, 70, 71, 72, 73, 74, 75, 76, 77, 78, 79, 80, 81, 82, 83, 84, 85, 86, 87, 88, 89, 90, 91, 92, 93, 94, 95, 96, 97, 98, 99, 100, 101, 102, 103, 104, 105, 106, 107, 108, 109, 110, 111] (by decide +kernel) (by decide +kernel)
set_option maxRecDepth 20000 in
theorem gX11_cached_X11_keptThere : GoodIn wsX11_cached (wsV RX11 461 RX11 yX11_keptThere wsX11_keptThere) := goodIn_app (goodIn_of _ (by decide +kernel)) ggX11_cached_X11_keptThere
set_option maxRecDepth 20000 in
theorem ggX11_cached_X11_isGood : GoodIn wsX11_cached wsX11_isGood := goodIn_r _ [33, 2, 7, 34, 35, 36, 11, 37, 38, 39, 40, 41, 42, 43, 44, 45, 46, 47, 48, 49, 50, 51, 52, 53, 54, 55, 56, 57, 58, 59, 60, 61, 62, 63, 64, 65, 66, 67, 68, 69, 70, 71, 72, 73, 74, 75, 76, 77, 78, 79, 80, 81, 82, 83, 84, 85, 86, 87, 88, 89, 90, 91, 92, 93, 94, 95, 96, 97, 98, 99, 100, 101, 102, 103, 104, 105, 106, 107, 108, 109, 110, 111] (by decide +kernel) (by decide +kernel)
set_option maxRecDepth 20000 in
theorem gX11_cached_X11_isGood : GoodIn wsX11_cached (wsV RX11 249 RX11 yX11_isGood wsX11_isGood) := goodIn_app (goodIn_of _ (by decide +kernel)) ggX11_cached_X11_isGood
theorem dX11_cached_0 : decode cX11_cached 0 = .ok (.aload_n 0, 1) := by decide +kernel
theorem dX11_cached_1 : decode cX11_cached 1 = .ok (.iload_n 1, 1) := by decide +kernel
theorem dX11_cached_2 : decode cX11_cached 2 = .ok (.invokestatic 191, 3) := by decide +kernel
theorem dX11_cached_5 : decode cX11_cached 5 = .ok (.ifCond .eq 23, 3) := by decide +kernel
theorem dX11_cached_8 : decode cX11_cached 8 = .ok (.iload_n 2, 1) := by decide +kernel
theorem dX11_cached_9 : decode cX11_cached 9 = .ok (.invokestatic 194, 3) := by decide +kernel
theorem dX11_cached_12 : decode cX11_cached 12 = .ok (.ifCond .eq 16, 3) := by decide +kernel
theorem dX11_cached_15 : decode cX11_cached 15 = .ok (.iload_n 3, 1) := by decide +kernel
theorem dX11_cached_16 : decode cX11_cached 16 = .ok (.iconst 0, 1) := by decide +kernel
theorem dX11_cached_17 : decode cX11_cached 17 = .ok (.iconst 4, 1) := by decide +kernel
theorem dX11_cached_18 : decode cX11_cached 18 = .ok (.invokestatic 168, 3) := by decide +kernel
theorem dX11_cached_21 : decode cX11_cached 21 = .ok (.ifCond .eq 7, 3) := by decide +kernel
theorem dX11_cached_24 : decode cX11_cached 24 = .ok (.iconst 0, 1) := by decide +kernel
theorem dX11_cached_25 : decode cX11_cached 25 = .ok (.goto 4, 3) := by decide +kernel
theorem dX11_cached_28 : decode cX11_cached 28 = .ok (.iconst 1, 1) := by decide +kernel
theorem dX11_cached_29 : decode cX11_cached 29 = .ok (.putfield 165, 3) := by decide +kernel
theorem dX11_cached_32 : decode cX11_cached 32 = .ok (.aload_n 0, 1) := by decide +kernel
theorem dX11_cached_33 : decode cX11_cached 33 = .ok (.getfield 165, 3) := by decide +kernel
theorem dX11_cached_36 : decode cX11_cached 36 = .ok (.ifCond .le 5, 3) := by decide +kernel
theorem dX11_cached_39 : decode cX11_cached 39 = .ok (.lconst 0, 1) := by decide +kernel
theorem dX11_cached_40 : decode cX11_cached 40 = .ok (.lreturn, 1) := by decide +kernel
theorem dX11_cached_41 : decode cX11_cached 41 = .ok (.bipush 48, 2) := by decide +kernel
theorem dX11_cached_43 : decode cX11_cached 43 = .ok (.iload_n 1, 1) := by decide +kernel
theorem dX11_cached_44 : decode cX11_cached 44 = .ok (.imul, 1) := by decide +kernel
theorem dX11_cached_45 : decode cX11_cached 45 = .ok (.iload_n 2, 1) := by decide +kernel
theorem dX11_cached_46 : decode cX11_cached 46 = .ok (.iadd, 1) := by decide +kernel
theorem dX11_cached_47 : decode cX11_cached 47 = .ok (.istore 4, 2) := by decide +kernel
theorem dX11_cached_49 : decode cX11_cached 49 = .ok (.aload_n 0, 1) := by decide +kernel
theorem dX11_cached_50 : decode cX11_cached 50 = .ok (.getfield 65, 3) := by decide +kernel
theorem dX11_cached_53 : decode cX11_cached 53 = .ok (.iload 4, 2) := by decide +kernel
theorem dX11_cached_55 : decode cX11_cached 55 = .ok (.baload, 1) := by decide +kernel
theorem dX11_cached_56 : decode cX11_cached 56 = .ok (.ifCond .ne 7, 3) := by decide +kernel
theorem dX11_cached_59 : decode cX11_cached 59 = .ok (.ldc2_w 172, 3) := by decide +kernel
theorem dX11_cached_62 : decode cX11_cached 62 = .ok (.lreturn, 1) := by decide +kernel
theorem dX11_cached_63 : decode cX11_cached 63 = .ok (.iload_n 3, 1) := by decide +kernel
theorem dX11_cached_64 : decode cX11_cached 64 = .ok (.tableswitch 107 0 3 #[32, 60, 82, 91], 32) := by decide +kernel
theorem dX11_cached_96 : decode cX11_cached 96 = .ok (.aload_n 0, 1) := by decide +kernel
theorem dX11_cached_97 : decode cX11_cached 97 = .ok (.getfield 29, 3) := by decide +kernel
theorem dX11_cached_100 : decode cX11_cached 100 = .ok (.iload_n 2, 1) := by decide +kernel
theorem dX11_cached_101 : decode cX11_cached 101 = .ok (.baload, 1) := by decide +kernel
theorem dX11_cached_102 : decode cX11_cached 102 = .ok (.ifCond .eq 13, 3) := by decide +kernel
theorem dX11_cached_105 : decode cX11_cached 105 = .ok (.aload_n 0, 1) := by decide +kernel
theorem dX11_cached_106 : decode cX11_cached 106 = .ok (.iload_n 1, 1) := by decide +kernel
theorem dX11_cached_107 : decode cX11_cached 107 = .ok (.iload_n 2, 1) := by decide +kernel
theorem dX11_cached_108 : decode cX11_cached 108 = .ok (.invokevirtual 461, 3) := by decide +kernel
theorem dX11_cached_111 : decode cX11_cached 111 = .ok (.i2l, 1) := by decide +kernel
theorem dX11_cached_112 : decode cX11_cached 112 = .ok (.goto 11, 3) := by decide +kernel
theorem dX11_cached_115 : decode cX11_cached 115 = .ok (.aload_n 0, 1) := by decide +kernel
theorem dX11_cached_116 : decode cX11_cached 116 = .ok (.getfield 68, 3) := by decide +kernel
theorem dX11_cached_119 : decode cX11_cached 119 = .ok (.iload 4, 2) := by decide +kernel
theorem dX11_cached_121 : decode cX11_cached 121 = .ok (.iaload, 1) := by decide +kernel
theorem dX11_cached_122 : decode cX11_cached 122 = .ok (.i2l, 1) := by decide +kernel
theorem dX11_cached_123 : decode cX11_cached 123 = .ok (.lreturn, 1) := by decide +kernel
theorem dX11_cached_124 : decode cX11_cached 124 = .ok (.aload_n 0, 1) := by decide +kernel
theorem dX11_cached_125 : decode cX11_cached 125 = .ok (.getfield 29, 3) := by decide +kernel
theorem dX11_cached_128 : decode cX11_cached 128 = .ok (.iload_n 2, 1) := by decide +kernel
theorem dX11_cached_129 : decode cX11_cached 129 = .ok (.baload, 1) := by decide +kernel
theorem dX11_cached_130 : decode cX11_cached 130 = .ok (.ifCond .eq 7, 3) := by decide +kernel
theorem dX11_cached_133 : decode cX11_cached 133 = .ok (.lconst 0, 1) := by decide +kernel
theorem dX11_cached_134 : decode cX11_cached 134 = .ok (.goto 11, 3) := by decide +kernel
theorem dX11_cached_137 : decode cX11_cached 137 = .ok (.aload_n 0, 1) := by decide +kernel
theorem dX11_cached_138 : decode cX11_cached 138 = .ok (.getfield 71, 3) := by decide +kernel
theorem dX11_cached_141 : decode cX11_cached 141 = .ok (.iload 4, 2) := by decide +kernel
theorem dX11_cached_143 : decode cX11_cached 143 = .ok (.iaload, 1) := by decide +kernel
theorem dX11_cached_144 : decode cX11_cached 144 = .ok (.i2l, 1) := by decide +kernel
theorem dX11_cached_145 : decode cX11_cached 145 = .ok (.lreturn, 1) := by decide +kernel
theorem dX11_cached_146 : decode cX11_cached 146 = .ok (.aload_n 0, 1) := by decide +kernel
theorem dX11_cached_147 : decode cX11_cached 147 = .ok (.getfield 77, 3) := by decide +kernel
theorem dX11_cached_150 : decode cX11_cached 150 = .ok (.iload 4, 2) := by decide +kernel
theorem dX11_cached_152 : decode cX11_cached 152 = .ok (.iaload, 1) := by decide +kernel
theorem dX11_cached_153 : decode cX11_cached 153 = .ok (.i2l, 1) := by decide +kernel
theorem dX11_cached_154 : decode cX11_cached 154 = .ok (.lreturn, 1) := by decide +kernel
theorem dX11_cached_155 : decode cX11_cached 155 = .ok (.aload_n 0, 1) := by decide +kernel
theorem dX11_cached_156 : decode cX11_cached 156 = .ok (.getfield 80, 3) := by decide +kernel
theorem dX11_cached_159 : decode cX11_cached 159 = .ok (.iload 4, 2) := by decide +kernel
theorem dX11_cached_161 : decode cX11_cached 161 = .ok (.baload, 1) := by decide +kernel
theorem dX11_cached_162 : decode cX11_cached 162 = .ok (.ifCond .eq 7, 3) := by decide +kernel
theorem dX11_cached_165 : decode cX11_cached 165 = .ok (.lconst 1, 1) := by decide +kernel
theorem dX11_cached_166 : decode cX11_cached 166 = .ok (.goto 4, 3) := by decide +kernel
theorem dX11_cached_169 : decode cX11_cached 169 = .ok (.lconst 0, 1) := by decide +kernel
theorem dX11_cached_170 : decode cX11_cached 170 = .ok (.lreturn, 1) := by decide +kernel
theorem dX11_cached_171 : decode cX11_cached 171 = .ok (.aload_n 0, 1) := by decide +kernel
theorem dX11_cached_172 : decode cX11_cached 172 = .ok (.iload_n 1, 1) := by decide +kernel
theorem dX11_cached_173 : decode cX11_cached 173 = .ok (.iload_n 2, 1) := by decide +kernel
theorem dX11_cached_174 : decode cX11_cached 174 = .ok (.invokevirtual 249, 3) := by decide +kernel
theorem dX11_cached_177 : decode cX11_cached 177 = .ok (.ifCond .eq 7, 3) := by decide +kernel
theorem dX11_cached_180 : decode cX11_cached 180 = .ok (.lconst 1, 1) := by decide +kernel
theorem dX11_cached_181 : decode cX11_cached 181 = .ok (.goto 4, 3) := by decide +kernel
theorem dX11_cached_184 : decode cX11_cached 184 = .ok (.lconst 0, 1) := by decide +kernel
theorem dX11_cached_185 : decode cX11_cached 185 = .ok (.lreturn, 1) := by decide +kernel
def f_X11_cached (M : gM) (a1 : Int32) (a2 : Int32) (a3 : Int32) : Option (Int64 × gM) :=
  o1 (f_X11_isClient M a1) (fun v2 => jn (fun (q : (Int32 × gM)) => match q with | (b3, M4) => lt (gset M4 m_o 66 b3) (fun M5 => lt (M5 m_o 66) (fun v6 => (if v6 ≤ 0 then lt ((((48 : Int32) * a1) + a2)) (fun x8 => rd M5 m_kept 192 x8 (fun v9 => (if v9 = 0 then some ((-2199023255552 : Int64), M5) else (if a3.toInt < 0 ∨ 3 < a3.toInt then o1 (f_X11_isGood M5 a1 a2) (fun v13 => (if v13 = 0 then some ((0 : Int64), M5) else some ((1 : Int64), M5))) else (if a3 = 0 then rd M5 m_isDirectory 48 a2 (fun v16 => (if v16 = 0 then rd M5 m_keptValue 192 x8 (fun v18 => some (v18.toInt64, M5)) else o1 (f_X11_keptThere M5 a1 a2) (fun v20 => some (v20.toInt64, M5)))) else (if a3 = 1 then rd M5 m_isDirectory 48 a2 (fun v22 => (if v22 = 0 then rd M5 m_keptSize 192 x8 (fun v24 => some (v24.toInt64, M5)) else some ((0 : Int64), M5))) else (if a3 = 2 then rd M5 m_promised 192 x8 (fun v26 => some (v26.toInt64, M5)) else (if a3 = 3 then rd M5 m_dirty 192 x8 (fun v28 => (if v28 = 0 then some ((0 : Int64), M5) else some ((1 : Int64), M5))) else none)))))))) else some ((0 : Int64), M5))))) (fun J29 => jn (fun (M30 : gM) => J29 ((1 : Int32), M30)) (fun J28 => (if v2 = 0 then J28 M else o1 (f_X11_isObject M a2) (fun v33 => (if v33 = 0 then J28 M else o1 (f_X11_in M a3 (0 : Int32) (4 : Int32)) (fun v36 => (if v36 = 0 then J28 M else J29 ((0 : Int32), M)))))))))
set_option maxHeartbeats 4000000 in
set_option maxRecDepth 100000 in
theorem t_X11_cached (l : Launch) (D : va_G) (dA : Nat → ClassId) (A : gI → Nat) (hJ : gJ mLive A) {M : gM} {a1 : Int32} {a2 : Int32} {a3 : Int32}  {y : (Int64 × gM)} (h : f_X11_cached M a1 a2 a3 = some y) : mMl l yX11_cached wsX11_cached ({ frames := 3, cells := 0, slots := 0, locals := 68 } : Room) D dA A [.ref (A m_o), .int a1, .int a2, .int a3] M y.1 y.2 := by
  refine Met.ofW (cc := cX11_cached) (maxL := 5) (ret := (some .long)) (by decide) rfl ?_
  intro p e s m args below meth c s₁ B hml hv
  obtain ⟨rfl, hP, hK⟩ := hv
  generalize hargs : ([.ref (A m_o), .int a1, .int a2, .int a3] : List Value).toArray = args at B ⊢
  have S : CallFix p m c cX11_cached 5 s args wsX11_cached RX11 := ⟨B.exec, B.bytes, hml, findClass_of_methodNamed B.named, atoms_spec (ws := wsX11_cached) B.pre⟩
  obtain ⟨hx, hb, -, hown, hts⟩ := id S
  have hr := B.returns
  have hlocks := B.notSynchronized
  have X : gX D vwCl dA mLive A (gA mLive A) s := ⟨hK, hJ, fun i hi => ⟨i, hi, rfl⟩⟩
  have Z : gZ D mLay dA mLive A (gA mLive A) s.heap M s.heap [] := ⟨hP, va_S.rf⟩
  have hin : ∀ w ∈ wsX110, w ∈ wsX11_cached := fun w h => List.mem_cons_of_mem _ (List.mem_append_right _ h)
  have hl_29 := hts (.fieldLink RX11 29 "ReplicaFilesModel" "isDirectory" "[Z") (by decide +kernel)
  have hl_65 := hts (.fieldLink RX11 65 "ReplicaFilesModel" "kept" "[Z") (by decide +kernel)
  have hl_68 := hts (.fieldLink RX11 68 "ReplicaFilesModel" "keptValue" "[I") (by decide +kernel)
  have hl_71 := hts (.fieldLink RX11 71 "ReplicaFilesModel" "keptSize" "[I") (by decide +kernel)
  have hl_77 := hts (.fieldLink RX11 77 "ReplicaFilesModel" "promised" "[I") (by decide +kernel)
  have hl_80 := hts (.fieldLink RX11 80 "ReplicaFilesModel" "dirty" "[Z") (by decide +kernel)
  have hl_165 := hts (.fieldLink RX11 165 "ReplicaFilesModel" "thrown" "I") (by decide +kernel)
  have hc_172 := hts (.constantLong RX11 172 (-2199023255552)) (by decide +kernel)
  have hl := lv_entry ([.ref (A m_o), .int a1, .int a2, .int a3]) (n := 5) (Nat.le_of_ble_eq_true rfl)
  rw [← hargs, lg_entry_eq, hargs]
  generalize (lg_sl ([.ref (A m_o), .int a1, .int a2, .int a3]) ++ List.replicate (5 - (lg_sl ([.ref (A m_o), .int a1, .int a2, .int a3])).length) Slot.unset).toArray = ls at hl ⊢
  have hl : lv_has ls 5 [(0, .ref (A m_o)), (1, .int a1), (2, .int a2), (3, .int a3)] := hl
  unfold f_X11_cached at h
  refine lv_aload_n hx hb dX11_cached_0 rfl (lv_at hl 0 rfl) ?_
  refine lv_iload_n hx hb dX11_cached_1 rfl (lv_at hl 1 rfl) ?_
  obtain ⟨v2, hc1, h⟩ := o1_e h
  refine g_Si (As := [.int a1]) (rest := [.ref (A m_o)]) S X Z (t_X11_isClient l D dA A hJ  hc1) (va_cwS 1 hts gX11_cached_X11_isClient rfl rfl rfl (by decide +kernel) ⟨Nat.le_of_ble_eq_true rfl, Nat.le_of_ble_eq_true rfl⟩) rfl hl.1 rfl (Nat.le_of_ble_eq_true rfl) dX11_cached_2 ⟨Nat.zero_le _, Nat.zero_le _⟩ (fun H locs Z => ?_)
  obtain ⟨J29, eJ29, h⟩ := jn_e h
  have hJ29 : ∀ (b3 : Int32) (M4 : gM) (H : Heap) (locs : List Loc) (ls : Array Slot), gZ D mLay dA mLive A (gA mLive A) s.heap M4 H locs → lv_has ls 5 [(0, .ref (A m_o)), (1, .int a1), (2, .int a2), (3, .int a3)] → J29 (b3, M4) = some y → W p l e (headSpec wsX11_cached ({ frames := 3, cells := 0, slots := 0, locals := 68 } : Room)).room s m args below meth c H locs 0 0 (MQ below (mQl D dA A y) args s 0 0 (gA mLive A)) (F0 m 29 ls [.int b3, .ref (A m_o)]) := by
    intro b3 M4 H locs ls Z hl h
    rw [eJ29] at h
    try dsimp only at h
    refine mp_thrown S X Z hin hl_165 dX11_cached_29 h (fun M5 H locs Z h => ?_)
    refine lv_aload_n hx hb dX11_cached_32 rfl (lv_at hl 0 rfl) ?_
    refine mr_thrown S X Z hin hl_165 dX11_cached_33 h (fun v6 h => ?_)
    refine lv_if_le (tgt := 41) hx hb dX11_cached_36 (by decide) (fun c7 => ?_) (fun c7 => ?_)
    · have h := if_t c7 h
      refine lv_bipush (v := (48 : Int32)) hx hb dX11_cached_41 (by decide) ?_
      refine lv_iload_n hx hb dX11_cached_43 rfl (lv_at hl 1 rfl) ?_
      refine lv_imul hx hb dX11_cached_44 ?_
      refine lv_iload_n hx hb dX11_cached_45 rfl (lv_at hl 2 rfl) ?_
      refine lv_iadd hx hb dX11_cached_46 ?_
      refine g_topi h (fun x8 h => ?_)
      refine lv_istore (lv' := [(4, .int x8), (0, .ref (A m_o)), (1, .int a1), (2, .int a2), (3, .int a3)]) hx hb dX11_cached_47 hl (by decide) rfl (fun ls hl => ?_)
      refine lv_aload_n hx hb dX11_cached_49 rfl (lv_at hl 1 rfl) ?_
      refine mr_kept S X Z hin hl_65 dX11_cached_50 ?_
      refine lv_iload hx hb dX11_cached_53 (lv_at hl 0 rfl) ?_
      refine g_zald S X Z ml_kept rfl dX11_cached_55 h (fun v9 h => ?_)
      refine lv_if_ne (tgt := 63) hx hb dX11_cached_56 (by decide) (fun c10 => ?_) (fun c10 => ?_)
      · have h := if_f c10 h
        refine lv_iload_n hx hb dX11_cached_63 rfl (lv_at hl 4 rfl) ?_
        by_cases c11 : a3.toInt < 0 ∨ 3 < a3.toInt
        · have h := if_t c11 h
          refine lv_tableOut (tgt := 171) hx hb dX11_cached_64 c11 (by decide) ?_
          refine lv_aload_n hx hb dX11_cached_171 rfl (lv_at hl 1 rfl) ?_
          refine lv_iload_n hx hb dX11_cached_172 rfl (lv_at hl 2 rfl) ?_
          refine lv_iload_n hx hb dX11_cached_173 rfl (lv_at hl 3 rfl) ?_
          obtain ⟨v13, hc12, h⟩ := o1_e h
          refine g_Vi (As := [.int a1, .int a2]) (rest := []) S X Z mlv_o rfl rfl (t_X11_isGood l D dA A hJ  hc12) (cwV 2 hts gX11_cached_X11_isGood rfl rfl rfl (by decide +kernel) ⟨Nat.le_of_ble_eq_true rfl, Nat.le_of_ble_eq_true rfl⟩) rfl hl.1 rfl (Nat.le_of_ble_eq_true rfl) dX11_cached_174 ⟨Nat.zero_le _, Nat.zero_le _⟩ (fun H locs Z => ?_)
          refine lv_if_eq (tgt := 184) hx hb dX11_cached_177 (by decide) (fun c14 => ?_) (fun c14 => ?_)
          · have h := if_t c14 h
            refine lv_lconst (v := (0 : Int64)) hx hb dX11_cached_184 (by decide) ?_
            have hy := Option.some.inj h
            subst hy
            exact g_rl S Z hr hlocks dX11_cached_185
          · have h := if_f c14 h
            refine lv_lconst (v := (1 : Int64)) hx hb dX11_cached_180 (by decide) ?_
            refine lv_goto (tgt := 185) hx hb dX11_cached_181 (by decide) ?_
            have hy := Option.some.inj h
            subst hy
            exact g_rl S Z hr hlocks dX11_cached_185
        · have h := if_f c11 h
          by_cases c15 : a3 = 0
          · have h := if_t c15 h
            refine lv_tableIn (off := 32) (tgt := 96) hx hb dX11_cached_64 (fun q => c11 (Or.inl q)) (fun q => c11 (Or.inr q)) (by rw [c15]; decide) (by decide) ?_
            refine lv_aload_n hx hb dX11_cached_96 rfl (lv_at hl 1 rfl) ?_
            refine mr_isDirectory S X Z hin hl_29 dX11_cached_97 ?_
            refine lv_iload_n hx hb dX11_cached_100 rfl (lv_at hl 3 rfl) ?_
            refine g_zald S X Z ml_isDirectory rfl dX11_cached_101 h (fun v16 h => ?_)
            refine lv_if_eq (tgt := 115) hx hb dX11_cached_102 (by decide) (fun c17 => ?_) (fun c17 => ?_)
            · have h := if_t c17 h
              refine lv_aload_n hx hb dX11_cached_115 rfl (lv_at hl 1 rfl) ?_
              refine mr_keptValue S X Z hin hl_68 dX11_cached_116 ?_
              refine lv_iload hx hb dX11_cached_119 (lv_at hl 0 rfl) ?_
              refine g_iald S X Z ml_keptValue rfl dX11_cached_121 h (fun v18 h => ?_)
              refine lv_i2l hx hb dX11_cached_122 rfl ?_
              have hy := Option.some.inj h
              subst hy
              exact g_rl S Z hr hlocks dX11_cached_123
            · have h := if_f c17 h
              refine lv_aload_n hx hb dX11_cached_105 rfl (lv_at hl 1 rfl) ?_
              refine lv_iload_n hx hb dX11_cached_106 rfl (lv_at hl 2 rfl) ?_
              refine lv_iload_n hx hb dX11_cached_107 rfl (lv_at hl 3 rfl) ?_
              obtain ⟨v20, hc19, h⟩ := o1_e h
              refine g_Vi (As := [.int a1, .int a2]) (rest := []) S X Z mlv_o rfl rfl (t_X11_keptThere l D dA A hJ  hc19) (cwV 2 hts gX11_cached_X11_keptThere rfl rfl rfl (by decide +kernel) ⟨Nat.le_of_ble_eq_true rfl, Nat.le_of_ble_eq_true rfl⟩) rfl hl.1 rfl (Nat.le_of_ble_eq_true rfl) dX11_cached_108 ⟨Nat.zero_le _, Nat.zero_le _⟩ (fun H locs Z => ?_)
              refine lv_i2l hx hb dX11_cached_111 rfl ?_
              refine lv_goto (tgt := 123) hx hb dX11_cached_112 (by decide) ?_
              have hy := Option.some.inj h
              subst hy
              exact g_rl S Z hr hlocks dX11_cached_123
          have h := if_f c15 h
          by_cases c21 : a3 = 1
          · have h := if_t c21 h
            refine lv_tableIn (off := 60) (tgt := 124) hx hb dX11_cached_64 (fun q => c11 (Or.inl q)) (fun q => c11 (Or.inr q)) (by rw [c21]; decide) (by decide) ?_
            refine lv_aload_n hx hb dX11_cached_124 rfl (lv_at hl 1 rfl) ?_
            refine mr_isDirectory S X Z hin hl_29 dX11_cached_125 ?_
            refine lv_iload_n hx hb dX11_cached_128 rfl (lv_at hl 3 rfl) ?_
            refine g_zald S X Z ml_isDirectory rfl dX11_cached_129 h (fun v22 h => ?_)
            refine lv_if_eq (tgt := 137) hx hb dX11_cached_130 (by decide) (fun c23 => ?_) (fun c23 => ?_)
            · have h := if_t c23 h
              refine lv_aload_n hx hb dX11_cached_137 rfl (lv_at hl 1 rfl) ?_
              refine mr_keptSize S X Z hin hl_71 dX11_cached_138 ?_
              refine lv_iload hx hb dX11_cached_141 (lv_at hl 0 rfl) ?_
              refine g_iald S X Z ml_keptSize rfl dX11_cached_143 h (fun v24 h => ?_)
              refine lv_i2l hx hb dX11_cached_144 rfl ?_
              have hy := Option.some.inj h
              subst hy
              exact g_rl S Z hr hlocks dX11_cached_145
            · have h := if_f c23 h
              refine lv_lconst (v := (0 : Int64)) hx hb dX11_cached_133 (by decide) ?_
              refine lv_goto (tgt := 145) hx hb dX11_cached_134 (by decide) ?_
              have hy := Option.some.inj h
              subst hy
              exact g_rl S Z hr hlocks dX11_cached_145
          have h := if_f c21 h
          by_cases c25 : a3 = 2
          · have h := if_t c25 h
            refine lv_tableIn (off := 82) (tgt := 146) hx hb dX11_cached_64 (fun q => c11 (Or.inl q)) (fun q => c11 (Or.inr q)) (by rw [c25]; decide) (by decide) ?_
            refine lv_aload_n hx hb dX11_cached_146 rfl (lv_at hl 1 rfl) ?_
            refine mr_promised S X Z hin hl_77 dX11_cached_147 ?_
            refine lv_iload hx hb dX11_cached_150 (lv_at hl 0 rfl) ?_
            refine g_iald S X Z ml_promised rfl dX11_cached_152 h (fun v26 h => ?_)
            refine lv_i2l hx hb dX11_cached_153 rfl ?_
            have hy := Option.some.inj h
            subst hy
            exact g_rl S Z hr hlocks dX11_cached_154
          have h := if_f c25 h
          by_cases c27 : a3 = 3
          · have h := if_t c27 h
            refine lv_tableIn (off := 91) (tgt := 155) hx hb dX11_cached_64 (fun q => c11 (Or.inl q)) (fun q => c11 (Or.inr q)) (by rw [c27]; decide) (by decide) ?_
            refine lv_aload_n hx hb dX11_cached_155 rfl (lv_at hl 1 rfl) ?_
            refine mr_dirty S X Z hin hl_80 dX11_cached_156 ?_
            refine lv_iload hx hb dX11_cached_159 (lv_at hl 0 rfl) ?_
            refine g_zald S X Z ml_dirty rfl dX11_cached_161 h (fun v28 h => ?_)
            refine lv_if_eq (tgt := 169) hx hb dX11_cached_162 (by decide) (fun c29 => ?_) (fun c29 => ?_)
            · have h := if_t c29 h
              refine lv_lconst (v := (0 : Int64)) hx hb dX11_cached_169 (by decide) ?_
              have hy := Option.some.inj h
              subst hy
              exact g_rl S Z hr hlocks dX11_cached_170
            · have h := if_f c29 h
              refine lv_lconst (v := (1 : Int64)) hx hb dX11_cached_165 (by decide) ?_
              refine lv_goto (tgt := 170) hx hb dX11_cached_166 (by decide) ?_
              have hy := Option.some.inj h
              subst hy
              exact g_rl S Z hr hlocks dX11_cached_170
          have h := if_f c27 h
          cases h
      · have h := if_t c10 h
        refine lv_ldc2 hx hb hown hc_172 dX11_cached_59 ?_
        have hy := Option.some.inj h
        subst hy
        exact g_rl S Z hr hlocks dX11_cached_62
    · have h := if_f c7 h
      refine lv_lconst (v := (0 : Int64)) hx hb dX11_cached_39 (by decide) ?_
      have hy := Option.some.inj h
      subst hy
      exact g_rl S Z hr hlocks dX11_cached_40
  obtain ⟨J28, eJ28, h⟩ := jn_e h
  have hJ28 : ∀ (M30 : gM) (H : Heap) (locs : List Loc) (ls : Array Slot), gZ D mLay dA mLive A (gA mLive A) s.heap M30 H locs → lv_has ls 5 [(0, .ref (A m_o)), (1, .int a1), (2, .int a2), (3, .int a3)] → J28 M30 = some y → W p l e (headSpec wsX11_cached ({ frames := 3, cells := 0, slots := 0, locals := 68 } : Room)).room s m args below meth c H locs 0 0 (MQ below (mQl D dA A y) args s 0 0 (gA mLive A)) (F0 m 28 ls [.ref (A m_o)]) := by
    intro M30 H locs ls Z hl h
    rw [eJ28] at h
    try dsimp only at h
    refine lv_iconst (v := (1 : Int32)) hx hb dX11_cached_28 (by decide) ?_
    exact hJ29 (1 : Int32) M30 _ _ _ Z (lv_sub hl [0, 1, 2, 3] rfl) h
  refine lv_if_eq (tgt := 28) hx hb dX11_cached_5 (by decide) (fun c31 => ?_) (fun c31 => ?_)
  · have h := if_t c31 h
    exact hJ28 M _ _ _ Z (lv_sub hl [0, 1, 2, 3] rfl) h
  · have h := if_f c31 h
    refine lv_iload_n hx hb dX11_cached_8 rfl (lv_at hl 2 rfl) ?_
    obtain ⟨v33, hc32, h⟩ := o1_e h
    refine g_Si (As := [.int a2]) (rest := [.ref (A m_o)]) S X Z (t_X11_isObject l D dA A hJ  hc32) (va_cwS 1 hts gX11_cached_X11_isObject rfl rfl rfl (by decide +kernel) ⟨Nat.le_of_ble_eq_true rfl, Nat.le_of_ble_eq_true rfl⟩) rfl hl.1 rfl (Nat.le_of_ble_eq_true rfl) dX11_cached_9 ⟨Nat.zero_le _, Nat.zero_le _⟩ (fun H locs Z => ?_)
    refine lv_if_eq (tgt := 28) hx hb dX11_cached_12 (by decide) (fun c34 => ?_) (fun c34 => ?_)
    · have h := if_t c34 h
      exact hJ28 M _ _ _ Z (lv_sub hl [0, 1, 2, 3] rfl) h
    · have h := if_f c34 h
      refine lv_iload_n hx hb dX11_cached_15 rfl (lv_at hl 3 rfl) ?_
      refine lv_iconst (v := (0 : Int32)) hx hb dX11_cached_16 (by decide) ?_
      refine lv_iconst (v := (4 : Int32)) hx hb dX11_cached_17 (by decide) ?_
      obtain ⟨v36, hc35, h⟩ := o1_e h
      refine g_Si (As := [.int a3, .int (0 : Int32), .int (4 : Int32)]) (rest := [.ref (A m_o)]) S X Z (t_X11_in l D dA A hJ  hc35) (va_cwS 3 hts gX11_cached_X11_in rfl rfl rfl (by decide +kernel) ⟨Nat.le_of_ble_eq_true rfl, Nat.le_of_ble_eq_true rfl⟩) rfl hl.1 rfl (Nat.le_of_ble_eq_true rfl) dX11_cached_18 ⟨Nat.zero_le _, Nat.zero_le _⟩ (fun H locs Z => ?_)
      refine lv_if_eq (tgt := 28) hx hb dX11_cached_21 (by decide) (fun c37 => ?_) (fun c37 => ?_)
      · have h := if_t c37 h
        exact hJ28 M _ _ _ Z (lv_sub hl [0, 1, 2, 3] rfl) h
      · have h := if_f c37 h
        refine lv_iconst (v := (0 : Int32)) hx hb dX11_cached_24 (by decide) ?_
        refine lv_goto (tgt := 29) hx hb dX11_cached_25 (by decide) ?_
        exact hJ29 (0 : Int32) M _ _ _ Z (lv_sub hl [0, 1, 2, 3] rfl) h
