-- X11_remove (III)J: 175 instructions
theorem dX11_remove_0 : decode cX11_remove 0 = .ok (.aload_n 0, 1) := by decide +kernel
theorem dX11_remove_1 : decode cX11_remove 1 = .ok (.iload_n 1, 1) := by decide +kernel
theorem dX11_remove_2 : decode cX11_remove 2 = .ok (.invokestatic 191, 3) := by decide +kernel
theorem dX11_remove_5 : decode cX11_remove 5 = .ok (.ifCond .eq 17, 3) := by decide +kernel
theorem dX11_remove_8 : decode cX11_remove 8 = .ok (.iload_n 2, 1) := by decide +kernel
theorem dX11_remove_9 : decode cX11_remove 9 = .ok (.invokestatic 194, 3) := by decide +kernel
theorem dX11_remove_12 : decode cX11_remove 12 = .ok (.ifCond .eq 10, 3) := by decide +kernel
theorem dX11_remove_15 : decode cX11_remove 15 = .ok (.iload_n 3, 1) := by decide +kernel
theorem dX11_remove_16 : decode cX11_remove 16 = .ok (.invokestatic 194, 3) := by decide +kernel
theorem dX11_remove_19 : decode cX11_remove 19 = .ok (.ifCond .ne 7, 3) := by decide +kernel
theorem dX11_remove_22 : decode cX11_remove 22 = .ok (.iconst 1, 1) := by decide +kernel
theorem dX11_remove_23 : decode cX11_remove 23 = .ok (.goto 4, 3) := by decide +kernel
theorem dX11_remove_26 : decode cX11_remove 26 = .ok (.iconst 0, 1) := by decide +kernel
theorem dX11_remove_27 : decode cX11_remove 27 = .ok (.putfield 165, 3) := by decide +kernel
theorem dX11_remove_30 : decode cX11_remove 30 = .ok (.aload_n 0, 1) := by decide +kernel
theorem dX11_remove_31 : decode cX11_remove 31 = .ok (.getfield 165, 3) := by decide +kernel
theorem dX11_remove_34 : decode cX11_remove 34 = .ok (.ifCond .le 5, 3) := by decide +kernel
theorem dX11_remove_37 : decode cX11_remove 37 = .ok (.lconst 0, 1) := by decide +kernel
theorem dX11_remove_38 : decode cX11_remove 38 = .ok (.lreturn, 1) := by decide +kernel
theorem dX11_remove_39 : decode cX11_remove 39 = .ok (.aload_n 0, 1) := by decide +kernel
theorem dX11_remove_40 : decode cX11_remove 40 = .ok (.iload_n 2, 1) := by decide +kernel
theorem dX11_remove_41 : decode cX11_remove 41 = .ok (.iconst 1, 1) := by decide +kernel
theorem dX11_remove_42 : decode cX11_remove 42 = .ok (.invokevirtual 278, 3) := by decide +kernel
theorem dX11_remove_45 : decode cX11_remove 45 = .ok (.lstore 4, 2) := by decide +kernel
theorem dX11_remove_47 : decode cX11_remove 47 = .ok (.lload 4, 2) := by decide +kernel
theorem dX11_remove_49 : decode cX11_remove 49 = .ok (.lconst 0, 1) := by decide +kernel
theorem dX11_remove_50 : decode cX11_remove 50 = .ok (.lcmp, 1) := by decide +kernel
theorem dX11_remove_51 : decode cX11_remove 51 = .ok (.ifCond .eq 6, 3) := by decide +kernel
theorem dX11_remove_54 : decode cX11_remove 54 = .ok (.lload 4, 2) := by decide +kernel
theorem dX11_remove_56 : decode cX11_remove 56 = .ok (.lreturn, 1) := by decide +kernel
theorem dX11_remove_57 : decode cX11_remove 57 = .ok (.aload_n 0, 1) := by decide +kernel
theorem dX11_remove_58 : decode cX11_remove 58 = .ok (.dup, 1) := by decide +kernel
theorem dX11_remove_59 : decode cX11_remove 59 = .ok (.getfield 211, 3) := by decide +kernel
theorem dX11_remove_62 : decode cX11_remove 62 = .ok (.iconst 1, 1) := by decide +kernel
theorem dX11_remove_63 : decode cX11_remove 63 = .ok (.iadd, 1) := by decide +kernel
theorem dX11_remove_64 : decode cX11_remove 64 = .ok (.putfield 211, 3) := by decide +kernel
theorem dX11_remove_67 : decode cX11_remove 67 = .ok (.aload_n 0, 1) := by decide +kernel
theorem dX11_remove_68 : decode cX11_remove 68 = .ok (.iload_n 1, 1) := by decide +kernel
theorem dX11_remove_69 : decode cX11_remove 69 = .ok (.invokevirtual 238, 3) := by decide +kernel
theorem dX11_remove_72 : decode cX11_remove 72 = .ok (.istore 6, 2) := by decide +kernel
theorem dX11_remove_74 : decode cX11_remove 74 = .ok (.aload_n 0, 1) := by decide +kernel
theorem dX11_remove_75 : decode cX11_remove 75 = .ok (.iload_n 1, 1) := by decide +kernel
theorem dX11_remove_76 : decode cX11_remove 76 = .ok (.iload_n 2, 1) := by decide +kernel
theorem dX11_remove_77 : decode cX11_remove 77 = .ok (.bipush 10, 2) := by decide +kernel
theorem dX11_remove_79 : decode cX11_remove 79 = .ok (.invokevirtual 282, 3) := by decide +kernel
theorem dX11_remove_82 : decode cX11_remove 82 = .ok (.lstore 7, 2) := by decide +kernel
theorem dX11_remove_84 : decode cX11_remove 84 = .ok (.lload 7, 2) := by decide +kernel
theorem dX11_remove_86 : decode cX11_remove 86 = .ok (.lconst 0, 1) := by decide +kernel
theorem dX11_remove_87 : decode cX11_remove 87 = .ok (.lcmp, 1) := by decide +kernel
theorem dX11_remove_88 : decode cX11_remove 88 = .ok (.ifCond .eq 6, 3) := by decide +kernel
theorem dX11_remove_91 : decode cX11_remove 91 = .ok (.lload 7, 2) := by decide +kernel
theorem dX11_remove_93 : decode cX11_remove 93 = .ok (.lreturn, 1) := by decide +kernel
theorem dX11_remove_94 : decode cX11_remove 94 = .ok (.aload_n 0, 1) := by decide +kernel
theorem dX11_remove_95 : decode cX11_remove 95 = .ok (.aload_n 0, 1) := by decide +kernel
theorem dX11_remove_96 : decode cX11_remove 96 = .ok (.getfield 116, 3) := by decide +kernel
theorem dX11_remove_99 : decode cX11_remove 99 = .ok (.iconst 0, 1) := by decide +kernel
theorem dX11_remove_100 : decode cX11_remove 100 = .ok (.aload_n 0, 1) := by decide +kernel
theorem dX11_remove_101 : decode cX11_remove 101 = .ok (.getfield 122, 3) := by decide +kernel
theorem dX11_remove_104 : decode cX11_remove 104 = .ok (.iconst 0, 1) := by decide +kernel
theorem dX11_remove_105 : decode cX11_remove 105 = .ok (.invokevirtual 234, 3) := by decide +kernel
theorem dX11_remove_108 : decode cX11_remove 108 = .ok (.aload_n 0, 1) := by decide +kernel
theorem dX11_remove_109 : decode cX11_remove 109 = .ok (.getfield 119, 3) := by decide +kernel
theorem dX11_remove_112 : decode cX11_remove 112 = .ok (.iload_n 3, 1) := by decide +kernel
theorem dX11_remove_113 : decode cX11_remove 113 = .ok (.iaload, 1) := by decide +kernel
theorem dX11_remove_114 : decode cX11_remove 114 = .ok (.iconst 1, 1) := by decide +kernel
theorem dX11_remove_115 : decode cX11_remove 115 = .ok (.if_icmp .eq 7, 3) := by decide +kernel
theorem dX11_remove_118 : decode cX11_remove 118 = .ok (.ldc2_w 172, 3) := by decide +kernel
theorem dX11_remove_121 : decode cX11_remove 121 = .ok (.lreturn, 1) := by decide +kernel
theorem dX11_remove_122 : decode cX11_remove 122 = .ok (.aload_n 0, 1) := by decide +kernel
theorem dX11_remove_123 : decode cX11_remove 123 = .ok (.iload_n 1, 1) := by decide +kernel
theorem dX11_remove_124 : decode cX11_remove 124 = .ok (.iload_n 3, 1) := by decide +kernel
theorem dX11_remove_125 : decode cX11_remove 125 = .ok (.bipush 10, 2) := by decide +kernel
theorem dX11_remove_127 : decode cX11_remove 127 = .ok (.invokevirtual 282, 3) := by decide +kernel
theorem dX11_remove_130 : decode cX11_remove 130 = .ok (.lstore 7, 2) := by decide +kernel
theorem dX11_remove_132 : decode cX11_remove 132 = .ok (.lload 7, 2) := by decide +kernel
theorem dX11_remove_134 : decode cX11_remove 134 = .ok (.lconst 0, 1) := by decide +kernel
theorem dX11_remove_135 : decode cX11_remove 135 = .ok (.lcmp, 1) := by decide +kernel
theorem dX11_remove_136 : decode cX11_remove 136 = .ok (.ifCond .eq 6, 3) := by decide +kernel
theorem dX11_remove_139 : decode cX11_remove 139 = .ok (.lload 7, 2) := by decide +kernel
theorem dX11_remove_141 : decode cX11_remove 141 = .ok (.lreturn, 1) := by decide +kernel
theorem dX11_remove_142 : decode cX11_remove 142 = .ok (.iconst 1, 1) := by decide +kernel
theorem dX11_remove_143 : decode cX11_remove 143 = .ok (.istore 9, 2) := by decide +kernel
theorem dX11_remove_145 : decode cX11_remove 145 = .ok (.iload 9, 2) := by decide +kernel
theorem dX11_remove_147 : decode cX11_remove 147 = .ok (.aload_n 0, 1) := by decide +kernel
theorem dX11_remove_148 : decode cX11_remove 148 = .ok (.getfield 162, 3) := by decide +kernel
theorem dX11_remove_151 : decode cX11_remove 151 = .ok (.if_icmp .ge 24, 3) := by decide +kernel
theorem dX11_remove_154 : decode cX11_remove 154 = .ok (.aload_n 0, 1) := by decide +kernel
theorem dX11_remove_155 : decode cX11_remove 155 = .ok (.getfield 119, 3) := by decide +kernel
theorem dX11_remove_158 : decode cX11_remove 158 = .ok (.iload 9, 2) := by decide +kernel
theorem dX11_remove_160 : decode cX11_remove 160 = .ok (.iaload, 1) := by decide +kernel
theorem dX11_remove_161 : decode cX11_remove 161 = .ok (.iconst 1, 1) := by decide +kernel
theorem dX11_remove_162 : decode cX11_remove 162 = .ok (.if_icmp .ne 7, 3) := by decide +kernel
theorem dX11_remove_165 : decode cX11_remove 165 = .ok (.ldc2_w 336, 3) := by decide +kernel
theorem dX11_remove_168 : decode cX11_remove 168 = .ok (.lreturn, 1) := by decide +kernel
theorem dX11_remove_169 : decode cX11_remove 169 = .ok (.iinc 9 1, 3) := by decide +kernel
theorem dX11_remove_172 : decode cX11_remove 172 = .ok (.goto (-27), 3) := by decide +kernel
theorem dX11_remove_175 : decode cX11_remove 175 = .ok (.iload 6, 2) := by decide +kernel
theorem dX11_remove_177 : decode cX11_remove 177 = .ok (.ifCond .eq 11, 3) := by decide +kernel
theorem dX11_remove_180 : decode cX11_remove 180 = .ok (.aload_n 0, 1) := by decide +kernel
theorem dX11_remove_181 : decode cX11_remove 181 = .ok (.iload_n 1, 1) := by decide +kernel
theorem dX11_remove_182 : decode cX11_remove 182 = .ok (.iload_n 2, 1) := by decide +kernel
theorem dX11_remove_183 : decode cX11_remove 183 = .ok (.iload_n 3, 1) := by decide +kernel
theorem dX11_remove_184 : decode cX11_remove 184 = .ok (.invokevirtual 352, 3) := by decide +kernel
theorem dX11_remove_187 : decode cX11_remove 187 = .ok (.lreturn, 1) := by decide +kernel
theorem dX11_remove_188 : decode cX11_remove 188 = .ok (.aload_n 0, 1) := by decide +kernel
theorem dX11_remove_189 : decode cX11_remove 189 = .ok (.aload_n 0, 1) := by decide +kernel
theorem dX11_remove_190 : decode cX11_remove 190 = .ok (.aload_n 0, 1) := by decide +kernel
theorem dX11_remove_191 : decode cX11_remove 191 = .ok (.iload_n 1, 1) := by decide +kernel
theorem dX11_remove_192 : decode cX11_remove 192 = .ok (.invokevirtual 180, 3) := by decide +kernel
theorem dX11_remove_195 : decode cX11_remove 195 = .ok (.iload_n 2, 1) := by decide +kernel
theorem dX11_remove_196 : decode cX11_remove 196 = .ok (.aload_n 0, 1) := by decide +kernel
theorem dX11_remove_197 : decode cX11_remove 197 = .ok (.getfield 122, 3) := by decide +kernel
theorem dX11_remove_200 : decode cX11_remove 200 = .ok (.invokevirtual 323, 3) := by decide +kernel
theorem dX11_remove_203 : decode cX11_remove 203 = .ok (.putfield 289, 3) := by decide +kernel
theorem dX11_remove_206 : decode cX11_remove 206 = .ok (.aload_n 0, 1) := by decide +kernel
theorem dX11_remove_207 : decode cX11_remove 207 = .ok (.aload_n 0, 1) := by decide +kernel
theorem dX11_remove_208 : decode cX11_remove 208 = .ok (.getfield 116, 3) := by decide +kernel
theorem dX11_remove_211 : decode cX11_remove 211 = .ok (.iconst 0, 1) := by decide +kernel
theorem dX11_remove_212 : decode cX11_remove 212 = .ok (.aload_n 0, 1) := by decide +kernel
theorem dX11_remove_213 : decode cX11_remove 213 = .ok (.getfield 125, 3) := by decide +kernel
theorem dX11_remove_216 : decode cX11_remove 216 = .ok (.iconst 0, 1) := by decide +kernel
theorem dX11_remove_217 : decode cX11_remove 217 = .ok (.invokevirtual 234, 3) := by decide +kernel
theorem dX11_remove_220 : decode cX11_remove 220 = .ok (.aload_n 0, 1) := by decide +kernel
theorem dX11_remove_221 : decode cX11_remove 221 = .ok (.iload_n 2, 1) := by decide +kernel
theorem dX11_remove_222 : decode cX11_remove 222 = .ok (.iload_n 3, 1) := by decide +kernel
theorem dX11_remove_223 : decode cX11_remove 223 = .ok (.invokevirtual 355, 3) := by decide +kernel
theorem dX11_remove_226 : decode cX11_remove 226 = .ok (.aload_n 0, 1) := by decide +kernel
theorem dX11_remove_227 : decode cX11_remove 227 = .ok (.getfield 65, 3) := by decide +kernel
theorem dX11_remove_230 : decode cX11_remove 230 = .ok (.bipush 48, 2) := by decide +kernel
theorem dX11_remove_232 : decode cX11_remove 232 = .ok (.iload_n 1, 1) := by decide +kernel
theorem dX11_remove_233 : decode cX11_remove 233 = .ok (.imul, 1) := by decide +kernel
theorem dX11_remove_234 : decode cX11_remove 234 = .ok (.iload_n 2, 1) := by decide +kernel
theorem dX11_remove_235 : decode cX11_remove 235 = .ok (.iadd, 1) := by decide +kernel
theorem dX11_remove_236 : decode cX11_remove 236 = .ok (.baload, 1) := by decide +kernel
theorem dX11_remove_237 : decode cX11_remove 237 = .ok (.ifCond .eq 34, 3) := by decide +kernel
theorem dX11_remove_240 : decode cX11_remove 240 = .ok (.aload_n 0, 1) := by decide +kernel
theorem dX11_remove_241 : decode cX11_remove 241 = .ok (.getfield 89, 3) := by decide +kernel
theorem dX11_remove_244 : decode cX11_remove 244 = .ok (.bipush 48, 2) := by decide +kernel
theorem dX11_remove_246 : decode cX11_remove 246 = .ok (.iload_n 1, 1) := by decide +kernel
theorem dX11_remove_247 : decode cX11_remove 247 = .ok (.imul, 1) := by decide +kernel
theorem dX11_remove_248 : decode cX11_remove 248 = .ok (.iload_n 3, 1) := by decide +kernel
theorem dX11_remove_249 : decode cX11_remove 249 = .ok (.iadd, 1) := by decide +kernel
theorem dX11_remove_250 : decode cX11_remove 250 = .ok (.iconst 2, 1) := by decide +kernel
theorem dX11_remove_251 : decode cX11_remove 251 = .ok (.iastore, 1) := by decide +kernel
theorem dX11_remove_252 : decode cX11_remove 252 = .ok (.aload_n 0, 1) := by decide +kernel
theorem dX11_remove_253 : decode cX11_remove 253 = .ok (.aload_n 0, 1) := by decide +kernel
theorem dX11_remove_254 : decode cX11_remove 254 = .ok (.getfield 125, 3) := by decide +kernel
theorem dX11_remove_257 : decode cX11_remove 257 = .ok (.iconst 0, 1) := by decide +kernel
theorem dX11_remove_258 : decode cX11_remove 258 = .ok (.aload_n 0, 1) := by decide +kernel
theorem dX11_remove_259 : decode cX11_remove 259 = .ok (.getfield 92, 3) := by decide +kernel
theorem dX11_remove_262 : decode cX11_remove 262 = .ok (.bipush 48, 2) := by decide +kernel
theorem dX11_remove_264 : decode cX11_remove 264 = .ok (.iload_n 1, 1) := by decide +kernel
theorem dX11_remove_265 : decode cX11_remove 265 = .ok (.imul, 1) := by decide +kernel
theorem dX11_remove_266 : decode cX11_remove 266 = .ok (.iload_n 3, 1) := by decide +kernel
theorem dX11_remove_267 : decode cX11_remove 267 = .ok (.iadd, 1) := by decide +kernel
theorem dX11_remove_268 : decode cX11_remove 268 = .ok (.invokevirtual 234, 3) := by decide +kernel
theorem dX11_remove_271 : decode cX11_remove 271 = .ok (.aload_n 0, 1) := by decide +kernel
theorem dX11_remove_272 : decode cX11_remove 272 = .ok (.iload_n 1, 1) := by decide +kernel
theorem dX11_remove_273 : decode cX11_remove 273 = .ok (.iload_n 2, 1) := by decide +kernel
theorem dX11_remove_274 : decode cX11_remove 274 = .ok (.invokevirtual 330, 3) := by decide +kernel
theorem dX11_remove_277 : decode cX11_remove 277 = .ok (.aload_n 0, 1) := by decide +kernel
theorem dX11_remove_278 : decode cX11_remove 278 = .ok (.iload_n 1, 1) := by decide +kernel
theorem dX11_remove_279 : decode cX11_remove 279 = .ok (.iload_n 3, 1) := by decide +kernel
theorem dX11_remove_280 : decode cX11_remove 280 = .ok (.invokevirtual 224, 3) := by decide +kernel
theorem dX11_remove_283 : decode cX11_remove 283 = .ok (.aload_n 0, 1) := by decide +kernel
theorem dX11_remove_284 : decode cX11_remove 284 = .ok (.iload_n 3, 1) := by decide +kernel
theorem dX11_remove_285 : decode cX11_remove 285 = .ok (.aload_n 0, 1) := by decide +kernel
theorem dX11_remove_286 : decode cX11_remove 286 = .ok (.getfield 289, 3) := by decide +kernel
theorem dX11_remove_289 : decode cX11_remove 289 = .ok (.iconst (-1), 1) := by decide +kernel
theorem dX11_remove_290 : decode cX11_remove 290 = .ok (.invokevirtual 315, 3) := by decide +kernel
theorem dX11_remove_293 : decode cX11_remove 293 = .ok (.aload_n 0, 1) := by decide +kernel
theorem dX11_remove_294 : decode cX11_remove 294 = .ok (.getfield 289, 3) := by decide +kernel
theorem dX11_remove_297 : decode cX11_remove 297 = .ok (.invokestatic 333, 3) := by decide +kernel
theorem dX11_remove_300 : decode cX11_remove 300 = .ok (.i2l, 1) := by decide +kernel
theorem dX11_remove_301 : decode cX11_remove 301 = .ok (.lreturn, 1) := by decide +kernel
abbrev wmX11_remove : List Cond := .code yX11_remove cX11_remove 10 (some .long) :: mBig
def f_X11_remove_L145 (a1 : Int32) (a2 : Int32) (a3 : Int32) (v14 : Int32) (J175 : gM → Option (Int64 × gM)) : Nat → Int32 → gM → Option (Int64 × gM)
  | 0, _, _ => none
  | n59 + 1, x57, M58 => lt (M58 m_o 6) (fun v60 => (if v60 ≤ x57 then J175 M58 else rd M58 m_gotEntry 48 x57 (fun v62 => (if v62 = (1 : Int32) then some ((-2199023255557 : Int64), M58) else lt (x57 + 1) (fun x64 => f_X11_remove_L145 a1 a2 a3 v14 J175 n59 x64 M58)))))
def f_X11_remove (M : gM) (a1 : Int32) (a2 : Int32) (a3 : Int32) : Option (Int64 × gM) :=
  o1 (f_X11_isClient M a1) (fun v2 => jn (fun (q : (Int32 × gM)) => match q with | (b3, M4) => lt (gset M4 m_o 66 b3) (fun M5 => lt (M5 m_o 66) (fun v6 => (if v6 ≤ 0 then o1 (f_X11_kindOf M5 a2 (1 : Int32)) (fun v9 => (if (lg_cmp v9 (0 : Int64)) = 0 then lt (M5 m_o 33) (fun v11 => lt (gset M5 m_o 33 (v11 + (1 : Int32))) (fun M12 => o1 (f_X11_isAlone M12 a1) (fun v14 => ob (f_X11_get M12 a1 a2 (10 : Int32)) (fun v17 M16 => (if (lg_cmp v17 (0 : Int64)) = 0 then o1 (f_X11_copyTo M16 m_gotVector (0 : Int32) m_directoryVector (0 : Int32)) (fun M20 => rd M20 m_gotEntry 48 a3 (fun v21 => (if v21 = (1 : Int32) then ob (f_X11_get M20 a1 a3 (10 : Int32)) (fun v25 M24 => (if (lg_cmp v25 (0 : Int64)) = 0 then jn (fun (M27 : gM) => (if v14 = 0 then o1 (f_X11_nearSet M27 a1) (fun v30 => o1 (f_X11_setOf M27 v30 a2 m_directoryVector) (fun v32 => lt (gset M27 m_o 51 v32) (fun M33 => o1 (f_X11_copyTo M33 m_gotVector (0 : Int32) m_row (0 : Int32)) (fun M35 => o1 (f_X11_putGone M35 a2 a3) (fun M37 => rd M37 m_kept 192 (((48 : Int32) * a1) + a2) (fun v38 => jn (fun (M39 : gM) => o1 (f_X11_follow M39 a1 a2) (fun M41 => o1 (f_X11_forget M41 a1 a3) (fun M43 => lt (M43 m_o 51) (fun v44 => o1 (f_X11_endPromises M43 a3 v44 (-1 : Int32)) (fun M46 => lt (M46 m_o 51) (fun v47 => o1 (f_X11_manyOf M46 v47) (fun v49 => some (v49.toInt64, M46)))))))) (fun J271 => (if v38 = 0 then J271 M37 else wr M37 m_keptEntry 192 (((48 : Int32) * a1) + a3) (2 : Int32) (fun M51 => o1 (f_X11_copyTo M51 m_row (0 : Int32) m_keptGone (((48 : Int32) * a1) + a3)) (fun M53 => J271 M53)))))))))) else ob (f_X11_removeAlone M27 a1 a2 a3) (fun v56 M55 => some (v56, M55)))) (fun J175 => f_X11_remove_L145 a1 a2 a3 v14 J175 100 (1 : Int32) M24) else some (v25, M24))) else some ((-2199023255552 : Int64), M20)))) else some (v17, M16)))))) else some (v9, M5))) else some ((0 : Int64), M5))))) (fun J27 => jn (fun (M65 : gM) => J27 ((1 : Int32), M65)) (fun J22 => (if v2 = 0 then J22 M else o1 (f_X11_isObject M a2) (fun v68 => (if v68 = 0 then J22 M else o1 (f_X11_isObject M a3) (fun v71 => (if v71 = 0 then J22 M else J27 ((0 : Int32), M)))))))))
set_option maxHeartbeats 4000000 in
set_option maxRecDepth 100000 in
theorem t_X11_remove (l : Launch) (D : va_G) (dA : Nat → ClassId) (A : gI → Nat) (hJ : gJ mLive A) {M : gM} {a1 : Int32} {a2 : Int32} {a3 : Int32}  {y : (Int64 × gM)} (h : f_X11_remove M a1 a2 a3 = some y) : mMl l yX11_remove wmX11_remove ({ frames := 5, cells := 0, slots := 0, locals := 129 } : Room) D dA A [.ref (A m_o), .int a1, .int a2, .int a3] M y.1 y.2 := by
  refine Met.ofW (cc := cX11_remove) (maxL := 10) (ret := (some .long)) (by decide) rfl ?_
  intro p e s m args below meth c s₁ B hml hv
  obtain ⟨rfl, hP, hK⟩ := hv
  generalize hargs : ([.ref (A m_o), .int a1, .int a2, .int a3] : List Value).toArray = args at B ⊢
  have S : CallFix p m c cX11_remove 10 s args wmX11_remove RX11 := ⟨B.exec, B.bytes, hml, findClass_of_methodNamed B.named, atoms_spec (ws := wmX11_remove) B.pre⟩
  obtain ⟨hx, hb, -, hown, hts⟩ := id S
  have hr := B.returns
  have hlocks := B.notSynchronized
  have X : gX D vwCl dA mLive A (gA mLive A) s := ⟨hK, hJ, fun i hi => ⟨i, hi, rfl⟩⟩
  have Z : gZ D mLay dA mLive A (gA mLive A) s.heap M s.heap [] := ⟨hP, va_S.rf⟩
  have hin : ∀ w ∈ wsX110, w ∈ wmX11_remove := m_in
  have hl_65 := hts (.fieldLink RX11 65 "ReplicaFilesModel" "kept" "[Z") (mBc 23 rfl)
  have hl_89 := hts (.fieldLink RX11 89 "ReplicaFilesModel" "keptEntry" "[I") (mBc 31 rfl)
  have hl_92 := hts (.fieldLink RX11 92 "ReplicaFilesModel" "keptGone" "[I") (mBc 32 rfl)
  have hl_116 := hts (.fieldLink RX11 116 "ReplicaFilesModel" "gotVector" "[I") (mBc 40 rfl)
  have hl_119 := hts (.fieldLink RX11 119 "ReplicaFilesModel" "gotEntry" "[I") (mBc 41 rfl)
  have hl_122 := hts (.fieldLink RX11 122 "ReplicaFilesModel" "directoryVector" "[I") (mBc 42 rfl)
  have hl_125 := hts (.fieldLink RX11 125 "ReplicaFilesModel" "row" "[I") (mBc 43 rfl)
  have hl_162 := hts (.fieldLink RX11 162 "ReplicaFilesModel" "made" "I") (mBc 55 rfl)
  have hl_165 := hts (.fieldLink RX11 165 "ReplicaFilesModel" "thrown" "I") (mBc 58 rfl)
  have hl_211 := hts (.fieldLink RX11 211 "ReplicaFilesModel" "call" "I") (mBc 119 rfl)
  have hl_289 := hts (.fieldLink RX11 289 "ReplicaFilesModel" "set" "I") (mBc 188 rfl)
  have hc_172 := hts (.constantLong RX11 172 (-2199023255552)) (mBc 67 rfl)
  have hc_336 := hts (.constantLong RX11 336 (-2199023255557)) (mBc 216 rfl)
  have hl := lv_entry ([.ref (A m_o), .int a1, .int a2, .int a3]) (n := 10) (Nat.le_of_ble_eq_true rfl)
  rw [← hargs, lg_entry_eq, hargs]
  generalize (lg_sl ([.ref (A m_o), .int a1, .int a2, .int a3]) ++ List.replicate (10 - (lg_sl ([.ref (A m_o), .int a1, .int a2, .int a3])).length) Slot.unset).toArray = ls at hl ⊢
  have hl : lv_has ls 10 [(0, .ref (A m_o)), (1, .int a1), (2, .int a2), (3, .int a3)] := hl
  unfold f_X11_remove at h
  refine lv_aload_n hx hb dX11_remove_0 rfl (lv_at hl 0 rfl) ?_
  refine lv_iload_n hx hb dX11_remove_1 rfl (lv_at hl 1 rfl) ?_
  obtain ⟨v2, hc1, h⟩ := o1_e h
  refine g_Si (As := [.int a1]) (rest := [.ref (A m_o)]) S X Z (t_X11_isClient l D dA A hJ  hc1) (va_cwS 1 hts (mGS (mB 91 rfl) (mB 92 rfl) (mB 63 rfl) (mB 64 rfl)) rfl rfl rfl (by decide +kernel) ⟨Nat.le_of_ble_eq_true rfl, Nat.le_of_ble_eq_true rfl⟩) rfl hl.1 rfl (Nat.le_of_ble_eq_true rfl) dX11_remove_2 ⟨Nat.zero_le _, Nat.zero_le _⟩ (fun H locs Z => ?_)
  obtain ⟨J27, eJ27, h⟩ := jn_e h
  have hJ27 : ∀ (b3 : Int32) (M4 : gM) (H : Heap) (locs : List Loc) (ls : Array Slot), gZ D mLay dA mLive A (gA mLive A) s.heap M4 H locs → lv_has ls 10 [(0, .ref (A m_o)), (1, .int a1), (2, .int a2), (3, .int a3)] → J27 (b3, M4) = some y → W p l e (headSpec wmX11_remove ({ frames := 5, cells := 0, slots := 0, locals := 129 } : Room)).room s m args below meth c H locs 0 0 (MQ below (mQl D dA A y) args s 0 0 (gA mLive A)) (F0 m 27 ls [.int b3, .ref (A m_o)]) := by
    intro b3 M4 H locs ls Z hl h
    rw [eJ27] at h
    try dsimp only at h
    refine mp_thrown S X Z hin hl_165 dX11_remove_27 h (fun M5 H locs Z h => ?_)
    refine lv_aload_n hx hb dX11_remove_30 rfl (lv_at hl 0 rfl) ?_
    refine mr_thrown S X Z hin hl_165 dX11_remove_31 h (fun v6 h => ?_)
    refine lv_if_le (tgt := 39) hx hb dX11_remove_34 (by decide) (fun c7 => ?_) (fun c7 => ?_)
    · have h := if_t c7 h
      refine lv_aload_n hx hb dX11_remove_39 rfl (lv_at hl 0 rfl) ?_
      refine lv_iload_n hx hb dX11_remove_40 rfl (lv_at hl 2 rfl) ?_
      refine lv_iconst (v := (1 : Int32)) hx hb dX11_remove_41 (by decide) ?_
      obtain ⟨v9, hc8, h⟩ := o1_e h
      refine g_Vl (As := [.int a2, .int (1 : Int32)]) (rest := []) S X Z mlv_o rfl rfl (t_X11_kindOf l D dA A hJ  hc8) (cwV 2 hts (mGV (mB 177 rfl) (mB 178 rfl) (mB 179 rfl) (mB 63 rfl) (mB 66 rfl)) rfl rfl rfl (by decide +kernel) ⟨Nat.le_of_ble_eq_true rfl, Nat.le_of_ble_eq_true rfl⟩) rfl hl.1 rfl (Nat.le_of_ble_eq_true rfl) dX11_remove_42 ⟨Nat.zero_le _, Nat.zero_le _⟩ (fun H locs Z => ?_)
      refine lv_lstore (lv' := [(4, .long v9), (0, .ref (A m_o)), (1, .int a1), (2, .int a2), (3, .int a3)]) hx hb dX11_remove_45 hl (by decide) rfl (fun ls hl => ?_)
      refine lv_lload hx hb dX11_remove_47 (lv_at hl 0 rfl) ?_
      refine lv_lconst (v := (0 : Int64)) hx hb dX11_remove_49 (by decide) ?_
      refine W.lcmp hx hb dX11_remove_50 ?_
      refine lv_if_eq (tgt := 57) hx hb dX11_remove_51 (by decide) (fun c10 => ?_) (fun c10 => ?_)
      · have h := if_t c10 h
        refine lv_aload_n hx hb dX11_remove_57 rfl (lv_at hl 1 rfl) ?_
        refine lv_dup hx hb dX11_remove_58 rfl ?_
        refine mr_call S X Z hin hl_211 dX11_remove_59 h (fun v11 h => ?_)
        refine lv_iconst (v := (1 : Int32)) hx hb dX11_remove_62 (by decide) ?_
        refine lv_iadd hx hb dX11_remove_63 ?_
        refine mp_call S X Z hin hl_211 dX11_remove_64 h (fun M12 H locs Z h => ?_)
        refine lv_aload_n hx hb dX11_remove_67 rfl (lv_at hl 1 rfl) ?_
        refine lv_iload_n hx hb dX11_remove_68 rfl (lv_at hl 2 rfl) ?_
        obtain ⟨v14, hc13, h⟩ := o1_e h
        refine g_Vi (As := [.int a1]) (rest := []) S X Z mlv_o rfl rfl (t_X11_isAlone l D dA A hJ  hc13) (cwV 1 hts (mGV (mB 161 rfl) (mB 162 rfl) (mB 163 rfl) (mB 63 rfl) (mB 74 rfl)) rfl rfl rfl (by decide +kernel) ⟨Nat.le_of_ble_eq_true rfl, Nat.le_of_ble_eq_true rfl⟩) rfl hl.1 rfl (Nat.le_of_ble_eq_true rfl) dX11_remove_69 ⟨Nat.zero_le _, Nat.zero_le _⟩ (fun H locs Z => ?_)
        refine lv_istore (lv' := [(6, .int v14), (4, .long v9), (0, .ref (A m_o)), (1, .int a1), (2, .int a2), (3, .int a3)]) hx hb dX11_remove_72 hl (by decide) rfl (fun ls hl => ?_)
        refine lv_aload_n hx hb dX11_remove_74 rfl (lv_at hl 2 rfl) ?_
        refine lv_iload_n hx hb dX11_remove_75 rfl (lv_at hl 3 rfl) ?_
        refine lv_iload_n hx hb dX11_remove_76 rfl (lv_at hl 4 rfl) ?_
        refine lv_bipush (v := (10 : Int32)) hx hb dX11_remove_77 (by decide) ?_
        obtain ⟨v17, M16, hc15, h⟩ := ob_e h
        refine g_Vl (As := [.int a1, .int a2, .int (10 : Int32)]) (rest := []) S X Z mlv_o rfl rfl (t_X11_get l D dA A hJ  hc15) (cwV 3 hts (mGV (mB 180 rfl) (mB 181 rfl) (mB 182 rfl) (mB 63 rfl) (mB 176 rfl)) rfl rfl rfl (by decide +kernel) ⟨Nat.le_of_ble_eq_true rfl, Nat.le_of_ble_eq_true rfl⟩) rfl hl.1 rfl (Nat.le_of_ble_eq_true rfl) dX11_remove_79 ⟨Nat.zero_le _, Nat.zero_le _⟩ (fun H locs Z => ?_)
        refine lv_lstore (lv' := [(7, .long v17), (6, .int v14), (4, .long v9), (0, .ref (A m_o)), (1, .int a1), (2, .int a2), (3, .int a3)]) hx hb dX11_remove_82 hl (by decide) rfl (fun ls hl => ?_)
        refine lv_lload hx hb dX11_remove_84 (lv_at hl 0 rfl) ?_
        refine lv_lconst (v := (0 : Int64)) hx hb dX11_remove_86 (by decide) ?_
        refine W.lcmp hx hb dX11_remove_87 ?_
        refine lv_if_eq (tgt := 94) hx hb dX11_remove_88 (by decide) (fun c18 => ?_) (fun c18 => ?_)
        · have h := if_t c18 h
          refine lv_aload_n hx hb dX11_remove_94 rfl (lv_at hl 3 rfl) ?_
          refine lv_aload_n hx hb dX11_remove_95 rfl (lv_at hl 3 rfl) ?_
          refine mr_gotVector S X Z hin hl_116 dX11_remove_96 ?_
          refine lv_iconst (v := (0 : Int32)) hx hb dX11_remove_99 (by decide) ?_
          refine lv_aload_n hx hb dX11_remove_100 rfl (lv_at hl 3 rfl) ?_
          refine mr_directoryVector S X Z hin hl_122 dX11_remove_101 ?_
          refine lv_iconst (v := (0 : Int32)) hx hb dX11_remove_104 (by decide) ?_
          obtain ⟨M20, hc19, h⟩ := o1_e h
          refine g_Vv (As := [.ref (A m_gotVector), .int (0 : Int32), .ref (A m_directoryVector), .int (0 : Int32)]) (rest := []) S X Z mlv_o rfl rfl (t_X11_copyTo l D dA A hJ ⟨ml_gotVector, rfl⟩ ⟨ml_directoryVector, rfl⟩ hc19) (cwV 4 hts (mGV (mB 139 rfl) (mB 140 rfl) (mB 141 rfl) (mB 63 rfl) (mB 97 rfl)) rfl rfl rfl (by decide +kernel) ⟨Nat.le_of_ble_eq_true rfl, Nat.le_of_ble_eq_true rfl⟩) rfl hl.1 rfl (Nat.le_of_ble_eq_true rfl) dX11_remove_105 ⟨Nat.zero_le _, Nat.zero_le _⟩ (fun H locs Z => ?_)
          refine lv_aload_n hx hb dX11_remove_108 rfl (lv_at hl 3 rfl) ?_
          refine mr_gotEntry S X Z hin hl_119 dX11_remove_109 ?_
          refine lv_iload_n hx hb dX11_remove_112 rfl (lv_at hl 6 rfl) ?_
          refine g_iald S X Z ml_gotEntry rfl dX11_remove_113 h (fun v21 h => ?_)
          refine lv_iconst (v := (1 : Int32)) hx hb dX11_remove_114 (by decide) ?_
          refine lv_icmp_eq (tgt := 122) hx hb dX11_remove_115 (by decide) (fun c22 => ?_) (fun c22 => ?_)
          · have h := if_t c22 h
            refine lv_aload_n hx hb dX11_remove_122 rfl (lv_at hl 3 rfl) ?_
            refine lv_iload_n hx hb dX11_remove_123 rfl (lv_at hl 4 rfl) ?_
            refine lv_iload_n hx hb dX11_remove_124 rfl (lv_at hl 6 rfl) ?_
            refine lv_bipush (v := (10 : Int32)) hx hb dX11_remove_125 (by decide) ?_
            obtain ⟨v25, M24, hc23, h⟩ := ob_e h
            refine g_Vl (As := [.int a1, .int a3, .int (10 : Int32)]) (rest := []) S X Z mlv_o rfl rfl (t_X11_get l D dA A hJ  hc23) (cwV 3 hts (mGV (mB 180 rfl) (mB 181 rfl) (mB 182 rfl) (mB 63 rfl) (mB 176 rfl)) rfl rfl rfl (by decide +kernel) ⟨Nat.le_of_ble_eq_true rfl, Nat.le_of_ble_eq_true rfl⟩) rfl hl.1 rfl (Nat.le_of_ble_eq_true rfl) dX11_remove_127 ⟨Nat.zero_le _, Nat.zero_le _⟩ (fun H locs Z => ?_)
            refine lv_lstore (lv' := [(7, .long v25), (6, .int v14), (4, .long v9), (0, .ref (A m_o)), (1, .int a1), (2, .int a2), (3, .int a3)]) hx hb dX11_remove_130 hl (by decide) rfl (fun ls hl => ?_)
            refine lv_lload hx hb dX11_remove_132 (lv_at hl 0 rfl) ?_
            refine lv_lconst (v := (0 : Int64)) hx hb dX11_remove_134 (by decide) ?_
            refine W.lcmp hx hb dX11_remove_135 ?_
            refine lv_if_eq (tgt := 142) hx hb dX11_remove_136 (by decide) (fun c26 => ?_) (fun c26 => ?_)
            · have h := if_t c26 h
              refine lv_iconst (v := (1 : Int32)) hx hb dX11_remove_142 (by decide) ?_
              refine lv_istore (lv' := [(9, .int (1 : Int32)), (7, .long v25), (6, .int v14), (4, .long v9), (0, .ref (A m_o)), (1, .int a1), (2, .int a2), (3, .int a3)]) hx hb dX11_remove_143 hl (by decide) rfl (fun ls hl => ?_)
              obtain ⟨J175, eJ175, h⟩ := jn_e h
              have hJ175 : ∀ (M27 : gM) (H : Heap) (locs : List Loc) (ls : Array Slot), gZ D mLay dA mLive A (gA mLive A) s.heap M27 H locs → lv_has ls 10 [(0, .ref (A m_o)), (1, .int a1), (2, .int a2), (3, .int a3), (6, .int v14)] → J175 M27 = some y → W p l e (headSpec wmX11_remove ({ frames := 5, cells := 0, slots := 0, locals := 129 } : Room)).room s m args below meth c H locs 0 0 (MQ below (mQl D dA A y) args s 0 0 (gA mLive A)) (F0 m 175 ls []) := by
                intro M27 H locs ls Z hl h
                rw [eJ175] at h
                try dsimp only at h
                refine lv_iload hx hb dX11_remove_175 (lv_at hl 4 rfl) ?_
                refine lv_if_eq (tgt := 188) hx hb dX11_remove_177 (by decide) (fun c28 => ?_) (fun c28 => ?_)
                · have h := if_t c28 h
                  refine lv_aload_n hx hb dX11_remove_188 rfl (lv_at hl 0 rfl) ?_
                  refine lv_aload_n hx hb dX11_remove_189 rfl (lv_at hl 0 rfl) ?_
                  refine lv_aload_n hx hb dX11_remove_190 rfl (lv_at hl 0 rfl) ?_
                  refine lv_iload_n hx hb dX11_remove_191 rfl (lv_at hl 1 rfl) ?_
                  obtain ⟨v30, hc29, h⟩ := o1_e h
                  refine g_Vi (As := [.int a1]) (rest := [.ref (A m_o), .ref (A m_o)]) S X Z mlv_o rfl rfl (t_X11_nearSet l D dA A hJ  hc29) (cwV 1 hts (mGV (mB 75 rfl) (mB 76 rfl) (mB 77 rfl) (mB 63 rfl) (mB 70 rfl)) rfl rfl rfl (by decide +kernel) ⟨Nat.le_of_ble_eq_true rfl, Nat.le_of_ble_eq_true rfl⟩) rfl hl.1 rfl (Nat.le_of_ble_eq_true rfl) dX11_remove_192 ⟨Nat.zero_le _, Nat.zero_le _⟩ (fun H locs Z => ?_)
                  refine lv_iload_n hx hb dX11_remove_195 rfl (lv_at hl 2 rfl) ?_
                  refine lv_aload_n hx hb dX11_remove_196 rfl (lv_at hl 0 rfl) ?_
                  refine mr_directoryVector S X Z hin hl_122 dX11_remove_197 ?_
                  obtain ⟨v32, hc31, h⟩ := o1_e h
                  refine g_Vi (As := [.int v30, .int a2, .ref (A m_directoryVector)]) (rest := [.ref (A m_o)]) S X Z mlv_o rfl rfl (t_X11_setOf l D dA A hJ ⟨ml_directoryVector, rfl⟩ hc31) (cwV 3 hts (mGV (mB 228 rfl) (mB 229 rfl) (mB 230 rfl) (mB 63 rfl) (mB 185 rfl)) rfl rfl rfl (by decide +kernel) ⟨Nat.le_of_ble_eq_true rfl, Nat.le_of_ble_eq_true rfl⟩) rfl hl.1 rfl (Nat.le_of_ble_eq_true rfl) dX11_remove_200 ⟨Nat.zero_le _, Nat.zero_le _⟩ (fun H locs Z => ?_)
                  refine mp_set S X Z hin hl_289 dX11_remove_203 h (fun M33 H locs Z h => ?_)
                  refine lv_aload_n hx hb dX11_remove_206 rfl (lv_at hl 0 rfl) ?_
                  refine lv_aload_n hx hb dX11_remove_207 rfl (lv_at hl 0 rfl) ?_
                  refine mr_gotVector S X Z hin hl_116 dX11_remove_208 ?_
                  refine lv_iconst (v := (0 : Int32)) hx hb dX11_remove_211 (by decide) ?_
                  refine lv_aload_n hx hb dX11_remove_212 rfl (lv_at hl 0 rfl) ?_
                  refine mr_row S X Z hin hl_125 dX11_remove_213 ?_
                  refine lv_iconst (v := (0 : Int32)) hx hb dX11_remove_216 (by decide) ?_
                  obtain ⟨M35, hc34, h⟩ := o1_e h
                  refine g_Vv (As := [.ref (A m_gotVector), .int (0 : Int32), .ref (A m_row), .int (0 : Int32)]) (rest := []) S X Z mlv_o rfl rfl (t_X11_copyTo l D dA A hJ ⟨ml_gotVector, rfl⟩ ⟨ml_row, rfl⟩ hc34) (cwV 4 hts (mGV (mB 139 rfl) (mB 140 rfl) (mB 141 rfl) (mB 63 rfl) (mB 97 rfl)) rfl rfl rfl (by decide +kernel) ⟨Nat.le_of_ble_eq_true rfl, Nat.le_of_ble_eq_true rfl⟩) rfl hl.1 rfl (Nat.le_of_ble_eq_true rfl) dX11_remove_217 ⟨Nat.zero_le _, Nat.zero_le _⟩ (fun H locs Z => ?_)
                  refine lv_aload_n hx hb dX11_remove_220 rfl (lv_at hl 0 rfl) ?_
                  refine lv_iload_n hx hb dX11_remove_221 rfl (lv_at hl 2 rfl) ?_
                  refine lv_iload_n hx hb dX11_remove_222 rfl (lv_at hl 3 rfl) ?_
                  obtain ⟨M37, hc36, h⟩ := o1_e h
                  refine g_Vv (As := [.int a2, .int a3]) (rest := []) S X Z mlv_o rfl rfl (t_X11_putGone l D dA A hJ  hc36) (cwV 2 hts (mGV (mB 264 rfl) (mB 265 rfl) (mB 266 rfl) (mB 63 rfl) (mB 209 rfl)) rfl rfl rfl (by decide +kernel) ⟨Nat.le_of_ble_eq_true rfl, Nat.le_of_ble_eq_true rfl⟩) rfl hl.1 rfl (Nat.le_of_ble_eq_true rfl) dX11_remove_223 ⟨Nat.zero_le _, Nat.zero_le _⟩ (fun H locs Z => ?_)
                  refine lv_aload_n hx hb dX11_remove_226 rfl (lv_at hl 0 rfl) ?_
                  refine mr_kept S X Z hin hl_65 dX11_remove_227 ?_
                  refine lv_bipush (v := (48 : Int32)) hx hb dX11_remove_230 (by decide) ?_
                  refine lv_iload_n hx hb dX11_remove_232 rfl (lv_at hl 1 rfl) ?_
                  refine lv_imul hx hb dX11_remove_233 ?_
                  refine lv_iload_n hx hb dX11_remove_234 rfl (lv_at hl 2 rfl) ?_
                  refine lv_iadd hx hb dX11_remove_235 ?_
                  refine g_zald S X Z ml_kept rfl dX11_remove_236 h (fun v38 h => ?_)
                  obtain ⟨J271, eJ271, h⟩ := jn_e h
                  have hJ271 : ∀ (M39 : gM) (H : Heap) (locs : List Loc) (ls : Array Slot), gZ D mLay dA mLive A (gA mLive A) s.heap M39 H locs → lv_has ls 10 [(0, .ref (A m_o)), (1, .int a1), (2, .int a2), (3, .int a3)] → J271 M39 = some y → W p l e (headSpec wmX11_remove ({ frames := 5, cells := 0, slots := 0, locals := 129 } : Room)).room s m args below meth c H locs 0 0 (MQ below (mQl D dA A y) args s 0 0 (gA mLive A)) (F0 m 271 ls []) := by
                    intro M39 H locs ls Z hl h
                    rw [eJ271] at h
                    try dsimp only at h
                    refine lv_aload_n hx hb dX11_remove_271 rfl (lv_at hl 0 rfl) ?_
                    refine lv_iload_n hx hb dX11_remove_272 rfl (lv_at hl 1 rfl) ?_
                    refine lv_iload_n hx hb dX11_remove_273 rfl (lv_at hl 2 rfl) ?_
                    obtain ⟨M41, hc40, h⟩ := o1_e h
                    refine g_Vv (As := [.int a1, .int a2]) (rest := []) S X Z mlv_o rfl rfl (t_X11_follow l D dA A hJ  hc40) (cwV 2 hts (mGV (mB 234 rfl) (mB 235 rfl) (mB 236 rfl) (mB 63 rfl) (mB 210 rfl)) rfl rfl rfl (by decide +kernel) ⟨Nat.le_of_ble_eq_true rfl, Nat.le_of_ble_eq_true rfl⟩) rfl hl.1 rfl (Nat.le_of_ble_eq_true rfl) dX11_remove_274 ⟨Nat.zero_le _, Nat.zero_le _⟩ (fun H locs Z => ?_)
                    refine lv_aload_n hx hb dX11_remove_277 rfl (lv_at hl 0 rfl) ?_
                    refine lv_iload_n hx hb dX11_remove_278 rfl (lv_at hl 1 rfl) ?_
                    refine lv_iload_n hx hb dX11_remove_279 rfl (lv_at hl 3 rfl) ?_
                    obtain ⟨M43, hc42, h⟩ := o1_e h
                    refine g_Vv (As := [.int a1, .int a3]) (rest := []) S X Z mlv_o rfl rfl (t_X11_forget l D dA A hJ  hc42) (cwV 2 hts (mGV (mB 132 rfl) (mB 133 rfl) (mB 134 rfl) (mB 63 rfl) (mB 111 rfl)) rfl rfl rfl (by decide +kernel) ⟨Nat.le_of_ble_eq_true rfl, Nat.le_of_ble_eq_true rfl⟩) rfl hl.1 rfl (Nat.le_of_ble_eq_true rfl) dX11_remove_280 ⟨Nat.zero_le _, Nat.zero_le _⟩ (fun H locs Z => ?_)
                    refine lv_aload_n hx hb dX11_remove_283 rfl (lv_at hl 0 rfl) ?_
                    refine lv_iload_n hx hb dX11_remove_284 rfl (lv_at hl 3 rfl) ?_
                    refine lv_aload_n hx hb dX11_remove_285 rfl (lv_at hl 0 rfl) ?_
                    refine mr_set S X Z hin hl_289 dX11_remove_286 h (fun v44 h => ?_)
                    refine lv_iconst (v := (-1 : Int32)) hx hb dX11_remove_289 (by decide) ?_
                    obtain ⟨M46, hc45, h⟩ := o1_e h
                    refine g_Vv (As := [.int a3, .int v44, .int (-1 : Int32)]) (rest := []) S X Z mlv_o rfl rfl (t_X11_endPromises l D dA A hJ  hc45) (cwV 3 hts (mGV (mB 211 rfl) (mB 212 rfl) (mB 213 rfl) (mB 63 rfl) (mB 196 rfl)) rfl rfl rfl (by decide +kernel) ⟨Nat.le_of_ble_eq_true rfl, Nat.le_of_ble_eq_true rfl⟩) rfl hl.1 rfl (Nat.le_of_ble_eq_true rfl) dX11_remove_290 ⟨Nat.zero_le _, Nat.zero_le _⟩ (fun H locs Z => ?_)
                    refine lv_aload_n hx hb dX11_remove_293 rfl (lv_at hl 0 rfl) ?_
                    refine mr_set S X Z hin hl_289 dX11_remove_294 h (fun v47 h => ?_)
                    obtain ⟨v49, hc48, h⟩ := o1_e h
                    refine g_Si (As := [.int v47]) (rest := []) S X Z (t_X11_manyOf l D dA A hJ  hc48) (va_cwS 1 hts (mGS (mB 237 rfl) (mB 238 rfl) (mB 63 rfl) (mB 79 rfl)) rfl rfl rfl (by decide +kernel) ⟨Nat.le_of_ble_eq_true rfl, Nat.le_of_ble_eq_true rfl⟩) rfl hl.1 rfl (Nat.le_of_ble_eq_true rfl) dX11_remove_297 ⟨Nat.zero_le _, Nat.zero_le _⟩ (fun H locs Z => ?_)
                    refine lv_i2l hx hb dX11_remove_300 rfl ?_
                    have hy := Option.some.inj h
                    subst hy
                    exact g_rl S Z hr hlocks dX11_remove_301
                  refine lv_if_eq (tgt := 271) hx hb dX11_remove_237 (by decide) (fun c50 => ?_) (fun c50 => ?_)
                  · have h := if_t c50 h
                    exact hJ271 M37 _ _ _ Z (lv_sub hl [0, 1, 2, 3] rfl) h
                  · have h := if_f c50 h
                    refine lv_aload_n hx hb dX11_remove_240 rfl (lv_at hl 0 rfl) ?_
                    refine mr_keptEntry S X Z hin hl_89 dX11_remove_241 ?_
                    refine lv_bipush (v := (48 : Int32)) hx hb dX11_remove_244 (by decide) ?_
                    refine lv_iload_n hx hb dX11_remove_246 rfl (lv_at hl 1 rfl) ?_
                    refine lv_imul hx hb dX11_remove_247 ?_
                    refine lv_iload_n hx hb dX11_remove_248 rfl (lv_at hl 3 rfl) ?_
                    refine lv_iadd hx hb dX11_remove_249 ?_
                    refine lv_iconst (v := (2 : Int32)) hx hb dX11_remove_250 (by decide) ?_
                    refine g_iast S X Z ml_keptEntry rfl dX11_remove_251 h (fun M51 H locs Z h => ?_)
                    refine lv_aload_n hx hb dX11_remove_252 rfl (lv_at hl 0 rfl) ?_
                    refine lv_aload_n hx hb dX11_remove_253 rfl (lv_at hl 0 rfl) ?_
                    refine mr_row S X Z hin hl_125 dX11_remove_254 ?_
                    refine lv_iconst (v := (0 : Int32)) hx hb dX11_remove_257 (by decide) ?_
                    refine lv_aload_n hx hb dX11_remove_258 rfl (lv_at hl 0 rfl) ?_
                    refine mr_keptGone S X Z hin hl_92 dX11_remove_259 ?_
                    refine lv_bipush (v := (48 : Int32)) hx hb dX11_remove_262 (by decide) ?_
                    refine lv_iload_n hx hb dX11_remove_264 rfl (lv_at hl 1 rfl) ?_
                    refine lv_imul hx hb dX11_remove_265 ?_
                    refine lv_iload_n hx hb dX11_remove_266 rfl (lv_at hl 3 rfl) ?_
                    refine lv_iadd hx hb dX11_remove_267 ?_
                    obtain ⟨M53, hc52, h⟩ := o1_e h
                    refine g_Vv (As := [.ref (A m_row), .int (0 : Int32), .ref (A m_keptGone), .int (((48 : Int32) * a1) + a3)]) (rest := []) S X Z mlv_o rfl rfl (t_X11_copyTo l D dA A hJ ⟨ml_row, rfl⟩ ⟨ml_keptGone, rfl⟩ hc52) (cwV 4 hts (mGV (mB 139 rfl) (mB 140 rfl) (mB 141 rfl) (mB 63 rfl) (mB 97 rfl)) rfl rfl rfl (by decide +kernel) ⟨Nat.le_of_ble_eq_true rfl, Nat.le_of_ble_eq_true rfl⟩) rfl hl.1 rfl (Nat.le_of_ble_eq_true rfl) dX11_remove_268 ⟨Nat.zero_le _, Nat.zero_le _⟩ (fun H locs Z => ?_)
                    exact hJ271 M53 _ _ _ Z (lv_sub hl [0, 1, 2, 3] rfl) h
                · have h := if_f c28 h
                  refine lv_aload_n hx hb dX11_remove_180 rfl (lv_at hl 0 rfl) ?_
                  refine lv_iload_n hx hb dX11_remove_181 rfl (lv_at hl 1 rfl) ?_
                  refine lv_iload_n hx hb dX11_remove_182 rfl (lv_at hl 2 rfl) ?_
                  refine lv_iload_n hx hb dX11_remove_183 rfl (lv_at hl 3 rfl) ?_
                  obtain ⟨v56, M55, hc54, h⟩ := ob_e h
                  refine g_Vl (As := [.int a1, .int a2, .int a3]) (rest := []) S X Z mlv_o rfl rfl (t_X11_removeAlone l D dA A hJ  hc54) (cwV 3 hts (mGV (mB 261 rfl) (mB 262 rfl) (mB 263 rfl) (mB 63 rfl) (mB 260 rfl)) rfl rfl rfl (by decide +kernel) ⟨Nat.le_of_ble_eq_true rfl, Nat.le_of_ble_eq_true rfl⟩) rfl hl.1 rfl (Nat.le_of_ble_eq_true rfl) dX11_remove_184 ⟨Nat.zero_le _, Nat.zero_le _⟩ (fun H locs Z => ?_)
                  have hy := Option.some.inj h
                  subst hy
                  exact g_rl S Z hr hlocks dX11_remove_187
              have hL145 : ∀ (n : Nat) (x57 : Int32) (M58 : gM) (H : Heap) (locs : List Loc) (ls : Array Slot), gZ D mLay dA mLive A (gA mLive A) s.heap M58 H locs → lv_has ls 10 [(0, .ref (A m_o)), (1, .int a1), (2, .int a2), (3, .int a3), (6, .int v14), (9, .int x57)] → f_X11_remove_L145 a1 a2 a3 v14 J175 n x57 M58 = some y → W p l e (headSpec wmX11_remove ({ frames := 5, cells := 0, slots := 0, locals := 129 } : Room)).room s m args below meth c H locs 0 0 (MQ below (mQl D dA A y) args s 0 0 (gA mLive A)) (F0 m 145 ls []) := by
                intro n
                induction n with
                | zero =>
                  intro x57 M58 H locs ls Z hl h
                  rw [f_X11_remove_L145] at h
                  cases h
                | succ n59 ih145 =>
                  intro x57 M58 H locs ls Z hl h
                  rw [f_X11_remove_L145] at h
                  refine lv_iload hx hb dX11_remove_145 (lv_at hl 5 rfl) ?_
                  refine lv_aload_n hx hb dX11_remove_147 rfl (lv_at hl 0 rfl) ?_
                  refine mr_made S X Z hin hl_162 dX11_remove_148 h (fun v60 h => ?_)
                  refine lv_icmp_ge (tgt := 175) hx hb dX11_remove_151 (by decide) (fun c61 => ?_) (fun c61 => ?_)
                  · have h := if_t c61 h
                    exact hJ175 M58 _ _ _ Z (lv_sub hl [0, 1, 2, 3, 4] rfl) h
                  · have h := if_f c61 h
                    refine lv_aload_n hx hb dX11_remove_154 rfl (lv_at hl 0 rfl) ?_
                    refine mr_gotEntry S X Z hin hl_119 dX11_remove_155 ?_
                    refine lv_iload hx hb dX11_remove_158 (lv_at hl 5 rfl) ?_
                    refine g_iald S X Z ml_gotEntry rfl dX11_remove_160 h (fun v62 h => ?_)
                    refine lv_iconst (v := (1 : Int32)) hx hb dX11_remove_161 (by decide) ?_
                    refine lv_icmp_ne (tgt := 169) hx hb dX11_remove_162 (by decide) (fun c63 => ?_) (fun c63 => ?_)
                    · have h := if_f c63 h
                      obtain ⟨x64, ex64, h⟩ := lt_e h
                      refine lv_iinc (v := x64) (lv' := [(9, .int x64), (0, .ref (A m_o)), (1, .int a1), (2, .int a2), (3, .int a3), (6, .int v14)]) hx hb dX11_remove_169 hl (k := 5) rfl (by rw [ex64]; rfl) (by decide) rfl (fun ls hl => ?_)
                      refine lv_goto (tgt := 145) hx hb dX11_remove_172 (by decide) ?_
                      exact ih145 x64 M58 _ _ _ Z (lv_sub hl [1, 2, 3, 4, 5, 0] rfl) h
                    · have h := if_t c63 h
                      refine lv_ldc2 hx hb hown hc_336 dX11_remove_165 ?_
                      have hy := Option.some.inj h
                      subst hy
                      exact g_rl S Z hr hlocks dX11_remove_168
              exact hL145 100 (1 : Int32) M24 _ _ _ Z (lv_sub hl [4, 5, 6, 7, 2, 0] rfl) h
            · have h := if_f c26 h
              refine lv_lload hx hb dX11_remove_139 (lv_at hl 0 rfl) ?_
              have hy := Option.some.inj h
              subst hy
              exact g_rl S Z hr hlocks dX11_remove_141
          · have h := if_f c22 h
            refine lv_ldc2 hx hb hown hc_172 dX11_remove_118 ?_
            have hy := Option.some.inj h
            subst hy
            exact g_rl S Z hr hlocks dX11_remove_121
        · have h := if_f c18 h
          refine lv_lload hx hb dX11_remove_91 (lv_at hl 0 rfl) ?_
          have hy := Option.some.inj h
          subst hy
          exact g_rl S Z hr hlocks dX11_remove_93
      · have h := if_f c10 h
        refine lv_lload hx hb dX11_remove_54 (lv_at hl 0 rfl) ?_
        have hy := Option.some.inj h
        subst hy
        exact g_rl S Z hr hlocks dX11_remove_56
    · have h := if_f c7 h
      refine lv_lconst (v := (0 : Int64)) hx hb dX11_remove_37 (by decide) ?_
      have hy := Option.some.inj h
      subst hy
      exact g_rl S Z hr hlocks dX11_remove_38
  obtain ⟨J22, eJ22, h⟩ := jn_e h
  have hJ22 : ∀ (M65 : gM) (H : Heap) (locs : List Loc) (ls : Array Slot), gZ D mLay dA mLive A (gA mLive A) s.heap M65 H locs → lv_has ls 10 [(0, .ref (A m_o)), (1, .int a1), (2, .int a2), (3, .int a3)] → J22 M65 = some y → W p l e (headSpec wmX11_remove ({ frames := 5, cells := 0, slots := 0, locals := 129 } : Room)).room s m args below meth c H locs 0 0 (MQ below (mQl D dA A y) args s 0 0 (gA mLive A)) (F0 m 22 ls [.ref (A m_o)]) := by
    intro M65 H locs ls Z hl h
    rw [eJ22] at h
    try dsimp only at h
    refine lv_iconst (v := (1 : Int32)) hx hb dX11_remove_22 (by decide) ?_
    refine lv_goto (tgt := 27) hx hb dX11_remove_23 (by decide) ?_
    exact hJ27 (1 : Int32) M65 _ _ _ Z (lv_sub hl [0, 1, 2, 3] rfl) h
  refine lv_if_eq (tgt := 22) hx hb dX11_remove_5 (by decide) (fun c66 => ?_) (fun c66 => ?_)
  · have h := if_t c66 h
    exact hJ22 M _ _ _ Z (lv_sub hl [0, 1, 2, 3] rfl) h
  · have h := if_f c66 h
    refine lv_iload_n hx hb dX11_remove_8 rfl (lv_at hl 2 rfl) ?_
    obtain ⟨v68, hc67, h⟩ := o1_e h
    refine g_Si (As := [.int a2]) (rest := [.ref (A m_o)]) S X Z (t_X11_isObject l D dA A hJ  hc67) (va_cwS 1 hts (mGS (mB 93 rfl) (mB 94 rfl) (mB 63 rfl) (mB 65 rfl)) rfl rfl rfl (by decide +kernel) ⟨Nat.le_of_ble_eq_true rfl, Nat.le_of_ble_eq_true rfl⟩) rfl hl.1 rfl (Nat.le_of_ble_eq_true rfl) dX11_remove_9 ⟨Nat.zero_le _, Nat.zero_le _⟩ (fun H locs Z => ?_)
    refine lv_if_eq (tgt := 22) hx hb dX11_remove_12 (by decide) (fun c69 => ?_) (fun c69 => ?_)
    · have h := if_t c69 h
      exact hJ22 M _ _ _ Z (lv_sub hl [0, 1, 2, 3] rfl) h
    · have h := if_f c69 h
      refine lv_iload_n hx hb dX11_remove_15 rfl (lv_at hl 3 rfl) ?_
      obtain ⟨v71, hc70, h⟩ := o1_e h
      refine g_Si (As := [.int a3]) (rest := [.ref (A m_o)]) S X Z (t_X11_isObject l D dA A hJ  hc70) (va_cwS 1 hts (mGS (mB 93 rfl) (mB 94 rfl) (mB 63 rfl) (mB 65 rfl)) rfl rfl rfl (by decide +kernel) ⟨Nat.le_of_ble_eq_true rfl, Nat.le_of_ble_eq_true rfl⟩) rfl hl.1 rfl (Nat.le_of_ble_eq_true rfl) dX11_remove_16 ⟨Nat.zero_le _, Nat.zero_le _⟩ (fun H locs Z => ?_)
      refine lv_if_ne (tgt := 26) hx hb dX11_remove_19 (by decide) (fun c72 => ?_) (fun c72 => ?_)
      · have h := if_f c72 h
        refine lv_iconst (v := (0 : Int32)) hx hb dX11_remove_26 (by decide) ?_
        exact hJ27 (0 : Int32) M _ _ _ Z (lv_sub hl [0, 1, 2, 3] rfl) h
      · have h := if_t c72 h
        exact hJ22 M _ _ _ Z (lv_sub hl [0, 1, 2, 3] rfl) h
-- X11_handWrite (IIIII)V: 216 instructions
theorem dX11_handWrite_0 : decode cX11_handWrite 0 = .ok (.bipush 48, 2) := by decide +kernel
theorem dX11_handWrite_2 : decode cX11_handWrite 2 = .ok (.iload 4, 2) := by decide +kernel
theorem dX11_handWrite_4 : decode cX11_handWrite 4 = .ok (.imul, 1) := by decide +kernel
theorem dX11_handWrite_5 : decode cX11_handWrite 5 = .ok (.iload_n 3, 1) := by decide +kernel
theorem dX11_handWrite_6 : decode cX11_handWrite 6 = .ok (.iadd, 1) := by decide +kernel
theorem dX11_handWrite_7 : decode cX11_handWrite 7 = .ok (.istore 6, 2) := by decide +kernel
theorem dX11_handWrite_9 : decode cX11_handWrite 9 = .ok (.aload_n 0, 1) := by decide +kernel
theorem dX11_handWrite_10 : decode cX11_handWrite 10 = .ok (.getfield 32, 3) := by decide +kernel
theorem dX11_handWrite_13 : decode cX11_handWrite 13 = .ok (.iload 6, 2) := by decide +kernel
theorem dX11_handWrite_15 : decode cX11_handWrite 15 = .ok (.baload, 1) := by decide +kernel
theorem dX11_handWrite_16 : decode cX11_handWrite 16 = .ok (.ifCond .ne 14, 3) := by decide +kernel
theorem dX11_handWrite_19 : decode cX11_handWrite 19 = .ok (.aload_n 0, 1) := by decide +kernel
theorem dX11_handWrite_20 : decode cX11_handWrite 20 = .ok (.dup, 1) := by decide +kernel
theorem dX11_handWrite_21 : decode cX11_handWrite 21 = .ok (.getfield 385, 3) := by decide +kernel
theorem dX11_handWrite_24 : decode cX11_handWrite 24 = .ok (.iconst 1, 1) := by decide +kernel
theorem dX11_handWrite_25 : decode cX11_handWrite 25 = .ok (.iadd, 1) := by decide +kernel
theorem dX11_handWrite_26 : decode cX11_handWrite 26 = .ok (.putfield 385, 3) := by decide +kernel
theorem dX11_handWrite_29 : decode cX11_handWrite 29 = .ok (.return_, 1) := by decide +kernel
theorem dX11_handWrite_30 : decode cX11_handWrite 30 = .ok (.aload_n 0, 1) := by decide +kernel
theorem dX11_handWrite_31 : decode cX11_handWrite 31 = .ok (.aload_n 0, 1) := by decide +kernel
theorem dX11_handWrite_32 : decode cX11_handWrite 32 = .ok (.getfield 110, 3) := by decide +kernel
theorem dX11_handWrite_35 : decode cX11_handWrite 35 = .ok (.iload_n 2, 1) := by decide +kernel
theorem dX11_handWrite_36 : decode cX11_handWrite 36 = .ok (.aload_n 0, 1) := by decide +kernel
theorem dX11_handWrite_37 : decode cX11_handWrite 37 = .ok (.getfield 125, 3) := by decide +kernel
theorem dX11_handWrite_40 : decode cX11_handWrite 40 = .ok (.iconst 0, 1) := by decide +kernel
theorem dX11_handWrite_41 : decode cX11_handWrite 41 = .ok (.invokevirtual 234, 3) := by decide +kernel
theorem dX11_handWrite_44 : decode cX11_handWrite 44 = .ok (.aload_n 0, 1) := by decide +kernel
theorem dX11_handWrite_45 : decode cX11_handWrite 45 = .ok (.getfield 68, 3) := by decide +kernel
theorem dX11_handWrite_48 : decode cX11_handWrite 48 = .ok (.bipush 48, 2) := by decide +kernel
theorem dX11_handWrite_50 : decode cX11_handWrite 50 = .ok (.iload_n 1, 1) := by decide +kernel
theorem dX11_handWrite_51 : decode cX11_handWrite 51 = .ok (.imul, 1) := by decide +kernel
theorem dX11_handWrite_52 : decode cX11_handWrite 52 = .ok (.iload_n 3, 1) := by decide +kernel
theorem dX11_handWrite_53 : decode cX11_handWrite 53 = .ok (.iadd, 1) := by decide +kernel
theorem dX11_handWrite_54 : decode cX11_handWrite 54 = .ok (.iaload, 1) := by decide +kernel
theorem dX11_handWrite_55 : decode cX11_handWrite 55 = .ok (.istore 7, 2) := by decide +kernel
theorem dX11_handWrite_57 : decode cX11_handWrite 57 = .ok (.aload_n 0, 1) := by decide +kernel
theorem dX11_handWrite_58 : decode cX11_handWrite 58 = .ok (.getfield 71, 3) := by decide +kernel
theorem dX11_handWrite_61 : decode cX11_handWrite 61 = .ok (.bipush 48, 2) := by decide +kernel
theorem dX11_handWrite_63 : decode cX11_handWrite 63 = .ok (.iload_n 1, 1) := by decide +kernel
theorem dX11_handWrite_64 : decode cX11_handWrite 64 = .ok (.imul, 1) := by decide +kernel
theorem dX11_handWrite_65 : decode cX11_handWrite 65 = .ok (.iload_n 3, 1) := by decide +kernel
theorem dX11_handWrite_66 : decode cX11_handWrite 66 = .ok (.iadd, 1) := by decide +kernel
theorem dX11_handWrite_67 : decode cX11_handWrite 67 = .ok (.iaload, 1) := by decide +kernel
theorem dX11_handWrite_68 : decode cX11_handWrite 68 = .ok (.istore 8, 2) := by decide +kernel
theorem dX11_handWrite_70 : decode cX11_handWrite 70 = .ok (.aload_n 0, 1) := by decide +kernel
theorem dX11_handWrite_71 : decode cX11_handWrite 71 = .ok (.getfield 44, 3) := by decide +kernel
theorem dX11_handWrite_74 : decode cX11_handWrite 74 = .ok (.iload 6, 2) := by decide +kernel
theorem dX11_handWrite_76 : decode cX11_handWrite 76 = .ok (.iaload, 1) := by decide +kernel
theorem dX11_handWrite_77 : decode cX11_handWrite 77 = .ok (.ifCond .ne 56, 3) := by decide +kernel
theorem dX11_handWrite_80 : decode cX11_handWrite 80 = .ok (.aload_n 0, 1) := by decide +kernel
theorem dX11_handWrite_81 : decode cX11_handWrite 81 = .ok (.aload_n 0, 1) := by decide +kernel
theorem dX11_handWrite_82 : decode cX11_handWrite 82 = .ok (.getfield 41, 3) := by decide +kernel
theorem dX11_handWrite_85 : decode cX11_handWrite 85 = .ok (.iload 6, 2) := by decide +kernel
theorem dX11_handWrite_87 : decode cX11_handWrite 87 = .ok (.aload_n 0, 1) := by decide +kernel
theorem dX11_handWrite_88 : decode cX11_handWrite 88 = .ok (.getfield 125, 3) := by decide +kernel
theorem dX11_handWrite_91 : decode cX11_handWrite 91 = .ok (.iconst 0, 1) := by decide +kernel
theorem dX11_handWrite_92 : decode cX11_handWrite 92 = .ok (.invokevirtual 275, 3) := by decide +kernel
theorem dX11_handWrite_95 : decode cX11_handWrite 95 = .ok (.ifCond .eq 38, 3) := by decide +kernel
theorem dX11_handWrite_98 : decode cX11_handWrite 98 = .ok (.aload_n 0, 1) := by decide +kernel
theorem dX11_handWrite_99 : decode cX11_handWrite 99 = .ok (.aload_n 0, 1) := by decide +kernel
theorem dX11_handWrite_100 : decode cX11_handWrite 100 = .ok (.iload 5, 2) := by decide +kernel
theorem dX11_handWrite_102 : decode cX11_handWrite 102 = .ok (.iload_n 3, 1) := by decide +kernel
theorem dX11_handWrite_103 : decode cX11_handWrite 103 = .ok (.aload_n 0, 1) := by decide +kernel
theorem dX11_handWrite_104 : decode cX11_handWrite 104 = .ok (.getfield 125, 3) := by decide +kernel
theorem dX11_handWrite_107 : decode cX11_handWrite 107 = .ok (.invokevirtual 323, 3) := by decide +kernel
theorem dX11_handWrite_110 : decode cX11_handWrite 110 = .ok (.putfield 289, 3) := by decide +kernel
theorem dX11_handWrite_113 : decode cX11_handWrite 113 = .ok (.aload_n 0, 1) := by decide +kernel
theorem dX11_handWrite_114 : decode cX11_handWrite 114 = .ok (.iload_n 3, 1) := by decide +kernel
theorem dX11_handWrite_115 : decode cX11_handWrite 115 = .ok (.iload 7, 2) := by decide +kernel
theorem dX11_handWrite_117 : decode cX11_handWrite 117 = .ok (.iload 8, 2) := by decide +kernel
theorem dX11_handWrite_119 : decode cX11_handWrite 119 = .ok (.invokevirtual 327, 3) := by decide +kernel
theorem dX11_handWrite_122 : decode cX11_handWrite 122 = .ok (.aload_n 0, 1) := by decide +kernel
theorem dX11_handWrite_123 : decode cX11_handWrite 123 = .ok (.iload_n 3, 1) := by decide +kernel
theorem dX11_handWrite_124 : decode cX11_handWrite 124 = .ok (.aload_n 0, 1) := by decide +kernel
theorem dX11_handWrite_125 : decode cX11_handWrite 125 = .ok (.getfield 289, 3) := by decide +kernel
theorem dX11_handWrite_128 : decode cX11_handWrite 128 = .ok (.iconst (-1), 1) := by decide +kernel
theorem dX11_handWrite_129 : decode cX11_handWrite 129 = .ok (.invokevirtual 315, 3) := by decide +kernel
theorem dX11_handWrite_132 : decode cX11_handWrite 132 = .ok (.return_, 1) := by decide +kernel
theorem dX11_handWrite_133 : decode cX11_handWrite 133 = .ok (.aload_n 0, 1) := by decide +kernel
theorem dX11_handWrite_134 : decode cX11_handWrite 134 = .ok (.getfield 44, 3) := by decide +kernel
theorem dX11_handWrite_137 : decode cX11_handWrite 137 = .ok (.iload 6, 2) := by decide +kernel
theorem dX11_handWrite_139 : decode cX11_handWrite 139 = .ok (.iaload, 1) := by decide +kernel
theorem dX11_handWrite_140 : decode cX11_handWrite 140 = .ok (.bipush 6, 2) := by decide +kernel
theorem dX11_handWrite_142 : decode cX11_handWrite 142 = .ok (.if_icmp .ne 14, 3) := by decide +kernel
theorem dX11_handWrite_145 : decode cX11_handWrite 145 = .ok (.aload_n 0, 1) := by decide +kernel
theorem dX11_handWrite_146 : decode cX11_handWrite 146 = .ok (.dup, 1) := by decide +kernel
theorem dX11_handWrite_147 : decode cX11_handWrite 147 = .ok (.getfield 385, 3) := by decide +kernel
theorem dX11_handWrite_150 : decode cX11_handWrite 150 = .ok (.iconst 1, 1) := by decide +kernel
theorem dX11_handWrite_151 : decode cX11_handWrite 151 = .ok (.iadd, 1) := by decide +kernel
theorem dX11_handWrite_152 : decode cX11_handWrite 152 = .ok (.putfield 385, 3) := by decide +kernel
theorem dX11_handWrite_155 : decode cX11_handWrite 155 = .ok (.return_, 1) := by decide +kernel
theorem dX11_handWrite_156 : decode cX11_handWrite 156 = .ok (.aload_n 0, 1) := by decide +kernel
theorem dX11_handWrite_157 : decode cX11_handWrite 157 = .ok (.getfield 113, 3) := by decide +kernel
theorem dX11_handWrite_160 : decode cX11_handWrite 160 = .ok (.iload_n 1, 1) := by decide +kernel
theorem dX11_handWrite_161 : decode cX11_handWrite 161 = .ok (.dup2, 1) := by decide +kernel
theorem dX11_handWrite_162 : decode cX11_handWrite 162 = .ok (.iaload, 1) := by decide +kernel
theorem dX11_handWrite_163 : decode cX11_handWrite 163 = .ok (.iconst 1, 1) := by decide +kernel
theorem dX11_handWrite_164 : decode cX11_handWrite 164 = .ok (.iadd, 1) := by decide +kernel
theorem dX11_handWrite_165 : decode cX11_handWrite 165 = .ok (.iastore, 1) := by decide +kernel
theorem dX11_handWrite_166 : decode cX11_handWrite 166 = .ok (.aload_n 0, 1) := by decide +kernel
theorem dX11_handWrite_167 : decode cX11_handWrite 167 = .ok (.getfield 125, 3) := by decide +kernel
theorem dX11_handWrite_170 : decode cX11_handWrite 170 = .ok (.aload_n 0, 1) := by decide +kernel
theorem dX11_handWrite_171 : decode cX11_handWrite 171 = .ok (.getfield 155, 3) := by decide +kernel
theorem dX11_handWrite_174 : decode cX11_handWrite 174 = .ok (.iload_n 1, 1) := by decide +kernel
theorem dX11_handWrite_175 : decode cX11_handWrite 175 = .ok (.iadd, 1) := by decide +kernel
theorem dX11_handWrite_176 : decode cX11_handWrite 176 = .ok (.aload_n 0, 1) := by decide +kernel
theorem dX11_handWrite_177 : decode cX11_handWrite 177 = .ok (.getfield 113, 3) := by decide +kernel
theorem dX11_handWrite_180 : decode cX11_handWrite 180 = .ok (.iload_n 1, 1) := by decide +kernel
theorem dX11_handWrite_181 : decode cX11_handWrite 181 = .ok (.iaload, 1) := by decide +kernel
theorem dX11_handWrite_182 : decode cX11_handWrite 182 = .ok (.iastore, 1) := by decide +kernel
theorem dX11_handWrite_183 : decode cX11_handWrite 183 = .ok (.aload_n 0, 1) := by decide +kernel
theorem dX11_handWrite_184 : decode cX11_handWrite 184 = .ok (.getfield 44, 3) := by decide +kernel
theorem dX11_handWrite_187 : decode cX11_handWrite 187 = .ok (.iload 6, 2) := by decide +kernel
theorem dX11_handWrite_189 : decode cX11_handWrite 189 = .ok (.iaload, 1) := by decide +kernel
theorem dX11_handWrite_190 : decode cX11_handWrite 190 = .ok (.ifCond .ne 64, 3) := by decide +kernel
theorem dX11_handWrite_193 : decode cX11_handWrite 193 = .ok (.aload_n 0, 1) := by decide +kernel
theorem dX11_handWrite_194 : decode cX11_handWrite 194 = .ok (.getfield 47, 3) := by decide +kernel
theorem dX11_handWrite_197 : decode cX11_handWrite 197 = .ok (.bipush 6, 2) := by decide +kernel
theorem dX11_handWrite_199 : decode cX11_handWrite 199 = .ok (.iload 6, 2) := by decide +kernel
theorem dX11_handWrite_201 : decode cX11_handWrite 201 = .ok (.imul, 1) := by decide +kernel
theorem dX11_handWrite_202 : decode cX11_handWrite 202 = .ok (.aload_n 0, 1) := by decide +kernel
theorem dX11_handWrite_203 : decode cX11_handWrite 203 = .ok (.getfield 35, 3) := by decide +kernel
theorem dX11_handWrite_206 : decode cX11_handWrite 206 = .ok (.iload 6, 2) := by decide +kernel
theorem dX11_handWrite_208 : decode cX11_handWrite 208 = .ok (.iaload, 1) := by decide +kernel
theorem dX11_handWrite_209 : decode cX11_handWrite 209 = .ok (.iastore, 1) := by decide +kernel
theorem dX11_handWrite_210 : decode cX11_handWrite 210 = .ok (.aload_n 0, 1) := by decide +kernel
theorem dX11_handWrite_211 : decode cX11_handWrite 211 = .ok (.getfield 50, 3) := by decide +kernel
theorem dX11_handWrite_214 : decode cX11_handWrite 214 = .ok (.bipush 6, 2) := by decide +kernel
theorem dX11_handWrite_216 : decode cX11_handWrite 216 = .ok (.iload 6, 2) := by decide +kernel
theorem dX11_handWrite_218 : decode cX11_handWrite 218 = .ok (.imul, 1) := by decide +kernel
theorem dX11_handWrite_219 : decode cX11_handWrite 219 = .ok (.aload_n 0, 1) := by decide +kernel
theorem dX11_handWrite_220 : decode cX11_handWrite 220 = .ok (.getfield 38, 3) := by decide +kernel
theorem dX11_handWrite_223 : decode cX11_handWrite 223 = .ok (.iload 6, 2) := by decide +kernel
theorem dX11_handWrite_225 : decode cX11_handWrite 225 = .ok (.iaload, 1) := by decide +kernel
theorem dX11_handWrite_226 : decode cX11_handWrite 226 = .ok (.iastore, 1) := by decide +kernel
theorem dX11_handWrite_227 : decode cX11_handWrite 227 = .ok (.aload_n 0, 1) := by decide +kernel
theorem dX11_handWrite_228 : decode cX11_handWrite 228 = .ok (.aload_n 0, 1) := by decide +kernel
theorem dX11_handWrite_229 : decode cX11_handWrite 229 = .ok (.getfield 41, 3) := by decide +kernel
theorem dX11_handWrite_232 : decode cX11_handWrite 232 = .ok (.iload 6, 2) := by decide +kernel
theorem dX11_handWrite_234 : decode cX11_handWrite 234 = .ok (.aload_n 0, 1) := by decide +kernel
theorem dX11_handWrite_235 : decode cX11_handWrite 235 = .ok (.getfield 53, 3) := by decide +kernel
theorem dX11_handWrite_238 : decode cX11_handWrite 238 = .ok (.bipush 6, 2) := by decide +kernel
theorem dX11_handWrite_240 : decode cX11_handWrite 240 = .ok (.iload 6, 2) := by decide +kernel
theorem dX11_handWrite_242 : decode cX11_handWrite 242 = .ok (.imul, 1) := by decide +kernel
theorem dX11_handWrite_243 : decode cX11_handWrite 243 = .ok (.invokevirtual 234, 3) := by decide +kernel
theorem dX11_handWrite_246 : decode cX11_handWrite 246 = .ok (.aload_n 0, 1) := by decide +kernel
theorem dX11_handWrite_247 : decode cX11_handWrite 247 = .ok (.getfield 44, 3) := by decide +kernel
theorem dX11_handWrite_250 : decode cX11_handWrite 250 = .ok (.iload 6, 2) := by decide +kernel
theorem dX11_handWrite_252 : decode cX11_handWrite 252 = .ok (.iconst 1, 1) := by decide +kernel
theorem dX11_handWrite_253 : decode cX11_handWrite 253 = .ok (.iastore, 1) := by decide +kernel
theorem dX11_handWrite_254 : decode cX11_handWrite 254 = .ok (.bipush 6, 2) := by decide +kernel
theorem dX11_handWrite_256 : decode cX11_handWrite 256 = .ok (.iload 6, 2) := by decide +kernel
theorem dX11_handWrite_258 : decode cX11_handWrite 258 = .ok (.imul, 1) := by decide +kernel
theorem dX11_handWrite_259 : decode cX11_handWrite 259 = .ok (.aload_n 0, 1) := by decide +kernel
theorem dX11_handWrite_260 : decode cX11_handWrite 260 = .ok (.getfield 44, 3) := by decide +kernel
theorem dX11_handWrite_263 : decode cX11_handWrite 263 = .ok (.iload 6, 2) := by decide +kernel
theorem dX11_handWrite_265 : decode cX11_handWrite 265 = .ok (.iaload, 1) := by decide +kernel
theorem dX11_handWrite_266 : decode cX11_handWrite 266 = .ok (.iadd, 1) := by decide +kernel
theorem dX11_handWrite_267 : decode cX11_handWrite 267 = .ok (.istore 9, 2) := by decide +kernel
theorem dX11_handWrite_269 : decode cX11_handWrite 269 = .ok (.aload_n 0, 1) := by decide +kernel
theorem dX11_handWrite_270 : decode cX11_handWrite 270 = .ok (.getfield 47, 3) := by decide +kernel
theorem dX11_handWrite_273 : decode cX11_handWrite 273 = .ok (.iload 9, 2) := by decide +kernel
theorem dX11_handWrite_275 : decode cX11_handWrite 275 = .ok (.iload 7, 2) := by decide +kernel
theorem dX11_handWrite_277 : decode cX11_handWrite 277 = .ok (.iastore, 1) := by decide +kernel
theorem dX11_handWrite_278 : decode cX11_handWrite 278 = .ok (.aload_n 0, 1) := by decide +kernel
theorem dX11_handWrite_279 : decode cX11_handWrite 279 = .ok (.getfield 50, 3) := by decide +kernel
theorem dX11_handWrite_282 : decode cX11_handWrite 282 = .ok (.iload 9, 2) := by decide +kernel
theorem dX11_handWrite_284 : decode cX11_handWrite 284 = .ok (.iload 8, 2) := by decide +kernel
theorem dX11_handWrite_286 : decode cX11_handWrite 286 = .ok (.iastore, 1) := by decide +kernel
theorem dX11_handWrite_287 : decode cX11_handWrite 287 = .ok (.aload_n 0, 1) := by decide +kernel
theorem dX11_handWrite_288 : decode cX11_handWrite 288 = .ok (.aload_n 0, 1) := by decide +kernel
theorem dX11_handWrite_289 : decode cX11_handWrite 289 = .ok (.getfield 125, 3) := by decide +kernel
theorem dX11_handWrite_292 : decode cX11_handWrite 292 = .ok (.iconst 0, 1) := by decide +kernel
theorem dX11_handWrite_293 : decode cX11_handWrite 293 = .ok (.aload_n 0, 1) := by decide +kernel
theorem dX11_handWrite_294 : decode cX11_handWrite 294 = .ok (.getfield 53, 3) := by decide +kernel
theorem dX11_handWrite_297 : decode cX11_handWrite 297 = .ok (.iload 9, 2) := by decide +kernel
theorem dX11_handWrite_299 : decode cX11_handWrite 299 = .ok (.invokevirtual 234, 3) := by decide +kernel
theorem dX11_handWrite_302 : decode cX11_handWrite 302 = .ok (.aload_n 0, 1) := by decide +kernel
theorem dX11_handWrite_303 : decode cX11_handWrite 303 = .ok (.getfield 44, 3) := by decide +kernel
theorem dX11_handWrite_306 : decode cX11_handWrite 306 = .ok (.iload 6, 2) := by decide +kernel
theorem dX11_handWrite_308 : decode cX11_handWrite 308 = .ok (.dup2, 1) := by decide +kernel
theorem dX11_handWrite_309 : decode cX11_handWrite 309 = .ok (.iaload, 1) := by decide +kernel
theorem dX11_handWrite_310 : decode cX11_handWrite 310 = .ok (.iconst 1, 1) := by decide +kernel
theorem dX11_handWrite_311 : decode cX11_handWrite 311 = .ok (.iadd, 1) := by decide +kernel
theorem dX11_handWrite_312 : decode cX11_handWrite 312 = .ok (.iastore, 1) := by decide +kernel
theorem dX11_handWrite_313 : decode cX11_handWrite 313 = .ok (.aload_n 0, 1) := by decide +kernel
theorem dX11_handWrite_314 : decode cX11_handWrite 314 = .ok (.aload_n 0, 1) := by decide +kernel
theorem dX11_handWrite_315 : decode cX11_handWrite 315 = .ok (.getfield 125, 3) := by decide +kernel
theorem dX11_handWrite_318 : decode cX11_handWrite 318 = .ok (.iconst 0, 1) := by decide +kernel
theorem dX11_handWrite_319 : decode cX11_handWrite 319 = .ok (.aload_n 0, 1) := by decide +kernel
theorem dX11_handWrite_320 : decode cX11_handWrite 320 = .ok (.getfield 41, 3) := by decide +kernel
theorem dX11_handWrite_323 : decode cX11_handWrite 323 = .ok (.iload 6, 2) := by decide +kernel
theorem dX11_handWrite_325 : decode cX11_handWrite 325 = .ok (.invokevirtual 388, 3) := by decide +kernel
theorem dX11_handWrite_328 : decode cX11_handWrite 328 = .ok (.aload_n 0, 1) := by decide +kernel
theorem dX11_handWrite_329 : decode cX11_handWrite 329 = .ok (.iload_n 3, 1) := by decide +kernel
theorem dX11_handWrite_330 : decode cX11_handWrite 330 = .ok (.iconst 1, 1) := by decide +kernel
theorem dX11_handWrite_331 : decode cX11_handWrite 331 = .ok (.iload 4, 2) := by decide +kernel
theorem dX11_handWrite_333 : decode cX11_handWrite 333 = .ok (.ishl, 1) := by decide +kernel
theorem dX11_handWrite_334 : decode cX11_handWrite 334 = .ok (.invokevirtual 292, 3) := by decide +kernel
theorem dX11_handWrite_337 : decode cX11_handWrite 337 = .ok (.aload_n 0, 1) := by decide +kernel
theorem dX11_handWrite_338 : decode cX11_handWrite 338 = .ok (.aload_n 0, 1) := by decide +kernel
theorem dX11_handWrite_339 : decode cX11_handWrite 339 = .ok (.getfield 41, 3) := by decide +kernel
theorem dX11_handWrite_342 : decode cX11_handWrite 342 = .ok (.iload 6, 2) := by decide +kernel
theorem dX11_handWrite_344 : decode cX11_handWrite 344 = .ok (.iconst 1, 1) := by decide +kernel
theorem dX11_handWrite_345 : decode cX11_handWrite 345 = .ok (.iload 4, 2) := by decide +kernel
theorem dX11_handWrite_347 : decode cX11_handWrite 347 = .ok (.ishl, 1) := by decide +kernel
theorem dX11_handWrite_348 : decode cX11_handWrite 348 = .ok (.iload_n 3, 1) := by decide +kernel
theorem dX11_handWrite_349 : decode cX11_handWrite 349 = .ok (.invokevirtual 298, 3) := by decide +kernel
theorem dX11_handWrite_352 : decode cX11_handWrite 352 = .ok (.aload_n 0, 1) := by decide +kernel
theorem dX11_handWrite_353 : decode cX11_handWrite 353 = .ok (.iload_n 3, 1) := by decide +kernel
theorem dX11_handWrite_354 : decode cX11_handWrite 354 = .ok (.iconst 1, 1) := by decide +kernel
theorem dX11_handWrite_355 : decode cX11_handWrite 355 = .ok (.iload 4, 2) := by decide +kernel
theorem dX11_handWrite_357 : decode cX11_handWrite 357 = .ok (.ishl, 1) := by decide +kernel
theorem dX11_handWrite_358 : decode cX11_handWrite 358 = .ok (.iconst (-1), 1) := by decide +kernel
theorem dX11_handWrite_359 : decode cX11_handWrite 359 = .ok (.invokevirtual 315, 3) := by decide +kernel
theorem dX11_handWrite_362 : decode cX11_handWrite 362 = .ok (.return_, 1) := by decide +kernel
abbrev wmX11_handWrite : List Cond := .code yX11_handWrite cX11_handWrite 10 none :: mBig
def f_X11_handWrite (M : gM) (a1 : Int32) (a2 : Int32) (a3 : Int32) (a4 : Int32) (a5 : Int32) : Option gM :=
  lt ((((48 : Int32) * a4) + a3)) (fun x1 => rd M m_has 192 x1 (fun v2 => (if v2 = 0 then lt (M m_o 46) (fun v57 => lt (gset M m_o 46 (v57 + (1 : Int32))) (fun M58 => some M58)) else o1 (f_X11_copyTo M m_recordVector a2 m_row (0 : Int32)) (fun M5 => rd M5 m_keptValue 192 (((48 : Int32) * a1) + a3) (fun v6 => rd M5 m_keptSize 192 (((48 : Int32) * a1) + a3) (fun v7 => rd M5 m_versions 192 x1 (fun v8 => jn (fun (M9 : gM) => rd M9 m_versions 192 x1 (fun v10 => (if v10 = (6 : Int32) then lt (M9 m_o 46) (fun v43 => lt (gset M9 m_o 46 (v43 + (1 : Int32))) (fun M44 => some M44)) else rd M9 m_versionsTold 4 a1 (fun v12 => wr M9 m_versionsTold 4 a1 (v12 + (1 : Int32)) (fun M13 => lt (M13 m_o 0) (fun v14 => rd M13 m_versionsTold 4 a1 (fun v15 => wr M13 m_row 8 (v14 + a1) v15 (fun M16 => rd M16 m_versions 192 x1 (fun v17 => jn (fun (M18 : gM) => rd M18 m_versions 192 x1 (fun v19 => lt ((((6 : Int32) * x1) + v19)) (fun x20 => wr M18 m_versionValue 1152 x20 v6 (fun M21 => wr M21 m_versionSize 1152 x20 v7 (fun M22 => o1 (f_X11_copyTo M22 m_row (0 : Int32) m_versionVector x20) (fun M24 => rd M24 m_versions 192 x1 (fun v25 => wr M24 m_versions 192 x1 (v25 + (1 : Int32)) (fun M26 => o1 (f_X11_raise M26 m_row (0 : Int32) m_vector x1) (fun M28 => o1 (f_X11_mark M28 a3 ((1 : Int32) <<< (a4 &&& 31))) (fun M30 => o1 (f_X11_count M30 m_vector x1 ((1 : Int32) <<< (a4 &&& 31)) a3) (fun M32 => o1 (f_X11_endPromises M32 a3 ((1 : Int32) <<< (a4 &&& 31)) (-1 : Int32)) (fun M34 => some M34)))))))))))) (fun J254 => (if v17 = 0 then rd M16 m_value 192 x1 (fun v36 => wr M16 m_versionValue 1152 ((6 : Int32) * x1) v36 (fun M37 => rd M37 m_size 192 x1 (fun v38 => wr M37 m_versionSize 1152 ((6 : Int32) * x1) v38 (fun M39 => o1 (f_X11_copyTo M39 m_vector x1 m_versionVector ((6 : Int32) * x1)) (fun M41 => wr M41 m_versions 192 x1 (1 : Int32) (fun M42 => J254 M42)))))) else J254 M16))))))))))) (fun J133 => (if v8 = 0 then o1 (f_X11_isSame M5 m_vector x1 m_row (0 : Int32)) (fun v47 => (if v47 = 0 then J133 M5 else o1 (f_X11_setOf M5 a5 a3 m_row) (fun v50 => lt (gset M5 m_o 51 v50) (fun M51 => o1 (f_X11_putValue M51 a3 v6 v7) (fun M53 => lt (M53 m_o 51) (fun v54 => o1 (f_X11_endPromises M53 a3 v54 (-1 : Int32)) (fun M56 => some M56))))))) else J133 M5)))))))))
set_option maxHeartbeats 4000000 in
set_option maxRecDepth 100000 in
theorem t_X11_handWrite (l : Launch) (D : va_G) (dA : Nat → ClassId) (A : gI → Nat) (hJ : gJ mLive A) {M : gM} {a1 : Int32} {a2 : Int32} {a3 : Int32} {a4 : Int32} {a5 : Int32}  {y : gM} (h : f_X11_handWrite M a1 a2 a3 a4 a5 = some y) : mMv l yX11_handWrite wmX11_handWrite ({ frames := 3, cells := 0, slots := 0, locals := 71 } : Room) D dA A [.ref (A m_o), .int a1, .int a2, .int a3, .int a4, .int a5] M y := by
  refine Met.ofW (cc := cX11_handWrite) (maxL := 10) (ret := none) (by decide) rfl ?_
  intro p e s m args below meth c s₁ B hml hv
  obtain ⟨rfl, hP, hK⟩ := hv
  generalize hargs : ([.ref (A m_o), .int a1, .int a2, .int a3, .int a4, .int a5] : List Value).toArray = args at B ⊢
  have S : CallFix p m c cX11_handWrite 10 s args wmX11_handWrite RX11 := ⟨B.exec, B.bytes, hml, findClass_of_methodNamed B.named, atoms_spec (ws := wmX11_handWrite) B.pre⟩
  obtain ⟨hx, hb, -, hown, hts⟩ := id S
  have hr := B.returns
  have hlocks := B.notSynchronized
  have X : gX D vwCl dA mLive A (gA mLive A) s := ⟨hK, hJ, fun i hi => ⟨i, hi, rfl⟩⟩
  have Z : gZ D mLay dA mLive A (gA mLive A) s.heap M s.heap [] := ⟨hP, va_S.rf⟩
  have hin : ∀ w ∈ wsX110, w ∈ wmX11_handWrite := m_in
  have hl_32 := hts (.fieldLink RX11 32 "ReplicaFilesModel" "has" "[Z") (mBc 12 rfl)
  have hl_35 := hts (.fieldLink RX11 35 "ReplicaFilesModel" "value" "[I") (mBc 13 rfl)
  have hl_38 := hts (.fieldLink RX11 38 "ReplicaFilesModel" "size" "[I") (mBc 14 rfl)
  have hl_41 := hts (.fieldLink RX11 41 "ReplicaFilesModel" "vector" "[I") (mBc 15 rfl)
  have hl_44 := hts (.fieldLink RX11 44 "ReplicaFilesModel" "versions" "[I") (mBc 16 rfl)
  have hl_47 := hts (.fieldLink RX11 47 "ReplicaFilesModel" "versionValue" "[I") (mBc 17 rfl)
  have hl_50 := hts (.fieldLink RX11 50 "ReplicaFilesModel" "versionSize" "[I") (mBc 18 rfl)
  have hl_53 := hts (.fieldLink RX11 53 "ReplicaFilesModel" "versionVector" "[I") (mBc 19 rfl)
  have hl_68 := hts (.fieldLink RX11 68 "ReplicaFilesModel" "keptValue" "[I") (mBc 24 rfl)
  have hl_71 := hts (.fieldLink RX11 71 "ReplicaFilesModel" "keptSize" "[I") (mBc 25 rfl)
  have hl_110 := hts (.fieldLink RX11 110 "ReplicaFilesModel" "recordVector" "[I") (mBc 38 rfl)
  have hl_113 := hts (.fieldLink RX11 113 "ReplicaFilesModel" "versionsTold" "[I") (mBc 39 rfl)
  have hl_125 := hts (.fieldLink RX11 125 "ReplicaFilesModel" "row" "[I") (mBc 43 rfl)
  have hl_155 := hts (.fieldLink RX11 155 "ReplicaFilesModel" "servers" "I") (mBc 53 rfl)
  have hl_289 := hts (.fieldLink RX11 289 "ReplicaFilesModel" "set" "I") (mBc 188 rfl)
  have hl_385 := hts (.fieldLink RX11 385 "ReplicaFilesModel" "lost" "I") (mBc 268 rfl)
  have hl := lv_entry ([.ref (A m_o), .int a1, .int a2, .int a3, .int a4, .int a5]) (n := 10) (Nat.le_of_ble_eq_true rfl)
  rw [← hargs, lg_entry_eq, hargs]
  generalize (lg_sl ([.ref (A m_o), .int a1, .int a2, .int a3, .int a4, .int a5]) ++ List.replicate (10 - (lg_sl ([.ref (A m_o), .int a1, .int a2, .int a3, .int a4, .int a5])).length) Slot.unset).toArray = ls at hl ⊢
  have hl : lv_has ls 10 [(0, .ref (A m_o)), (1, .int a1), (2, .int a2), (3, .int a3), (4, .int a4), (5, .int a5)] := hl
  unfold f_X11_handWrite at h
  refine lv_bipush (v := (48 : Int32)) hx hb dX11_handWrite_0 (by decide) ?_
  refine lv_iload hx hb dX11_handWrite_2 (lv_at hl 4 rfl) ?_
  refine lv_imul hx hb dX11_handWrite_4 ?_
  refine lv_iload_n hx hb dX11_handWrite_5 rfl (lv_at hl 3 rfl) ?_
  refine lv_iadd hx hb dX11_handWrite_6 ?_
  refine g_topi h (fun x1 h => ?_)
  refine lv_istore (lv' := [(6, .int x1), (0, .ref (A m_o)), (1, .int a1), (2, .int a2), (3, .int a3), (4, .int a4), (5, .int a5)]) hx hb dX11_handWrite_7 hl (by decide) rfl (fun ls hl => ?_)
  refine lv_aload_n hx hb dX11_handWrite_9 rfl (lv_at hl 1 rfl) ?_
  refine mr_has S X Z hin hl_32 dX11_handWrite_10 ?_
  refine lv_iload hx hb dX11_handWrite_13 (lv_at hl 0 rfl) ?_
  refine g_zald S X Z ml_has rfl dX11_handWrite_15 h (fun v2 h => ?_)
  refine lv_if_ne (tgt := 30) hx hb dX11_handWrite_16 (by decide) (fun c3 => ?_) (fun c3 => ?_)
  · have h := if_f c3 h
    refine lv_aload_n hx hb dX11_handWrite_30 rfl (lv_at hl 1 rfl) ?_
    refine lv_aload_n hx hb dX11_handWrite_31 rfl (lv_at hl 1 rfl) ?_
    refine mr_recordVector S X Z hin hl_110 dX11_handWrite_32 ?_
    refine lv_iload_n hx hb dX11_handWrite_35 rfl (lv_at hl 3 rfl) ?_
    refine lv_aload_n hx hb dX11_handWrite_36 rfl (lv_at hl 1 rfl) ?_
    refine mr_row S X Z hin hl_125 dX11_handWrite_37 ?_
    refine lv_iconst (v := (0 : Int32)) hx hb dX11_handWrite_40 (by decide) ?_
    obtain ⟨M5, hc4, h⟩ := o1_e h
    refine g_Vv (As := [.ref (A m_recordVector), .int a2, .ref (A m_row), .int (0 : Int32)]) (rest := []) S X Z mlv_o rfl rfl (t_X11_copyTo l D dA A hJ ⟨ml_recordVector, rfl⟩ ⟨ml_row, rfl⟩ hc4) (cwV 4 hts (mGV (mB 139 rfl) (mB 140 rfl) (mB 141 rfl) (mB 63 rfl) (mB 97 rfl)) rfl rfl rfl (by decide +kernel) ⟨Nat.le_of_ble_eq_true rfl, Nat.le_of_ble_eq_true rfl⟩) rfl hl.1 rfl (Nat.le_of_ble_eq_true rfl) dX11_handWrite_41 ⟨Nat.zero_le _, Nat.zero_le _⟩ (fun H locs Z => ?_)
    refine lv_aload_n hx hb dX11_handWrite_44 rfl (lv_at hl 1 rfl) ?_
    refine mr_keptValue S X Z hin hl_68 dX11_handWrite_45 ?_
    refine lv_bipush (v := (48 : Int32)) hx hb dX11_handWrite_48 (by decide) ?_
    refine lv_iload_n hx hb dX11_handWrite_50 rfl (lv_at hl 2 rfl) ?_
    refine lv_imul hx hb dX11_handWrite_51 ?_
    refine lv_iload_n hx hb dX11_handWrite_52 rfl (lv_at hl 4 rfl) ?_
    refine lv_iadd hx hb dX11_handWrite_53 ?_
    refine g_iald S X Z ml_keptValue rfl dX11_handWrite_54 h (fun v6 h => ?_)
    refine lv_istore (lv' := [(7, .int v6), (6, .int x1), (0, .ref (A m_o)), (1, .int a1), (2, .int a2), (3, .int a3), (4, .int a4), (5, .int a5)]) hx hb dX11_handWrite_55 hl (by decide) rfl (fun ls hl => ?_)
    refine lv_aload_n hx hb dX11_handWrite_57 rfl (lv_at hl 2 rfl) ?_
    refine mr_keptSize S X Z hin hl_71 dX11_handWrite_58 ?_
    refine lv_bipush (v := (48 : Int32)) hx hb dX11_handWrite_61 (by decide) ?_
    refine lv_iload_n hx hb dX11_handWrite_63 rfl (lv_at hl 3 rfl) ?_
    refine lv_imul hx hb dX11_handWrite_64 ?_
    refine lv_iload_n hx hb dX11_handWrite_65 rfl (lv_at hl 5 rfl) ?_
    refine lv_iadd hx hb dX11_handWrite_66 ?_
    refine g_iald S X Z ml_keptSize rfl dX11_handWrite_67 h (fun v7 h => ?_)
    refine lv_istore (lv' := [(8, .int v7), (7, .int v6), (6, .int x1), (0, .ref (A m_o)), (1, .int a1), (2, .int a2), (3, .int a3), (4, .int a4), (5, .int a5)]) hx hb dX11_handWrite_68 hl (by decide) rfl (fun ls hl => ?_)
    refine lv_aload_n hx hb dX11_handWrite_70 rfl (lv_at hl 3 rfl) ?_
    refine mr_versions S X Z hin hl_44 dX11_handWrite_71 ?_
    refine lv_iload hx hb dX11_handWrite_74 (lv_at hl 2 rfl) ?_
    refine g_iald S X Z ml_versions rfl dX11_handWrite_76 h (fun v8 h => ?_)
    obtain ⟨J133, eJ133, h⟩ := jn_e h
    have hJ133 : ∀ (M9 : gM) (H : Heap) (locs : List Loc) (ls : Array Slot), gZ D mLay dA mLive A (gA mLive A) s.heap M9 H locs → lv_has ls 10 [(0, .ref (A m_o)), (1, .int a1), (3, .int a3), (4, .int a4), (6, .int x1), (7, .int v6), (8, .int v7)] → J133 M9 = some y → W p l e (headSpec wmX11_handWrite ({ frames := 3, cells := 0, slots := 0, locals := 71 } : Room)).room s m args below meth c H locs 0 0 (MQ below (mQv D dA A y) args s 0 0 (gA mLive A)) (F0 m 133 ls []) := by
      intro M9 H locs ls Z hl h
      rw [eJ133] at h
      try dsimp only at h
      refine lv_aload_n hx hb dX11_handWrite_133 rfl (lv_at hl 0 rfl) ?_
      refine mr_versions S X Z hin hl_44 dX11_handWrite_134 ?_
      refine lv_iload hx hb dX11_handWrite_137 (lv_at hl 4 rfl) ?_
      refine g_iald S X Z ml_versions rfl dX11_handWrite_139 h (fun v10 h => ?_)
      refine lv_bipush (v := (6 : Int32)) hx hb dX11_handWrite_140 (by decide) ?_
      refine lv_icmp_ne (tgt := 156) hx hb dX11_handWrite_142 (by decide) (fun c11 => ?_) (fun c11 => ?_)
      · have h := if_f c11 h
        refine lv_aload_n hx hb dX11_handWrite_156 rfl (lv_at hl 0 rfl) ?_
        refine mr_versionsTold S X Z hin hl_113 dX11_handWrite_157 ?_
        refine lv_iload_n hx hb dX11_handWrite_160 rfl (lv_at hl 1 rfl) ?_
        refine lv_dup2_11 hx hb dX11_handWrite_161 rfl rfl ?_
        refine g_iald S X Z ml_versionsTold rfl dX11_handWrite_162 h (fun v12 h => ?_)
        refine lv_iconst (v := (1 : Int32)) hx hb dX11_handWrite_163 (by decide) ?_
        refine lv_iadd hx hb dX11_handWrite_164 ?_
        refine g_iast S X Z ml_versionsTold rfl dX11_handWrite_165 h (fun M13 H locs Z h => ?_)
        refine lv_aload_n hx hb dX11_handWrite_166 rfl (lv_at hl 0 rfl) ?_
        refine mr_row S X Z hin hl_125 dX11_handWrite_167 ?_
        refine lv_aload_n hx hb dX11_handWrite_170 rfl (lv_at hl 0 rfl) ?_
        refine mr_servers S X Z hin hl_155 dX11_handWrite_171 h (fun v14 h => ?_)
        refine lv_iload_n hx hb dX11_handWrite_174 rfl (lv_at hl 1 rfl) ?_
        refine lv_iadd hx hb dX11_handWrite_175 ?_
        refine lv_aload_n hx hb dX11_handWrite_176 rfl (lv_at hl 0 rfl) ?_
        refine mr_versionsTold S X Z hin hl_113 dX11_handWrite_177 ?_
        refine lv_iload_n hx hb dX11_handWrite_180 rfl (lv_at hl 1 rfl) ?_
        refine g_iald S X Z ml_versionsTold rfl dX11_handWrite_181 h (fun v15 h => ?_)
        refine g_iast S X Z ml_row rfl dX11_handWrite_182 h (fun M16 H locs Z h => ?_)
        refine lv_aload_n hx hb dX11_handWrite_183 rfl (lv_at hl 0 rfl) ?_
        refine mr_versions S X Z hin hl_44 dX11_handWrite_184 ?_
        refine lv_iload hx hb dX11_handWrite_187 (lv_at hl 4 rfl) ?_
        refine g_iald S X Z ml_versions rfl dX11_handWrite_189 h (fun v17 h => ?_)
        obtain ⟨J254, eJ254, h⟩ := jn_e h
        have hJ254 : ∀ (M18 : gM) (H : Heap) (locs : List Loc) (ls : Array Slot), gZ D mLay dA mLive A (gA mLive A) s.heap M18 H locs → lv_has ls 10 [(0, .ref (A m_o)), (3, .int a3), (4, .int a4), (6, .int x1), (7, .int v6), (8, .int v7)] → J254 M18 = some y → W p l e (headSpec wmX11_handWrite ({ frames := 3, cells := 0, slots := 0, locals := 71 } : Room)).room s m args below meth c H locs 0 0 (MQ below (mQv D dA A y) args s 0 0 (gA mLive A)) (F0 m 254 ls []) := by
          intro M18 H locs ls Z hl h
          rw [eJ254] at h
          try dsimp only at h
          refine lv_bipush (v := (6 : Int32)) hx hb dX11_handWrite_254 (by decide) ?_
          refine lv_iload hx hb dX11_handWrite_256 (lv_at hl 3 rfl) ?_
          refine lv_imul hx hb dX11_handWrite_258 ?_
          refine lv_aload_n hx hb dX11_handWrite_259 rfl (lv_at hl 0 rfl) ?_
          refine mr_versions S X Z hin hl_44 dX11_handWrite_260 ?_
          refine lv_iload hx hb dX11_handWrite_263 (lv_at hl 3 rfl) ?_
          refine g_iald S X Z ml_versions rfl dX11_handWrite_265 h (fun v19 h => ?_)
          refine lv_iadd hx hb dX11_handWrite_266 ?_
          refine g_topi h (fun x20 h => ?_)
          refine lv_istore (lv' := [(9, .int x20), (0, .ref (A m_o)), (3, .int a3), (4, .int a4), (6, .int x1), (7, .int v6), (8, .int v7)]) hx hb dX11_handWrite_267 hl (by decide) rfl (fun ls hl => ?_)
          refine lv_aload_n hx hb dX11_handWrite_269 rfl (lv_at hl 1 rfl) ?_
          refine mr_versionValue S X Z hin hl_47 dX11_handWrite_270 ?_
          refine lv_iload hx hb dX11_handWrite_273 (lv_at hl 0 rfl) ?_
          refine lv_iload hx hb dX11_handWrite_275 (lv_at hl 5 rfl) ?_
          refine g_iast S X Z ml_versionValue rfl dX11_handWrite_277 h (fun M21 H locs Z h => ?_)
          refine lv_aload_n hx hb dX11_handWrite_278 rfl (lv_at hl 1 rfl) ?_
          refine mr_versionSize S X Z hin hl_50 dX11_handWrite_279 ?_
          refine lv_iload hx hb dX11_handWrite_282 (lv_at hl 0 rfl) ?_
          refine lv_iload hx hb dX11_handWrite_284 (lv_at hl 6 rfl) ?_
          refine g_iast S X Z ml_versionSize rfl dX11_handWrite_286 h (fun M22 H locs Z h => ?_)
          refine lv_aload_n hx hb dX11_handWrite_287 rfl (lv_at hl 1 rfl) ?_
          refine lv_aload_n hx hb dX11_handWrite_288 rfl (lv_at hl 1 rfl) ?_
          refine mr_row S X Z hin hl_125 dX11_handWrite_289 ?_
          refine lv_iconst (v := (0 : Int32)) hx hb dX11_handWrite_292 (by decide) ?_
          refine lv_aload_n hx hb dX11_handWrite_293 rfl (lv_at hl 1 rfl) ?_
          refine mr_versionVector S X Z hin hl_53 dX11_handWrite_294 ?_
          refine lv_iload hx hb dX11_handWrite_297 (lv_at hl 0 rfl) ?_
          obtain ⟨M24, hc23, h⟩ := o1_e h
          refine g_Vv (As := [.ref (A m_row), .int (0 : Int32), .ref (A m_versionVector), .int x20]) (rest := []) S X Z mlv_o rfl rfl (t_X11_copyTo l D dA A hJ ⟨ml_row, rfl⟩ ⟨ml_versionVector, rfl⟩ hc23) (cwV 4 hts (mGV (mB 139 rfl) (mB 140 rfl) (mB 141 rfl) (mB 63 rfl) (mB 97 rfl)) rfl rfl rfl (by decide +kernel) ⟨Nat.le_of_ble_eq_true rfl, Nat.le_of_ble_eq_true rfl⟩) rfl hl.1 rfl (Nat.le_of_ble_eq_true rfl) dX11_handWrite_299 ⟨Nat.zero_le _, Nat.zero_le _⟩ (fun H locs Z => ?_)
          refine lv_aload_n hx hb dX11_handWrite_302 rfl (lv_at hl 1 rfl) ?_
          refine mr_versions S X Z hin hl_44 dX11_handWrite_303 ?_
          refine lv_iload hx hb dX11_handWrite_306 (lv_at hl 4 rfl) ?_
          refine lv_dup2_11 hx hb dX11_handWrite_308 rfl rfl ?_
          refine g_iald S X Z ml_versions rfl dX11_handWrite_309 h (fun v25 h => ?_)
          refine lv_iconst (v := (1 : Int32)) hx hb dX11_handWrite_310 (by decide) ?_
          refine lv_iadd hx hb dX11_handWrite_311 ?_
          refine g_iast S X Z ml_versions rfl dX11_handWrite_312 h (fun M26 H locs Z h => ?_)
          refine lv_aload_n hx hb dX11_handWrite_313 rfl (lv_at hl 1 rfl) ?_
          refine lv_aload_n hx hb dX11_handWrite_314 rfl (lv_at hl 1 rfl) ?_
          refine mr_row S X Z hin hl_125 dX11_handWrite_315 ?_
          refine lv_iconst (v := (0 : Int32)) hx hb dX11_handWrite_318 (by decide) ?_
          refine lv_aload_n hx hb dX11_handWrite_319 rfl (lv_at hl 1 rfl) ?_
          refine mr_vector S X Z hin hl_41 dX11_handWrite_320 ?_
          refine lv_iload hx hb dX11_handWrite_323 (lv_at hl 4 rfl) ?_
          obtain ⟨M28, hc27, h⟩ := o1_e h
          refine g_Vv (As := [.ref (A m_row), .int (0 : Int32), .ref (A m_vector), .int x1]) (rest := []) S X Z mlv_o rfl rfl (t_X11_raise l D dA A hJ ⟨ml_row, rfl⟩ ⟨ml_vector, rfl⟩ hc27) (cwV 4 hts (mGV (mB 269 rfl) (mB 270 rfl) (mB 271 rfl) (mB 63 rfl) (mB 98 rfl)) rfl rfl rfl (by decide +kernel) ⟨Nat.le_of_ble_eq_true rfl, Nat.le_of_ble_eq_true rfl⟩) rfl hl.1 rfl (Nat.le_of_ble_eq_true rfl) dX11_handWrite_325 ⟨Nat.zero_le _, Nat.zero_le _⟩ (fun H locs Z => ?_)
          refine lv_aload_n hx hb dX11_handWrite_328 rfl (lv_at hl 1 rfl) ?_
          refine lv_iload_n hx hb dX11_handWrite_329 rfl (lv_at hl 2 rfl) ?_
          refine lv_iconst (v := (1 : Int32)) hx hb dX11_handWrite_330 (by decide) ?_
          refine lv_iload hx hb dX11_handWrite_331 (lv_at hl 3 rfl) ?_
          refine lv_ishl hx hb dX11_handWrite_333 ?_
          obtain ⟨M30, hc29, h⟩ := o1_e h
          refine g_Vv (As := [.int a3, .int ((1 : Int32) <<< (a4 &&& 31))]) (rest := []) S X Z mlv_o rfl rfl (t_X11_mark l D dA A hJ  hc29) (cwV 2 hts (mGV (mB 190 rfl) (mB 191 rfl) (mB 192 rfl) (mB 63 rfl) (mB 100 rfl)) rfl rfl rfl (by decide +kernel) ⟨Nat.le_of_ble_eq_true rfl, Nat.le_of_ble_eq_true rfl⟩) rfl hl.1 rfl (Nat.le_of_ble_eq_true rfl) dX11_handWrite_334 ⟨Nat.zero_le _, Nat.zero_le _⟩ (fun H locs Z => ?_)
          refine lv_aload_n hx hb dX11_handWrite_337 rfl (lv_at hl 1 rfl) ?_
          refine lv_aload_n hx hb dX11_handWrite_338 rfl (lv_at hl 1 rfl) ?_
          refine mr_vector S X Z hin hl_41 dX11_handWrite_339 ?_
          refine lv_iload hx hb dX11_handWrite_342 (lv_at hl 4 rfl) ?_
          refine lv_iconst (v := (1 : Int32)) hx hb dX11_handWrite_344 (by decide) ?_
          refine lv_iload hx hb dX11_handWrite_345 (lv_at hl 3 rfl) ?_
          refine lv_ishl hx hb dX11_handWrite_347 ?_
          refine lv_iload_n hx hb dX11_handWrite_348 rfl (lv_at hl 2 rfl) ?_
          obtain ⟨M32, hc31, h⟩ := o1_e h
          refine g_Vv (As := [.ref (A m_vector), .int x1, .int ((1 : Int32) <<< (a4 &&& 31)), .int a3]) (rest := []) S X Z mlv_o rfl rfl (t_X11_count l D dA A hJ ⟨ml_vector, rfl⟩ hc31) (cwV 4 hts (mGV (mB 193 rfl) (mB 194 rfl) (mB 195 rfl) (mB 63 rfl) (mB 101 rfl)) rfl rfl rfl (by decide +kernel) ⟨Nat.le_of_ble_eq_true rfl, Nat.le_of_ble_eq_true rfl⟩) rfl hl.1 rfl (Nat.le_of_ble_eq_true rfl) dX11_handWrite_349 ⟨Nat.zero_le _, Nat.zero_le _⟩ (fun H locs Z => ?_)
          refine lv_aload_n hx hb dX11_handWrite_352 rfl (lv_at hl 1 rfl) ?_
          refine lv_iload_n hx hb dX11_handWrite_353 rfl (lv_at hl 2 rfl) ?_
          refine lv_iconst (v := (1 : Int32)) hx hb dX11_handWrite_354 (by decide) ?_
          refine lv_iload hx hb dX11_handWrite_355 (lv_at hl 3 rfl) ?_
          refine lv_ishl hx hb dX11_handWrite_357 ?_
          refine lv_iconst (v := (-1 : Int32)) hx hb dX11_handWrite_358 (by decide) ?_
          obtain ⟨M34, hc33, h⟩ := o1_e h
          refine g_Vv (As := [.int a3, .int ((1 : Int32) <<< (a4 &&& 31)), .int (-1 : Int32)]) (rest := []) S X Z mlv_o rfl rfl (t_X11_endPromises l D dA A hJ  hc33) (cwV 3 hts (mGV (mB 211 rfl) (mB 212 rfl) (mB 213 rfl) (mB 63 rfl) (mB 196 rfl)) rfl rfl rfl (by decide +kernel) ⟨Nat.le_of_ble_eq_true rfl, Nat.le_of_ble_eq_true rfl⟩) rfl hl.1 rfl (Nat.le_of_ble_eq_true rfl) dX11_handWrite_359 ⟨Nat.zero_le _, Nat.zero_le _⟩ (fun H locs Z => ?_)
          have hy := Option.some.inj h
          subst hy
          exact g_rv S Z hr hlocks dX11_handWrite_362
        refine lv_if_ne (tgt := 254) hx hb dX11_handWrite_190 (by decide) (fun c35 => ?_) (fun c35 => ?_)
        · have h := if_f c35 h
          exact hJ254 M16 _ _ _ Z (lv_sub hl [0, 2, 3, 4, 5, 6] rfl) h
        · have h := if_t c35 h
          refine lv_aload_n hx hb dX11_handWrite_193 rfl (lv_at hl 0 rfl) ?_
          refine mr_versionValue S X Z hin hl_47 dX11_handWrite_194 ?_
          refine lv_bipush (v := (6 : Int32)) hx hb dX11_handWrite_197 (by decide) ?_
          refine lv_iload hx hb dX11_handWrite_199 (lv_at hl 4 rfl) ?_
          refine lv_imul hx hb dX11_handWrite_201 ?_
          refine lv_aload_n hx hb dX11_handWrite_202 rfl (lv_at hl 0 rfl) ?_
          refine mr_value S X Z hin hl_35 dX11_handWrite_203 ?_
          refine lv_iload hx hb dX11_handWrite_206 (lv_at hl 4 rfl) ?_
          refine g_iald S X Z ml_value rfl dX11_handWrite_208 h (fun v36 h => ?_)
          refine g_iast S X Z ml_versionValue rfl dX11_handWrite_209 h (fun M37 H locs Z h => ?_)
          refine lv_aload_n hx hb dX11_handWrite_210 rfl (lv_at hl 0 rfl) ?_
          refine mr_versionSize S X Z hin hl_50 dX11_handWrite_211 ?_
          refine lv_bipush (v := (6 : Int32)) hx hb dX11_handWrite_214 (by decide) ?_
          refine lv_iload hx hb dX11_handWrite_216 (lv_at hl 4 rfl) ?_
          refine lv_imul hx hb dX11_handWrite_218 ?_
          refine lv_aload_n hx hb dX11_handWrite_219 rfl (lv_at hl 0 rfl) ?_
          refine mr_size S X Z hin hl_38 dX11_handWrite_220 ?_
          refine lv_iload hx hb dX11_handWrite_223 (lv_at hl 4 rfl) ?_
          refine g_iald S X Z ml_size rfl dX11_handWrite_225 h (fun v38 h => ?_)
          refine g_iast S X Z ml_versionSize rfl dX11_handWrite_226 h (fun M39 H locs Z h => ?_)
          refine lv_aload_n hx hb dX11_handWrite_227 rfl (lv_at hl 0 rfl) ?_
          refine lv_aload_n hx hb dX11_handWrite_228 rfl (lv_at hl 0 rfl) ?_
          refine mr_vector S X Z hin hl_41 dX11_handWrite_229 ?_
          refine lv_iload hx hb dX11_handWrite_232 (lv_at hl 4 rfl) ?_
          refine lv_aload_n hx hb dX11_handWrite_234 rfl (lv_at hl 0 rfl) ?_
          refine mr_versionVector S X Z hin hl_53 dX11_handWrite_235 ?_
          refine lv_bipush (v := (6 : Int32)) hx hb dX11_handWrite_238 (by decide) ?_
          refine lv_iload hx hb dX11_handWrite_240 (lv_at hl 4 rfl) ?_
          refine lv_imul hx hb dX11_handWrite_242 ?_
          obtain ⟨M41, hc40, h⟩ := o1_e h
          refine g_Vv (As := [.ref (A m_vector), .int x1, .ref (A m_versionVector), .int ((6 : Int32) * x1)]) (rest := []) S X Z mlv_o rfl rfl (t_X11_copyTo l D dA A hJ ⟨ml_vector, rfl⟩ ⟨ml_versionVector, rfl⟩ hc40) (cwV 4 hts (mGV (mB 139 rfl) (mB 140 rfl) (mB 141 rfl) (mB 63 rfl) (mB 97 rfl)) rfl rfl rfl (by decide +kernel) ⟨Nat.le_of_ble_eq_true rfl, Nat.le_of_ble_eq_true rfl⟩) rfl hl.1 rfl (Nat.le_of_ble_eq_true rfl) dX11_handWrite_243 ⟨Nat.zero_le _, Nat.zero_le _⟩ (fun H locs Z => ?_)
          refine lv_aload_n hx hb dX11_handWrite_246 rfl (lv_at hl 0 rfl) ?_
          refine mr_versions S X Z hin hl_44 dX11_handWrite_247 ?_
          refine lv_iload hx hb dX11_handWrite_250 (lv_at hl 4 rfl) ?_
          refine lv_iconst (v := (1 : Int32)) hx hb dX11_handWrite_252 (by decide) ?_
          refine g_iast S X Z ml_versions rfl dX11_handWrite_253 h (fun M42 H locs Z h => ?_)
          exact hJ254 M42 _ _ _ Z (lv_sub hl [0, 2, 3, 4, 5, 6] rfl) h
      · have h := if_t c11 h
        refine lv_aload_n hx hb dX11_handWrite_145 rfl (lv_at hl 0 rfl) ?_
        refine lv_dup hx hb dX11_handWrite_146 rfl ?_
        refine mr_lost S X Z hin hl_385 dX11_handWrite_147 h (fun v43 h => ?_)
        refine lv_iconst (v := (1 : Int32)) hx hb dX11_handWrite_150 (by decide) ?_
        refine lv_iadd hx hb dX11_handWrite_151 ?_
        refine mp_lost S X Z hin hl_385 dX11_handWrite_152 h (fun M44 H locs Z h => ?_)
        have hy := Option.some.inj h
        subst hy
        exact g_rv S Z hr hlocks dX11_handWrite_155
    refine lv_if_ne (tgt := 133) hx hb dX11_handWrite_77 (by decide) (fun c45 => ?_) (fun c45 => ?_)
    · have h := if_f c45 h
      exact hJ133 M5 _ _ _ Z (lv_sub hl [3, 4, 6, 7, 2, 1, 0] rfl) h
    · have h := if_t c45 h
      refine lv_aload_n hx hb dX11_handWrite_80 rfl (lv_at hl 3 rfl) ?_
      refine lv_aload_n hx hb dX11_handWrite_81 rfl (lv_at hl 3 rfl) ?_
      refine mr_vector S X Z hin hl_41 dX11_handWrite_82 ?_
      refine lv_iload hx hb dX11_handWrite_85 (lv_at hl 2 rfl) ?_
      refine lv_aload_n hx hb dX11_handWrite_87 rfl (lv_at hl 3 rfl) ?_
      refine mr_row S X Z hin hl_125 dX11_handWrite_88 ?_
      refine lv_iconst (v := (0 : Int32)) hx hb dX11_handWrite_91 (by decide) ?_
      obtain ⟨v47, hc46, h⟩ := o1_e h
      refine g_Vi (As := [.ref (A m_vector), .int x1, .ref (A m_row), .int (0 : Int32)]) (rest := []) S X Z mlv_o rfl rfl (t_X11_isSame l D dA A hJ ⟨ml_vector, rfl⟩ ⟨ml_row, rfl⟩ hc46) (cwV 4 hts (mGV (mB 150 rfl) (mB 151 rfl) (mB 152 rfl) (mB 63 rfl) (mB 96 rfl)) rfl rfl rfl (by decide +kernel) ⟨Nat.le_of_ble_eq_true rfl, Nat.le_of_ble_eq_true rfl⟩) rfl hl.1 rfl (Nat.le_of_ble_eq_true rfl) dX11_handWrite_92 ⟨Nat.zero_le _, Nat.zero_le _⟩ (fun H locs Z => ?_)
      refine lv_if_eq (tgt := 133) hx hb dX11_handWrite_95 (by decide) (fun c48 => ?_) (fun c48 => ?_)
      · have h := if_t c48 h
        exact hJ133 M5 _ _ _ Z (lv_sub hl [3, 4, 6, 7, 2, 1, 0] rfl) h
      · have h := if_f c48 h
        refine lv_aload_n hx hb dX11_handWrite_98 rfl (lv_at hl 3 rfl) ?_
        refine lv_aload_n hx hb dX11_handWrite_99 rfl (lv_at hl 3 rfl) ?_
        refine lv_iload hx hb dX11_handWrite_100 (lv_at hl 8 rfl) ?_
        refine lv_iload_n hx hb dX11_handWrite_102 rfl (lv_at hl 6 rfl) ?_
        refine lv_aload_n hx hb dX11_handWrite_103 rfl (lv_at hl 3 rfl) ?_
        refine mr_row S X Z hin hl_125 dX11_handWrite_104 ?_
        obtain ⟨v50, hc49, h⟩ := o1_e h
        refine g_Vi (As := [.int a5, .int a3, .ref (A m_row)]) (rest := [.ref (A m_o)]) S X Z mlv_o rfl rfl (t_X11_setOf l D dA A hJ ⟨ml_row, rfl⟩ hc49) (cwV 3 hts (mGV (mB 228 rfl) (mB 229 rfl) (mB 230 rfl) (mB 63 rfl) (mB 185 rfl)) rfl rfl rfl (by decide +kernel) ⟨Nat.le_of_ble_eq_true rfl, Nat.le_of_ble_eq_true rfl⟩) rfl hl.1 rfl (Nat.le_of_ble_eq_true rfl) dX11_handWrite_107 ⟨Nat.zero_le _, Nat.zero_le _⟩ (fun H locs Z => ?_)
        refine mp_set S X Z hin hl_289 dX11_handWrite_110 h (fun M51 H locs Z h => ?_)
        refine lv_aload_n hx hb dX11_handWrite_113 rfl (lv_at hl 3 rfl) ?_
        refine lv_iload_n hx hb dX11_handWrite_114 rfl (lv_at hl 6 rfl) ?_
        refine lv_iload hx hb dX11_handWrite_115 (lv_at hl 1 rfl) ?_
        refine lv_iload hx hb dX11_handWrite_117 (lv_at hl 0 rfl) ?_
        obtain ⟨M53, hc52, h⟩ := o1_e h
        refine g_Vv (As := [.int a3, .int v6, .int v7]) (rest := []) S X Z mlv_o rfl rfl (t_X11_putValue l D dA A hJ  hc52) (cwV 3 hts (mGV (mB 231 rfl) (mB 232 rfl) (mB 233 rfl) (mB 63 rfl) (mB 197 rfl)) rfl rfl rfl (by decide +kernel) ⟨Nat.le_of_ble_eq_true rfl, Nat.le_of_ble_eq_true rfl⟩) rfl hl.1 rfl (Nat.le_of_ble_eq_true rfl) dX11_handWrite_119 ⟨Nat.zero_le _, Nat.zero_le _⟩ (fun H locs Z => ?_)
        refine lv_aload_n hx hb dX11_handWrite_122 rfl (lv_at hl 3 rfl) ?_
        refine lv_iload_n hx hb dX11_handWrite_123 rfl (lv_at hl 6 rfl) ?_
        refine lv_aload_n hx hb dX11_handWrite_124 rfl (lv_at hl 3 rfl) ?_
        refine mr_set S X Z hin hl_289 dX11_handWrite_125 h (fun v54 h => ?_)
        refine lv_iconst (v := (-1 : Int32)) hx hb dX11_handWrite_128 (by decide) ?_
        obtain ⟨M56, hc55, h⟩ := o1_e h
        refine g_Vv (As := [.int a3, .int v54, .int (-1 : Int32)]) (rest := []) S X Z mlv_o rfl rfl (t_X11_endPromises l D dA A hJ  hc55) (cwV 3 hts (mGV (mB 211 rfl) (mB 212 rfl) (mB 213 rfl) (mB 63 rfl) (mB 196 rfl)) rfl rfl rfl (by decide +kernel) ⟨Nat.le_of_ble_eq_true rfl, Nat.le_of_ble_eq_true rfl⟩) rfl hl.1 rfl (Nat.le_of_ble_eq_true rfl) dX11_handWrite_129 ⟨Nat.zero_le _, Nat.zero_le _⟩ (fun H locs Z => ?_)
        have hy := Option.some.inj h
        subst hy
        exact g_rv S Z hr hlocks dX11_handWrite_132
  · have h := if_t c3 h
    refine lv_aload_n hx hb dX11_handWrite_19 rfl (lv_at hl 1 rfl) ?_
    refine lv_dup hx hb dX11_handWrite_20 rfl ?_
    refine mr_lost S X Z hin hl_385 dX11_handWrite_21 h (fun v57 h => ?_)
    refine lv_iconst (v := (1 : Int32)) hx hb dX11_handWrite_24 (by decide) ?_
    refine lv_iadd hx hb dX11_handWrite_25 ?_
    refine mp_lost S X Z hin hl_385 dX11_handWrite_26 h (fun M58 H locs Z h => ?_)
    have hy := Option.some.inj h
    subst hy
    exact g_rv S Z hr hlocks dX11_handWrite_29
-- X11_handMake (IIII)V: 65 instructions
theorem dX11_handMake_0 : decode cX11_handMake 0 = .ok (.aload_n 0, 1) := by decide +kernel
theorem dX11_handMake_1 : decode cX11_handMake 1 = .ok (.getfield 32, 3) := by decide +kernel
theorem dX11_handMake_4 : decode cX11_handMake 4 = .ok (.bipush 48, 2) := by decide +kernel
theorem dX11_handMake_6 : decode cX11_handMake 6 = .ok (.iload_n 3, 1) := by decide +kernel
theorem dX11_handMake_7 : decode cX11_handMake 7 = .ok (.imul, 1) := by decide +kernel
theorem dX11_handMake_8 : decode cX11_handMake 8 = .ok (.iload_n 1, 1) := by decide +kernel
theorem dX11_handMake_9 : decode cX11_handMake 9 = .ok (.iadd, 1) := by decide +kernel
theorem dX11_handMake_10 : decode cX11_handMake 10 = .ok (.baload, 1) := by decide +kernel
theorem dX11_handMake_11 : decode cX11_handMake 11 = .ok (.ifCond .ne 14, 3) := by decide +kernel
theorem dX11_handMake_14 : decode cX11_handMake 14 = .ok (.aload_n 0, 1) := by decide +kernel
theorem dX11_handMake_15 : decode cX11_handMake 15 = .ok (.dup, 1) := by decide +kernel
theorem dX11_handMake_16 : decode cX11_handMake 16 = .ok (.getfield 385, 3) := by decide +kernel
theorem dX11_handMake_19 : decode cX11_handMake 19 = .ok (.iconst 1, 1) := by decide +kernel
theorem dX11_handMake_20 : decode cX11_handMake 20 = .ok (.iadd, 1) := by decide +kernel
theorem dX11_handMake_21 : decode cX11_handMake 21 = .ok (.putfield 385, 3) := by decide +kernel
theorem dX11_handMake_24 : decode cX11_handMake 24 = .ok (.return_, 1) := by decide +kernel
theorem dX11_handMake_25 : decode cX11_handMake 25 = .ok (.aload_n 0, 1) := by decide +kernel
theorem dX11_handMake_26 : decode cX11_handMake 26 = .ok (.iconst 0, 1) := by decide +kernel
theorem dX11_handMake_27 : decode cX11_handMake 27 = .ok (.putfield 289, 3) := by decide +kernel
theorem dX11_handMake_30 : decode cX11_handMake 30 = .ok (.iconst 0, 1) := by decide +kernel
theorem dX11_handMake_31 : decode cX11_handMake 31 = .ok (.istore 5, 2) := by decide +kernel
theorem dX11_handMake_33 : decode cX11_handMake 33 = .ok (.iload 5, 2) := by decide +kernel
theorem dX11_handMake_35 : decode cX11_handMake 35 = .ok (.aload_n 0, 1) := by decide +kernel
theorem dX11_handMake_36 : decode cX11_handMake 36 = .ok (.getfield 155, 3) := by decide +kernel
theorem dX11_handMake_39 : decode cX11_handMake 39 = .ok (.if_icmp .ge 55, 3) := by decide +kernel
theorem dX11_handMake_42 : decode cX11_handMake 42 = .ok (.aload_n 0, 1) := by decide +kernel
theorem dX11_handMake_43 : decode cX11_handMake 43 = .ok (.iload 4, 2) := by decide +kernel
theorem dX11_handMake_45 : decode cX11_handMake 45 = .ok (.iload 5, 2) := by decide +kernel
theorem dX11_handMake_47 : decode cX11_handMake 47 = .ok (.ishr, 1) := by decide +kernel
theorem dX11_handMake_48 : decode cX11_handMake 48 = .ok (.iconst 1, 1) := by decide +kernel
theorem dX11_handMake_49 : decode cX11_handMake 49 = .ok (.iand, 1) := by decide +kernel
theorem dX11_handMake_50 : decode cX11_handMake 50 = .ok (.iconst 1, 1) := by decide +kernel
theorem dX11_handMake_51 : decode cX11_handMake 51 = .ok (.if_icmp .ne 30, 3) := by decide +kernel
theorem dX11_handMake_54 : decode cX11_handMake 54 = .ok (.aload_n 0, 1) := by decide +kernel
theorem dX11_handMake_55 : decode cX11_handMake 55 = .ok (.getfield 32, 3) := by decide +kernel
theorem dX11_handMake_58 : decode cX11_handMake 58 = .ok (.bipush 48, 2) := by decide +kernel
theorem dX11_handMake_60 : decode cX11_handMake 60 = .ok (.iload 5, 2) := by decide +kernel
theorem dX11_handMake_62 : decode cX11_handMake 62 = .ok (.imul, 1) := by decide +kernel
theorem dX11_handMake_63 : decode cX11_handMake 63 = .ok (.iload_n 1, 1) := by decide +kernel
theorem dX11_handMake_64 : decode cX11_handMake 64 = .ok (.iadd, 1) := by decide +kernel
theorem dX11_handMake_65 : decode cX11_handMake 65 = .ok (.baload, 1) := by decide +kernel
theorem dX11_handMake_66 : decode cX11_handMake 66 = .ok (.ifCond .eq 15, 3) := by decide +kernel
theorem dX11_handMake_69 : decode cX11_handMake 69 = .ok (.aload_n 0, 1) := by decide +kernel
theorem dX11_handMake_70 : decode cX11_handMake 70 = .ok (.getfield 289, 3) := by decide +kernel
theorem dX11_handMake_73 : decode cX11_handMake 73 = .ok (.iconst 1, 1) := by decide +kernel
theorem dX11_handMake_74 : decode cX11_handMake 74 = .ok (.iload 5, 2) := by decide +kernel
theorem dX11_handMake_76 : decode cX11_handMake 76 = .ok (.ishl, 1) := by decide +kernel
theorem dX11_handMake_77 : decode cX11_handMake 77 = .ok (.ior, 1) := by decide +kernel
theorem dX11_handMake_78 : decode cX11_handMake 78 = .ok (.goto 7, 3) := by decide +kernel
theorem dX11_handMake_81 : decode cX11_handMake 81 = .ok (.aload_n 0, 1) := by decide +kernel
theorem dX11_handMake_82 : decode cX11_handMake 82 = .ok (.getfield 289, 3) := by decide +kernel
theorem dX11_handMake_85 : decode cX11_handMake 85 = .ok (.putfield 289, 3) := by decide +kernel
theorem dX11_handMake_88 : decode cX11_handMake 88 = .ok (.iinc 5 1, 3) := by decide +kernel
theorem dX11_handMake_91 : decode cX11_handMake 91 = .ok (.goto (-58), 3) := by decide +kernel
theorem dX11_handMake_94 : decode cX11_handMake 94 = .ok (.aload_n 0, 1) := by decide +kernel
theorem dX11_handMake_95 : decode cX11_handMake 95 = .ok (.iload_n 1, 1) := by decide +kernel
theorem dX11_handMake_96 : decode cX11_handMake 96 = .ok (.iload_n 2, 1) := by decide +kernel
theorem dX11_handMake_97 : decode cX11_handMake 97 = .ok (.invokevirtual 346, 3) := by decide +kernel
theorem dX11_handMake_100 : decode cX11_handMake 100 = .ok (.aload_n 0, 1) := by decide +kernel
theorem dX11_handMake_101 : decode cX11_handMake 101 = .ok (.iload_n 1, 1) := by decide +kernel
theorem dX11_handMake_102 : decode cX11_handMake 102 = .ok (.aload_n 0, 1) := by decide +kernel
theorem dX11_handMake_103 : decode cX11_handMake 103 = .ok (.getfield 289, 3) := by decide +kernel
theorem dX11_handMake_106 : decode cX11_handMake 106 = .ok (.iconst (-1), 1) := by decide +kernel
theorem dX11_handMake_107 : decode cX11_handMake 107 = .ok (.invokevirtual 315, 3) := by decide +kernel
theorem dX11_handMake_110 : decode cX11_handMake 110 = .ok (.return_, 1) := by decide +kernel
abbrev wmX11_handMake : List Cond := .code yX11_handMake cX11_handMake 6 none :: mBig
def f_X11_handMake_L33 (a1 : Int32) (a2 : Int32) (a4 : Int32) (J94 : gM → Option gM) : Nat → Int32 → gM → Option gM
  | 0, _, _ => none
  | n12 + 1, x10, M11 => lt (M11 m_o 0) (fun v13 => (if v13 ≤ x10 then J94 M11 else jn (fun (q : (Int32 × gM)) => match q with | (b15, M16) => lt (gset M16 m_o 51 b15) (fun M17 => lt (x10 + 1) (fun x18 => f_X11_handMake_L33 a1 a2 a4 J94 n12 x18 M17))) (fun J85 => jn (fun (M19 : gM) => lt (M19 m_o 51) (fun v20 => J85 (v20, M19))) (fun J81 => (if ((a4 >>> (x10 &&& 31)) &&& (1 : Int32)) = (1 : Int32) then rd M11 m_has 192 (((48 : Int32) * x10) + a1) (fun v22 => (if v22 = 0 then J81 M11 else lt (M11 m_o 51) (fun v24 => J85 ((v24 ||| ((1 : Int32) <<< (x10 &&& 31))), M11)))) else J81 M11)))))
def f_X11_handMake (M : gM) (a1 : Int32) (a2 : Int32) (a3 : Int32) (a4 : Int32) : Option gM :=
  rd M m_has 192 (((48 : Int32) * a3) + a1) (fun v1 => (if v1 = 0 then lt (M m_o 46) (fun v25 => lt (gset M m_o 46 (v25 + (1 : Int32))) (fun M26 => some M26)) else lt (gset M m_o 51 (0 : Int32)) (fun M3 => jn (fun (M4 : gM) => o1 (f_X11_putEntry M4 a1 a2) (fun M6 => lt (M6 m_o 51) (fun v7 => o1 (f_X11_endPromises M6 a1 v7 (-1 : Int32)) (fun M9 => some M9)))) (fun J94 => f_X11_handMake_L33 a1 a2 a4 J94 100 (0 : Int32) M3))))
set_option maxHeartbeats 4000000 in
set_option maxRecDepth 100000 in
theorem t_X11_handMake (l : Launch) (D : va_G) (dA : Nat → ClassId) (A : gI → Nat) (hJ : gJ mLive A) {M : gM} {a1 : Int32} {a2 : Int32} {a3 : Int32} {a4 : Int32}  {y : gM} (h : f_X11_handMake M a1 a2 a3 a4 = some y) : mMv l yX11_handMake wmX11_handMake ({ frames := 3, cells := 0, slots := 0, locals := 70 } : Room) D dA A [.ref (A m_o), .int a1, .int a2, .int a3, .int a4] M y := by
  refine Met.ofW (cc := cX11_handMake) (maxL := 6) (ret := none) (by decide) rfl ?_
  intro p e s m args below meth c s₁ B hml hv
  obtain ⟨rfl, hP, hK⟩ := hv
  generalize hargs : ([.ref (A m_o), .int a1, .int a2, .int a3, .int a4] : List Value).toArray = args at B ⊢
  have S : CallFix p m c cX11_handMake 6 s args wmX11_handMake RX11 := ⟨B.exec, B.bytes, hml, findClass_of_methodNamed B.named, atoms_spec (ws := wmX11_handMake) B.pre⟩
  obtain ⟨hx, hb, -, hown, hts⟩ := id S
  have hr := B.returns
  have hlocks := B.notSynchronized
  have X : gX D vwCl dA mLive A (gA mLive A) s := ⟨hK, hJ, fun i hi => ⟨i, hi, rfl⟩⟩
  have Z : gZ D mLay dA mLive A (gA mLive A) s.heap M s.heap [] := ⟨hP, va_S.rf⟩
  have hin : ∀ w ∈ wsX110, w ∈ wmX11_handMake := m_in
  have hl_32 := hts (.fieldLink RX11 32 "ReplicaFilesModel" "has" "[Z") (mBc 12 rfl)
  have hl_155 := hts (.fieldLink RX11 155 "ReplicaFilesModel" "servers" "I") (mBc 53 rfl)
  have hl_289 := hts (.fieldLink RX11 289 "ReplicaFilesModel" "set" "I") (mBc 188 rfl)
  have hl_385 := hts (.fieldLink RX11 385 "ReplicaFilesModel" "lost" "I") (mBc 268 rfl)
  have hl := lv_entry ([.ref (A m_o), .int a1, .int a2, .int a3, .int a4]) (n := 6) (Nat.le_of_ble_eq_true rfl)
  rw [← hargs, lg_entry_eq, hargs]
  generalize (lg_sl ([.ref (A m_o), .int a1, .int a2, .int a3, .int a4]) ++ List.replicate (6 - (lg_sl ([.ref (A m_o), .int a1, .int a2, .int a3, .int a4])).length) Slot.unset).toArray = ls at hl ⊢
  have hl : lv_has ls 6 [(0, .ref (A m_o)), (1, .int a1), (2, .int a2), (3, .int a3), (4, .int a4)] := hl
  unfold f_X11_handMake at h
  refine lv_aload_n hx hb dX11_handMake_0 rfl (lv_at hl 0 rfl) ?_
  refine mr_has S X Z hin hl_32 dX11_handMake_1 ?_
  refine lv_bipush (v := (48 : Int32)) hx hb dX11_handMake_4 (by decide) ?_
  refine lv_iload_n hx hb dX11_handMake_6 rfl (lv_at hl 3 rfl) ?_
  refine lv_imul hx hb dX11_handMake_7 ?_
  refine lv_iload_n hx hb dX11_handMake_8 rfl (lv_at hl 1 rfl) ?_
  refine lv_iadd hx hb dX11_handMake_9 ?_
  refine g_zald S X Z ml_has rfl dX11_handMake_10 h (fun v1 h => ?_)
  refine lv_if_ne (tgt := 25) hx hb dX11_handMake_11 (by decide) (fun c2 => ?_) (fun c2 => ?_)
  · have h := if_f c2 h
    refine lv_aload_n hx hb dX11_handMake_25 rfl (lv_at hl 0 rfl) ?_
    refine lv_iconst (v := (0 : Int32)) hx hb dX11_handMake_26 (by decide) ?_
    refine mp_set S X Z hin hl_289 dX11_handMake_27 h (fun M3 H locs Z h => ?_)
    refine lv_iconst (v := (0 : Int32)) hx hb dX11_handMake_30 (by decide) ?_
    refine lv_istore (lv' := [(5, .int (0 : Int32)), (0, .ref (A m_o)), (1, .int a1), (2, .int a2), (3, .int a3), (4, .int a4)]) hx hb dX11_handMake_31 hl (by decide) rfl (fun ls hl => ?_)
    obtain ⟨J94, eJ94, h⟩ := jn_e h
    have hJ94 : ∀ (M4 : gM) (H : Heap) (locs : List Loc) (ls : Array Slot), gZ D mLay dA mLive A (gA mLive A) s.heap M4 H locs → lv_has ls 6 [(0, .ref (A m_o)), (1, .int a1), (2, .int a2)] → J94 M4 = some y → W p l e (headSpec wmX11_handMake ({ frames := 3, cells := 0, slots := 0, locals := 70 } : Room)).room s m args below meth c H locs 0 0 (MQ below (mQv D dA A y) args s 0 0 (gA mLive A)) (F0 m 94 ls []) := by
      intro M4 H locs ls Z hl h
      rw [eJ94] at h
      try dsimp only at h
      refine lv_aload_n hx hb dX11_handMake_94 rfl (lv_at hl 0 rfl) ?_
      refine lv_iload_n hx hb dX11_handMake_95 rfl (lv_at hl 1 rfl) ?_
      refine lv_iload_n hx hb dX11_handMake_96 rfl (lv_at hl 2 rfl) ?_
      obtain ⟨M6, hc5, h⟩ := o1_e h
      refine g_Vv (As := [.int a1, .int a2]) (rest := []) S X Z mlv_o rfl rfl (t_X11_putEntry l D dA A hJ  hc5) (cwV 2 hts (mGV (mB 252 rfl) (mB 253 rfl) (mB 254 rfl) (mB 63 rfl) (mB 205 rfl)) rfl rfl rfl (by decide +kernel) ⟨Nat.le_of_ble_eq_true rfl, Nat.le_of_ble_eq_true rfl⟩) rfl hl.1 rfl (Nat.le_of_ble_eq_true rfl) dX11_handMake_97 ⟨Nat.zero_le _, Nat.zero_le _⟩ (fun H locs Z => ?_)
      refine lv_aload_n hx hb dX11_handMake_100 rfl (lv_at hl 0 rfl) ?_
      refine lv_iload_n hx hb dX11_handMake_101 rfl (lv_at hl 1 rfl) ?_
      refine lv_aload_n hx hb dX11_handMake_102 rfl (lv_at hl 0 rfl) ?_
      refine mr_set S X Z hin hl_289 dX11_handMake_103 h (fun v7 h => ?_)
      refine lv_iconst (v := (-1 : Int32)) hx hb dX11_handMake_106 (by decide) ?_
      obtain ⟨M9, hc8, h⟩ := o1_e h
      refine g_Vv (As := [.int a1, .int v7, .int (-1 : Int32)]) (rest := []) S X Z mlv_o rfl rfl (t_X11_endPromises l D dA A hJ  hc8) (cwV 3 hts (mGV (mB 211 rfl) (mB 212 rfl) (mB 213 rfl) (mB 63 rfl) (mB 196 rfl)) rfl rfl rfl (by decide +kernel) ⟨Nat.le_of_ble_eq_true rfl, Nat.le_of_ble_eq_true rfl⟩) rfl hl.1 rfl (Nat.le_of_ble_eq_true rfl) dX11_handMake_107 ⟨Nat.zero_le _, Nat.zero_le _⟩ (fun H locs Z => ?_)
      have hy := Option.some.inj h
      subst hy
      exact g_rv S Z hr hlocks dX11_handMake_110
    have hL33 : ∀ (n : Nat) (x10 : Int32) (M11 : gM) (H : Heap) (locs : List Loc) (ls : Array Slot), gZ D mLay dA mLive A (gA mLive A) s.heap M11 H locs → lv_has ls 6 [(0, .ref (A m_o)), (1, .int a1), (2, .int a2), (4, .int a4), (5, .int x10)] → f_X11_handMake_L33 a1 a2 a4 J94 n x10 M11 = some y → W p l e (headSpec wmX11_handMake ({ frames := 3, cells := 0, slots := 0, locals := 70 } : Room)).room s m args below meth c H locs 0 0 (MQ below (mQv D dA A y) args s 0 0 (gA mLive A)) (F0 m 33 ls []) := by
      intro n
      induction n with
      | zero =>
        intro x10 M11 H locs ls Z hl h
        rw [f_X11_handMake_L33] at h
        cases h
      | succ n12 ih33 =>
        intro x10 M11 H locs ls Z hl h
        rw [f_X11_handMake_L33] at h
        refine lv_iload hx hb dX11_handMake_33 (lv_at hl 4 rfl) ?_
        refine lv_aload_n hx hb dX11_handMake_35 rfl (lv_at hl 0 rfl) ?_
        refine mr_servers S X Z hin hl_155 dX11_handMake_36 h (fun v13 h => ?_)
        refine lv_icmp_ge (tgt := 94) hx hb dX11_handMake_39 (by decide) (fun c14 => ?_) (fun c14 => ?_)
        · have h := if_t c14 h
          exact hJ94 M11 _ _ _ Z (lv_sub hl [0, 1, 2] rfl) h
        · have h := if_f c14 h
          refine lv_aload_n hx hb dX11_handMake_42 rfl (lv_at hl 0 rfl) ?_
          refine lv_iload hx hb dX11_handMake_43 (lv_at hl 3 rfl) ?_
          refine lv_iload hx hb dX11_handMake_45 (lv_at hl 4 rfl) ?_
          refine lv_ishr hx hb dX11_handMake_47 ?_
          refine lv_iconst (v := (1 : Int32)) hx hb dX11_handMake_48 (by decide) ?_
          refine lv_iand hx hb dX11_handMake_49 ?_
          refine lv_iconst (v := (1 : Int32)) hx hb dX11_handMake_50 (by decide) ?_
          obtain ⟨J85, eJ85, h⟩ := jn_e h
          have hJ85 : ∀ (b15 : Int32) (M16 : gM) (H : Heap) (locs : List Loc) (ls : Array Slot), gZ D mLay dA mLive A (gA mLive A) s.heap M16 H locs → lv_has ls 6 [(0, .ref (A m_o)), (1, .int a1), (2, .int a2), (4, .int a4), (5, .int x10)] → J85 (b15, M16) = some y → W p l e (headSpec wmX11_handMake ({ frames := 3, cells := 0, slots := 0, locals := 70 } : Room)).room s m args below meth c H locs 0 0 (MQ below (mQv D dA A y) args s 0 0 (gA mLive A)) (F0 m 85 ls [.int b15, .ref (A m_o)]) := by
            intro b15 M16 H locs ls Z hl h
            rw [eJ85] at h
            try dsimp only at h
            refine mp_set S X Z hin hl_289 dX11_handMake_85 h (fun M17 H locs Z h => ?_)
            obtain ⟨x18, ex18, h⟩ := lt_e h
            refine lv_iinc (v := x18) (lv' := [(5, .int x18), (0, .ref (A m_o)), (1, .int a1), (2, .int a2), (4, .int a4)]) hx hb dX11_handMake_88 hl (k := 4) rfl (by rw [ex18]; rfl) (by decide) rfl (fun ls hl => ?_)
            refine lv_goto (tgt := 33) hx hb dX11_handMake_91 (by decide) ?_
            exact ih33 x18 M17 _ _ _ Z (lv_sub hl [1, 2, 3, 4, 0] rfl) h
          obtain ⟨J81, eJ81, h⟩ := jn_e h
          have hJ81 : ∀ (M19 : gM) (H : Heap) (locs : List Loc) (ls : Array Slot), gZ D mLay dA mLive A (gA mLive A) s.heap M19 H locs → lv_has ls 6 [(0, .ref (A m_o)), (1, .int a1), (2, .int a2), (4, .int a4), (5, .int x10)] → J81 M19 = some y → W p l e (headSpec wmX11_handMake ({ frames := 3, cells := 0, slots := 0, locals := 70 } : Room)).room s m args below meth c H locs 0 0 (MQ below (mQv D dA A y) args s 0 0 (gA mLive A)) (F0 m 81 ls [.ref (A m_o)]) := by
            intro M19 H locs ls Z hl h
            rw [eJ81] at h
            try dsimp only at h
            refine lv_aload_n hx hb dX11_handMake_81 rfl (lv_at hl 0 rfl) ?_
            refine mr_set S X Z hin hl_289 dX11_handMake_82 h (fun v20 h => ?_)
            exact hJ85 v20 M19 _ _ _ Z (lv_sub hl [0, 1, 2, 3, 4] rfl) h
          refine lv_icmp_ne (tgt := 81) hx hb dX11_handMake_51 (by decide) (fun c21 => ?_) (fun c21 => ?_)
          · have h := if_f c21 h
            exact hJ81 M11 _ _ _ Z (lv_sub hl [0, 1, 2, 3, 4] rfl) h
          · have h := if_t c21 h
            refine lv_aload_n hx hb dX11_handMake_54 rfl (lv_at hl 0 rfl) ?_
            refine mr_has S X Z hin hl_32 dX11_handMake_55 ?_
            refine lv_bipush (v := (48 : Int32)) hx hb dX11_handMake_58 (by decide) ?_
            refine lv_iload hx hb dX11_handMake_60 (lv_at hl 4 rfl) ?_
            refine lv_imul hx hb dX11_handMake_62 ?_
            refine lv_iload_n hx hb dX11_handMake_63 rfl (lv_at hl 1 rfl) ?_
            refine lv_iadd hx hb dX11_handMake_64 ?_
            refine g_zald S X Z ml_has rfl dX11_handMake_65 h (fun v22 h => ?_)
            refine lv_if_eq (tgt := 81) hx hb dX11_handMake_66 (by decide) (fun c23 => ?_) (fun c23 => ?_)
            · have h := if_t c23 h
              exact hJ81 M11 _ _ _ Z (lv_sub hl [0, 1, 2, 3, 4] rfl) h
            · have h := if_f c23 h
              refine lv_aload_n hx hb dX11_handMake_69 rfl (lv_at hl 0 rfl) ?_
              refine mr_set S X Z hin hl_289 dX11_handMake_70 h (fun v24 h => ?_)
              refine lv_iconst (v := (1 : Int32)) hx hb dX11_handMake_73 (by decide) ?_
              refine lv_iload hx hb dX11_handMake_74 (lv_at hl 4 rfl) ?_
              refine lv_ishl hx hb dX11_handMake_76 ?_
              refine lv_ior hx hb dX11_handMake_77 ?_
              refine lv_goto (tgt := 85) hx hb dX11_handMake_78 (by decide) ?_
              exact hJ85 (v24 ||| ((1 : Int32) <<< (x10 &&& 31))) M11 _ _ _ Z (lv_sub hl [0, 1, 2, 3, 4] rfl) h
    exact hL33 100 (0 : Int32) M3 _ _ _ Z (lv_sub hl [1, 2, 3, 5, 0] rfl) h
  · have h := if_t c2 h
    refine lv_aload_n hx hb dX11_handMake_14 rfl (lv_at hl 0 rfl) ?_
    refine lv_dup hx hb dX11_handMake_15 rfl ?_
    refine mr_lost S X Z hin hl_385 dX11_handMake_16 h (fun v25 h => ?_)
    refine lv_iconst (v := (1 : Int32)) hx hb dX11_handMake_19 (by decide) ?_
    refine lv_iadd hx hb dX11_handMake_20 ?_
    refine mp_lost S X Z hin hl_385 dX11_handMake_21 h (fun M26 H locs Z h => ?_)
    have hy := Option.some.inj h
    subst hy
    exact g_rv S Z hr hlocks dX11_handMake_24
