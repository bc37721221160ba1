-- X11_mergeDirectory (I)V: 147 instructions
theorem dX11_mergeDirectory_0 : decode cX11_mergeDirectory 0 = .ok (.aload_n 0, 1) := by decide +kernel
theorem dX11_mergeDirectory_1 : decode cX11_mergeDirectory 1 = .ok (.getfield 394, 3) := by decide +kernel
theorem dX11_mergeDirectory_4 : decode cX11_mergeDirectory 4 = .ok (.invokestatic 373, 3) := by decide +kernel
theorem dX11_mergeDirectory_7 : decode cX11_mergeDirectory 7 = .ok (.istore_n 2, 1) := by decide +kernel
theorem dX11_mergeDirectory_8 : decode cX11_mergeDirectory 8 = .ok (.iconst 1, 1) := by decide +kernel
theorem dX11_mergeDirectory_9 : decode cX11_mergeDirectory 9 = .ok (.istore_n 3, 1) := by decide +kernel
theorem dX11_mergeDirectory_10 : decode cX11_mergeDirectory 10 = .ok (.iconst 0, 1) := by decide +kernel
theorem dX11_mergeDirectory_11 : decode cX11_mergeDirectory 11 = .ok (.istore 4, 2) := by decide +kernel
theorem dX11_mergeDirectory_13 : decode cX11_mergeDirectory 13 = .ok (.iload 4, 2) := by decide +kernel
theorem dX11_mergeDirectory_15 : decode cX11_mergeDirectory 15 = .ok (.aload_n 0, 1) := by decide +kernel
theorem dX11_mergeDirectory_16 : decode cX11_mergeDirectory 16 = .ok (.getfield 155, 3) := by decide +kernel
theorem dX11_mergeDirectory_19 : decode cX11_mergeDirectory 19 = .ok (.if_icmp .ge 39, 3) := by decide +kernel
theorem dX11_mergeDirectory_22 : decode cX11_mergeDirectory 22 = .ok (.iload_n 3, 1) := by decide +kernel
theorem dX11_mergeDirectory_23 : decode cX11_mergeDirectory 23 = .ok (.ifCond .eq 27, 3) := by decide +kernel
theorem dX11_mergeDirectory_26 : decode cX11_mergeDirectory 26 = .ok (.aload_n 0, 1) := by decide +kernel
theorem dX11_mergeDirectory_27 : decode cX11_mergeDirectory 27 = .ok (.iload 4, 2) := by decide +kernel
theorem dX11_mergeDirectory_29 : decode cX11_mergeDirectory 29 = .ok (.invokevirtual 406, 3) := by decide +kernel
theorem dX11_mergeDirectory_32 : decode cX11_mergeDirectory 32 = .ok (.ifCond .eq 14, 3) := by decide +kernel
theorem dX11_mergeDirectory_35 : decode cX11_mergeDirectory 35 = .ok (.aload_n 0, 1) := by decide +kernel
theorem dX11_mergeDirectory_36 : decode cX11_mergeDirectory 36 = .ok (.iload_n 2, 1) := by decide +kernel
theorem dX11_mergeDirectory_37 : decode cX11_mergeDirectory 37 = .ok (.iload 4, 2) := by decide +kernel
theorem dX11_mergeDirectory_39 : decode cX11_mergeDirectory 39 = .ok (.iload_n 1, 1) := by decide +kernel
theorem dX11_mergeDirectory_40 : decode cX11_mergeDirectory 40 = .ok (.invokevirtual 436, 3) := by decide +kernel
theorem dX11_mergeDirectory_43 : decode cX11_mergeDirectory 43 = .ok (.ifCond .eq 7, 3) := by decide +kernel
theorem dX11_mergeDirectory_46 : decode cX11_mergeDirectory 46 = .ok (.iconst 1, 1) := by decide +kernel
theorem dX11_mergeDirectory_47 : decode cX11_mergeDirectory 47 = .ok (.goto 4, 3) := by decide +kernel
theorem dX11_mergeDirectory_50 : decode cX11_mergeDirectory 50 = .ok (.iconst 0, 1) := by decide +kernel
theorem dX11_mergeDirectory_51 : decode cX11_mergeDirectory 51 = .ok (.istore_n 3, 1) := by decide +kernel
theorem dX11_mergeDirectory_52 : decode cX11_mergeDirectory 52 = .ok (.iinc 4 1, 3) := by decide +kernel
theorem dX11_mergeDirectory_55 : decode cX11_mergeDirectory 55 = .ok (.goto (-42), 3) := by decide +kernel
theorem dX11_mergeDirectory_58 : decode cX11_mergeDirectory 58 = .ok (.iload_n 3, 1) := by decide +kernel
theorem dX11_mergeDirectory_59 : decode cX11_mergeDirectory 59 = .ok (.ifCond .eq 4, 3) := by decide +kernel
theorem dX11_mergeDirectory_62 : decode cX11_mergeDirectory 62 = .ok (.return_, 1) := by decide +kernel
theorem dX11_mergeDirectory_63 : decode cX11_mergeDirectory 63 = .ok (.aload_n 0, 1) := by decide +kernel
theorem dX11_mergeDirectory_64 : decode cX11_mergeDirectory 64 = .ok (.aload_n 0, 1) := by decide +kernel
theorem dX11_mergeDirectory_65 : decode cX11_mergeDirectory 65 = .ok (.getfield 125, 3) := by decide +kernel
theorem dX11_mergeDirectory_68 : decode cX11_mergeDirectory 68 = .ok (.iconst 0, 1) := by decide +kernel
theorem dX11_mergeDirectory_69 : decode cX11_mergeDirectory 69 = .ok (.invokevirtual 200, 3) := by decide +kernel
theorem dX11_mergeDirectory_72 : decode cX11_mergeDirectory 72 = .ok (.iconst 0, 1) := by decide +kernel
theorem dX11_mergeDirectory_73 : decode cX11_mergeDirectory 73 = .ok (.istore 4, 2) := by decide +kernel
theorem dX11_mergeDirectory_75 : decode cX11_mergeDirectory 75 = .ok (.iload 4, 2) := by decide +kernel
theorem dX11_mergeDirectory_77 : decode cX11_mergeDirectory 77 = .ok (.aload_n 0, 1) := by decide +kernel
theorem dX11_mergeDirectory_78 : decode cX11_mergeDirectory 78 = .ok (.getfield 155, 3) := by decide +kernel
theorem dX11_mergeDirectory_81 : decode cX11_mergeDirectory 81 = .ok (.if_icmp .ge 53, 3) := by decide +kernel
theorem dX11_mergeDirectory_84 : decode cX11_mergeDirectory 84 = .ok (.aload_n 0, 1) := by decide +kernel
theorem dX11_mergeDirectory_85 : decode cX11_mergeDirectory 85 = .ok (.iload 4, 2) := by decide +kernel
theorem dX11_mergeDirectory_87 : decode cX11_mergeDirectory 87 = .ok (.invokevirtual 406, 3) := by decide +kernel
theorem dX11_mergeDirectory_90 : decode cX11_mergeDirectory 90 = .ok (.ifCond .eq 38, 3) := by decide +kernel
theorem dX11_mergeDirectory_93 : decode cX11_mergeDirectory 93 = .ok (.aload_n 0, 1) := by decide +kernel
theorem dX11_mergeDirectory_94 : decode cX11_mergeDirectory 94 = .ok (.getfield 32, 3) := by decide +kernel
theorem dX11_mergeDirectory_97 : decode cX11_mergeDirectory 97 = .ok (.bipush 48, 2) := by decide +kernel
theorem dX11_mergeDirectory_99 : decode cX11_mergeDirectory 99 = .ok (.iload 4, 2) := by decide +kernel
theorem dX11_mergeDirectory_101 : decode cX11_mergeDirectory 101 = .ok (.imul, 1) := by decide +kernel
theorem dX11_mergeDirectory_102 : decode cX11_mergeDirectory 102 = .ok (.iload_n 1, 1) := by decide +kernel
theorem dX11_mergeDirectory_103 : decode cX11_mergeDirectory 103 = .ok (.iadd, 1) := by decide +kernel
theorem dX11_mergeDirectory_104 : decode cX11_mergeDirectory 104 = .ok (.baload, 1) := by decide +kernel
theorem dX11_mergeDirectory_105 : decode cX11_mergeDirectory 105 = .ok (.ifCond .eq 23, 3) := by decide +kernel
theorem dX11_mergeDirectory_108 : decode cX11_mergeDirectory 108 = .ok (.aload_n 0, 1) := by decide +kernel
theorem dX11_mergeDirectory_109 : decode cX11_mergeDirectory 109 = .ok (.aload_n 0, 1) := by decide +kernel
theorem dX11_mergeDirectory_110 : decode cX11_mergeDirectory 110 = .ok (.getfield 41, 3) := by decide +kernel
theorem dX11_mergeDirectory_113 : decode cX11_mergeDirectory 113 = .ok (.bipush 48, 2) := by decide +kernel
theorem dX11_mergeDirectory_115 : decode cX11_mergeDirectory 115 = .ok (.iload 4, 2) := by decide +kernel
theorem dX11_mergeDirectory_117 : decode cX11_mergeDirectory 117 = .ok (.imul, 1) := by decide +kernel
theorem dX11_mergeDirectory_118 : decode cX11_mergeDirectory 118 = .ok (.iload_n 1, 1) := by decide +kernel
theorem dX11_mergeDirectory_119 : decode cX11_mergeDirectory 119 = .ok (.iadd, 1) := by decide +kernel
theorem dX11_mergeDirectory_120 : decode cX11_mergeDirectory 120 = .ok (.aload_n 0, 1) := by decide +kernel
theorem dX11_mergeDirectory_121 : decode cX11_mergeDirectory 121 = .ok (.getfield 125, 3) := by decide +kernel
theorem dX11_mergeDirectory_124 : decode cX11_mergeDirectory 124 = .ok (.iconst 0, 1) := by decide +kernel
theorem dX11_mergeDirectory_125 : decode cX11_mergeDirectory 125 = .ok (.invokevirtual 388, 3) := by decide +kernel
theorem dX11_mergeDirectory_128 : decode cX11_mergeDirectory 128 = .ok (.iinc 4 1, 3) := by decide +kernel
theorem dX11_mergeDirectory_131 : decode cX11_mergeDirectory 131 = .ok (.goto (-56), 3) := by decide +kernel
theorem dX11_mergeDirectory_134 : decode cX11_mergeDirectory 134 = .ok (.aload_n 0, 1) := by decide +kernel
theorem dX11_mergeDirectory_135 : decode cX11_mergeDirectory 135 = .ok (.iload_n 1, 1) := by decide +kernel
theorem dX11_mergeDirectory_136 : decode cX11_mergeDirectory 136 = .ok (.aload_n 0, 1) := by decide +kernel
theorem dX11_mergeDirectory_137 : decode cX11_mergeDirectory 137 = .ok (.getfield 394, 3) := by decide +kernel
theorem dX11_mergeDirectory_140 : decode cX11_mergeDirectory 140 = .ok (.invokevirtual 292, 3) := by decide +kernel
theorem dX11_mergeDirectory_143 : decode cX11_mergeDirectory 143 = .ok (.aload_n 0, 1) := by decide +kernel
theorem dX11_mergeDirectory_144 : decode cX11_mergeDirectory 144 = .ok (.aload_n 0, 1) := by decide +kernel
theorem dX11_mergeDirectory_145 : decode cX11_mergeDirectory 145 = .ok (.getfield 125, 3) := by decide +kernel
theorem dX11_mergeDirectory_148 : decode cX11_mergeDirectory 148 = .ok (.iconst 0, 1) := by decide +kernel
theorem dX11_mergeDirectory_149 : decode cX11_mergeDirectory 149 = .ok (.aload_n 0, 1) := by decide +kernel
theorem dX11_mergeDirectory_150 : decode cX11_mergeDirectory 150 = .ok (.getfield 394, 3) := by decide +kernel
theorem dX11_mergeDirectory_153 : decode cX11_mergeDirectory 153 = .ok (.iload_n 1, 1) := by decide +kernel
theorem dX11_mergeDirectory_154 : decode cX11_mergeDirectory 154 = .ok (.invokevirtual 298, 3) := by decide +kernel
theorem dX11_mergeDirectory_157 : decode cX11_mergeDirectory 157 = .ok (.iconst 1, 1) := by decide +kernel
theorem dX11_mergeDirectory_158 : decode cX11_mergeDirectory 158 = .ok (.istore 4, 2) := by decide +kernel
theorem dX11_mergeDirectory_160 : decode cX11_mergeDirectory 160 = .ok (.iload 4, 2) := by decide +kernel
theorem dX11_mergeDirectory_162 : decode cX11_mergeDirectory 162 = .ok (.aload_n 0, 1) := by decide +kernel
theorem dX11_mergeDirectory_163 : decode cX11_mergeDirectory 163 = .ok (.getfield 162, 3) := by decide +kernel
theorem dX11_mergeDirectory_166 : decode cX11_mergeDirectory 166 = .ok (.if_icmp .ge 26, 3) := by decide +kernel
theorem dX11_mergeDirectory_169 : decode cX11_mergeDirectory 169 = .ok (.aload_n 0, 1) := by decide +kernel
theorem dX11_mergeDirectory_170 : decode cX11_mergeDirectory 170 = .ok (.iload 4, 2) := by decide +kernel
theorem dX11_mergeDirectory_172 : decode cX11_mergeDirectory 172 = .ok (.iload_n 1, 1) := by decide +kernel
theorem dX11_mergeDirectory_173 : decode cX11_mergeDirectory 173 = .ok (.invokevirtual 197, 3) := by decide +kernel
theorem dX11_mergeDirectory_176 : decode cX11_mergeDirectory 176 = .ok (.ifCond .eq 10, 3) := by decide +kernel
theorem dX11_mergeDirectory_179 : decode cX11_mergeDirectory 179 = .ok (.aload_n 0, 1) := by decide +kernel
theorem dX11_mergeDirectory_180 : decode cX11_mergeDirectory 180 = .ok (.iload_n 1, 1) := by decide +kernel
theorem dX11_mergeDirectory_181 : decode cX11_mergeDirectory 181 = .ok (.iload 4, 2) := by decide +kernel
theorem dX11_mergeDirectory_183 : decode cX11_mergeDirectory 183 = .ok (.invokevirtual 439, 3) := by decide +kernel
theorem dX11_mergeDirectory_186 : decode cX11_mergeDirectory 186 = .ok (.iinc 4 1, 3) := by decide +kernel
theorem dX11_mergeDirectory_189 : decode cX11_mergeDirectory 189 = .ok (.goto (-29), 3) := by decide +kernel
theorem dX11_mergeDirectory_192 : decode cX11_mergeDirectory 192 = .ok (.iconst 0, 1) := by decide +kernel
theorem dX11_mergeDirectory_193 : decode cX11_mergeDirectory 193 = .ok (.istore 4, 2) := by decide +kernel
theorem dX11_mergeDirectory_195 : decode cX11_mergeDirectory 195 = .ok (.iload 4, 2) := by decide +kernel
theorem dX11_mergeDirectory_197 : decode cX11_mergeDirectory 197 = .ok (.aload_n 0, 1) := by decide +kernel
theorem dX11_mergeDirectory_198 : decode cX11_mergeDirectory 198 = .ok (.getfield 155, 3) := by decide +kernel
theorem dX11_mergeDirectory_201 : decode cX11_mergeDirectory 201 = .ok (.if_icmp .ge 61, 3) := by decide +kernel
theorem dX11_mergeDirectory_204 : decode cX11_mergeDirectory 204 = .ok (.aload_n 0, 1) := by decide +kernel
theorem dX11_mergeDirectory_205 : decode cX11_mergeDirectory 205 = .ok (.iload 4, 2) := by decide +kernel
theorem dX11_mergeDirectory_207 : decode cX11_mergeDirectory 207 = .ok (.invokevirtual 406, 3) := by decide +kernel
theorem dX11_mergeDirectory_210 : decode cX11_mergeDirectory 210 = .ok (.ifCond .eq 46, 3) := by decide +kernel
theorem dX11_mergeDirectory_213 : decode cX11_mergeDirectory 213 = .ok (.aload_n 0, 1) := by decide +kernel
theorem dX11_mergeDirectory_214 : decode cX11_mergeDirectory 214 = .ok (.getfield 32, 3) := by decide +kernel
theorem dX11_mergeDirectory_217 : decode cX11_mergeDirectory 217 = .ok (.bipush 48, 2) := by decide +kernel
theorem dX11_mergeDirectory_219 : decode cX11_mergeDirectory 219 = .ok (.iload 4, 2) := by decide +kernel
theorem dX11_mergeDirectory_221 : decode cX11_mergeDirectory 221 = .ok (.imul, 1) := by decide +kernel
theorem dX11_mergeDirectory_222 : decode cX11_mergeDirectory 222 = .ok (.iload_n 1, 1) := by decide +kernel
theorem dX11_mergeDirectory_223 : decode cX11_mergeDirectory 223 = .ok (.iadd, 1) := by decide +kernel
theorem dX11_mergeDirectory_224 : decode cX11_mergeDirectory 224 = .ok (.iconst 1, 1) := by decide +kernel
theorem dX11_mergeDirectory_225 : decode cX11_mergeDirectory 225 = .ok (.bastore, 1) := by decide +kernel
theorem dX11_mergeDirectory_226 : decode cX11_mergeDirectory 226 = .ok (.aload_n 0, 1) := by decide +kernel
theorem dX11_mergeDirectory_227 : decode cX11_mergeDirectory 227 = .ok (.aload_n 0, 1) := by decide +kernel
theorem dX11_mergeDirectory_228 : decode cX11_mergeDirectory 228 = .ok (.getfield 125, 3) := by decide +kernel
theorem dX11_mergeDirectory_231 : decode cX11_mergeDirectory 231 = .ok (.iconst 0, 1) := by decide +kernel
theorem dX11_mergeDirectory_232 : decode cX11_mergeDirectory 232 = .ok (.aload_n 0, 1) := by decide +kernel
theorem dX11_mergeDirectory_233 : decode cX11_mergeDirectory 233 = .ok (.getfield 41, 3) := by decide +kernel
theorem dX11_mergeDirectory_236 : decode cX11_mergeDirectory 236 = .ok (.bipush 48, 2) := by decide +kernel
theorem dX11_mergeDirectory_238 : decode cX11_mergeDirectory 238 = .ok (.iload 4, 2) := by decide +kernel
theorem dX11_mergeDirectory_240 : decode cX11_mergeDirectory 240 = .ok (.imul, 1) := by decide +kernel
theorem dX11_mergeDirectory_241 : decode cX11_mergeDirectory 241 = .ok (.iload_n 1, 1) := by decide +kernel
theorem dX11_mergeDirectory_242 : decode cX11_mergeDirectory 242 = .ok (.iadd, 1) := by decide +kernel
theorem dX11_mergeDirectory_243 : decode cX11_mergeDirectory 243 = .ok (.invokevirtual 234, 3) := by decide +kernel
theorem dX11_mergeDirectory_246 : decode cX11_mergeDirectory 246 = .ok (.aload_n 0, 1) := by decide +kernel
theorem dX11_mergeDirectory_247 : decode cX11_mergeDirectory 247 = .ok (.dup, 1) := by decide +kernel
theorem dX11_mergeDirectory_248 : decode cX11_mergeDirectory 248 = .ok (.getfield 400, 3) := by decide +kernel
theorem dX11_mergeDirectory_251 : decode cX11_mergeDirectory 251 = .ok (.iconst 1, 1) := by decide +kernel
theorem dX11_mergeDirectory_252 : decode cX11_mergeDirectory 252 = .ok (.iadd, 1) := by decide +kernel
theorem dX11_mergeDirectory_253 : decode cX11_mergeDirectory 253 = .ok (.putfield 400, 3) := by decide +kernel
theorem dX11_mergeDirectory_256 : decode cX11_mergeDirectory 256 = .ok (.iinc 4 1, 3) := by decide +kernel
theorem dX11_mergeDirectory_259 : decode cX11_mergeDirectory 259 = .ok (.goto (-64), 3) := by decide +kernel
theorem dX11_mergeDirectory_262 : decode cX11_mergeDirectory 262 = .ok (.aload_n 0, 1) := by decide +kernel
theorem dX11_mergeDirectory_263 : decode cX11_mergeDirectory 263 = .ok (.iload_n 1, 1) := by decide +kernel
theorem dX11_mergeDirectory_264 : decode cX11_mergeDirectory 264 = .ok (.aload_n 0, 1) := by decide +kernel
theorem dX11_mergeDirectory_265 : decode cX11_mergeDirectory 265 = .ok (.getfield 394, 3) := by decide +kernel
theorem dX11_mergeDirectory_268 : decode cX11_mergeDirectory 268 = .ok (.iconst (-1), 1) := by decide +kernel
theorem dX11_mergeDirectory_269 : decode cX11_mergeDirectory 269 = .ok (.invokevirtual 315, 3) := by decide +kernel
theorem dX11_mergeDirectory_272 : decode cX11_mergeDirectory 272 = .ok (.return_, 1) := by decide +kernel
abbrev wmX11_mergeDirectory : List Cond := .code yX11_mergeDirectory cX11_mergeDirectory 5 none :: mBig
def f_X11_mergeDirectory_L195 (a1 : Int32) (J262 : gM → Option gM) : Nat → Int32 → gM → Option gM
  | 0, _, _ => none
  | n23 + 1, x21, M22 => lt (M22 m_o 0) (fun v24 => (if v24 ≤ x21 then J262 M22 else o1 (f_X11_isOf M22 x21) (fun v27 => jn (fun (M28 : gM) => lt (x21 + 1) (fun x29 => f_X11_mergeDirectory_L195 a1 J262 n23 x29 M28)) (fun J256 => (if v27 = 0 then J256 M22 else wz M22 m_has 192 (((48 : Int32) * x21) + a1) (1 : Int32) (fun M31 => o1 (f_X11_copyTo M31 m_row (0 : Int32) m_vector (((48 : Int32) * x21) + a1)) (fun M33 => lt (M33 m_o 55) (fun v34 => lt (gset M33 m_o 55 (v34 + (1 : Int32))) (fun M35 => J256 M35)))))))))
def f_X11_mergeDirectory_L160 (a1 : Int32) (J192 : gM → Option gM) : Nat → Int32 → gM → Option gM
  | 0, _, _ => none
  | n38 + 1, x36, M37 => lt (M37 m_o 6) (fun v39 => (if v39 ≤ x36 then J192 M37 else o1 (f_X11_isChild M37 x36 a1) (fun v42 => jn (fun (M43 : gM) => lt (x36 + 1) (fun x44 => f_X11_mergeDirectory_L160 a1 J192 n38 x44 M43)) (fun J186 => (if v42 = 0 then J186 M37 else o1 (f_X11_mergeEntry M37 a1 x36) (fun M47 => J186 M47))))))
def f_X11_mergeDirectory_L75 (a1 : Int32) (J134 : gM → Option gM) : Nat → Int32 → gM → Option gM
  | 0, _, _ => none
  | n50 + 1, x48, M49 => lt (M49 m_o 0) (fun v51 => (if v51 ≤ x48 then J134 M49 else o1 (f_X11_isOf M49 x48) (fun v54 => jn (fun (M55 : gM) => lt (x48 + 1) (fun x56 => f_X11_mergeDirectory_L75 a1 J134 n50 x56 M55)) (fun J128 => (if v54 = 0 then J128 M49 else rd M49 m_has 192 (((48 : Int32) * x48) + a1) (fun v58 => (if v58 = 0 then J128 M49 else o1 (f_X11_raise M49 m_vector (((48 : Int32) * x48) + a1) m_row (0 : Int32)) (fun M61 => J128 M61))))))))
def f_X11_mergeDirectory_L13 (a1 : Int32) (v3 : Int32) (J58 : (Int32 × gM) → Option gM) : Nat → Int32 → Int32 → gM → Option gM
  | 0, _, _, _ => none
  | n65 + 1, x62, x63, M64 => lt (M64 m_o 0) (fun v66 => (if v66 ≤ x63 then J58 (x62, M64) else jn (fun (q : (Int32 × gM)) => match q with | (b68, M69) => lt (x63 + 1) (fun x70 => f_X11_mergeDirectory_L13 a1 v3 J58 n65 b68 x70 M69)) (fun J51 => jn (fun (M71 : gM) => J51 ((0 : Int32), M71)) (fun J50 => (if x62 = 0 then J50 M64 else o1 (f_X11_isOf M64 x63) (fun v74 => jn (fun (M75 : gM) => J51 ((1 : Int32), M75)) (fun J46 => (if v74 = 0 then J46 M64 else o1 (f_X11_isLike M64 v3 x63 a1) (fun v78 => (if v78 = 0 then J50 M64 else J46 M64))))))))))
def f_X11_mergeDirectory (M : gM) (a1 : Int32) : Option gM :=
  lt (M m_o 53) (fun v1 => o1 (f_X11_leastOf M v1) (fun v3 => jn (fun (q : (Int32 × gM)) => match q with | (b4, M5) => (if b4 = 0 then o1 (f_X11_clearRow M5 m_row (0 : Int32)) (fun M8 => jn (fun (M9 : gM) => lt (M9 m_o 53) (fun v10 => o1 (f_X11_mark M9 a1 v10) (fun M12 => lt (M12 m_o 53) (fun v13 => o1 (f_X11_count M12 m_row (0 : Int32) v13 a1) (fun M15 => jn (fun (M16 : gM) => jn (fun (M17 : gM) => lt (M17 m_o 53) (fun v18 => o1 (f_X11_endPromises M17 a1 v18 (-1 : Int32)) (fun M20 => some M20))) (fun J262 => f_X11_mergeDirectory_L195 a1 J262 100 (0 : Int32) M16)) (fun J192 => f_X11_mergeDirectory_L160 a1 J192 100 (1 : Int32) M15)))))) (fun J134 => f_X11_mergeDirectory_L75 a1 J134 100 (0 : Int32) M8)) else some M5)) (fun J58 => f_X11_mergeDirectory_L13 a1 v3 J58 100 (1 : Int32) (0 : Int32) M)))
set_option maxHeartbeats 4000000 in
set_option maxRecDepth 100000 in
theorem t_X11_mergeDirectory (l : Launch) (D : va_G) (dA : Nat → ClassId) (A : gI → Nat) (hJ : gJ mLive A) {M : gM} {a1 : Int32}  {y : gM} (h : f_X11_mergeDirectory M a1 = some y) : mMv l yX11_mergeDirectory wmX11_mergeDirectory ({ frames := 2, cells := 0, slots := 0, locals := 54 } : Room) D dA A [.ref (A m_o), .int a1] M y := by
  refine Met.ofW (cc := cX11_mergeDirectory) (maxL := 5) (ret := none) (by decide) rfl ?_
  intro p e s m args below meth c s₁ B hml hv
  obtain ⟨rfl, hP, hK⟩ := hv
  generalize hargs : ([.ref (A m_o), .int a1] : List Value).toArray = args at B ⊢
  have S : CallFix p m c cX11_mergeDirectory 5 s args wmX11_mergeDirectory RX11 := ⟨B.exec, B.bytes, hml, findClass_of_methodNamed B.named, atoms_spec (ws := wmX11_mergeDirectory) B.pre⟩
  obtain ⟨hx, hb, -, hown, hts⟩ := id S
  have hr := B.returns
  have hlocks := B.notSynchronized
  have X : gX D vwCl dA mLive A (gA mLive A) s := ⟨hK, hJ, fun i hi => ⟨i, hi, rfl⟩⟩
  have Z : gZ D mLay dA mLive A (gA mLive A) s.heap M s.heap [] := ⟨hP, va_S.rf⟩
  have hin : ∀ w ∈ wsX110, w ∈ wmX11_mergeDirectory := m_in
  have hl_32 := hts (.fieldLink RX11 32 "ReplicaFilesModel" "has" "[Z") (mBc 12 rfl)
  have hl_41 := hts (.fieldLink RX11 41 "ReplicaFilesModel" "vector" "[I") (mBc 15 rfl)
  have hl_125 := hts (.fieldLink RX11 125 "ReplicaFilesModel" "row" "[I") (mBc 43 rfl)
  have hl_155 := hts (.fieldLink RX11 155 "ReplicaFilesModel" "servers" "I") (mBc 53 rfl)
  have hl_162 := hts (.fieldLink RX11 162 "ReplicaFilesModel" "made" "I") (mBc 55 rfl)
  have hl_394 := hts (.fieldLink RX11 394 "ReplicaFilesModel" "group" "I") (mBc 291 rfl)
  have hl_400 := hts (.fieldLink RX11 400 "ReplicaFilesModel" "changes" "I") (mBc 292 rfl)
  have hl := lv_entry ([.ref (A m_o), .int a1]) (n := 5) (Nat.le_of_ble_eq_true rfl)
  rw [← hargs, lg_entry_eq, hargs]
  generalize (lg_sl ([.ref (A m_o), .int a1]) ++ List.replicate (5 - (lg_sl ([.ref (A m_o), .int a1])).length) Slot.unset).toArray = ls at hl ⊢
  have hl : lv_has ls 5 [(0, .ref (A m_o)), (1, .int a1)] := hl
  unfold f_X11_mergeDirectory at h
  refine lv_aload_n hx hb dX11_mergeDirectory_0 rfl (lv_at hl 0 rfl) ?_
  refine mr_group S X Z hin hl_394 dX11_mergeDirectory_1 h (fun v1 h => ?_)
  obtain ⟨v3, hc2, h⟩ := o1_e h
  refine g_Si (As := [.int v1]) (rest := []) S X Z (t_X11_leastOf l D dA A hJ  hc2) (va_cwS 1 hts (mGS (mB 277 rfl) (mB 278 rfl) (mB 63 rfl) (mB 78 rfl)) rfl rfl rfl (by decide +kernel) ⟨Nat.le_of_ble_eq_true rfl, Nat.le_of_ble_eq_true rfl⟩) rfl hl.1 rfl (Nat.le_of_ble_eq_true rfl) dX11_mergeDirectory_4 ⟨Nat.zero_le _, Nat.zero_le _⟩ (fun H locs Z => ?_)
  refine lv_istore_n (lv' := [(2, .int v3), (0, .ref (A m_o)), (1, .int a1)]) hx hb dX11_mergeDirectory_7 rfl hl (by decide) rfl (fun ls hl => ?_)
  refine lv_iconst (v := (1 : Int32)) hx hb dX11_mergeDirectory_8 (by decide) ?_
  refine lv_istore_n (lv' := [(3, .int (1 : Int32)), (2, .int v3), (0, .ref (A m_o)), (1, .int a1)]) hx hb dX11_mergeDirectory_9 rfl hl (by decide) rfl (fun ls hl => ?_)
  refine lv_iconst (v := (0 : Int32)) hx hb dX11_mergeDirectory_10 (by decide) ?_
  refine lv_istore (lv' := [(4, .int (0 : Int32)), (3, .int (1 : Int32)), (2, .int v3), (0, .ref (A m_o)), (1, .int a1)]) hx hb dX11_mergeDirectory_11 hl (by decide) rfl (fun ls hl => ?_)
  obtain ⟨J58, eJ58, h⟩ := jn_e h
  have hJ58 : ∀ (b4 : Int32) (M5 : gM) (H : Heap) (locs : List Loc) (ls : Array Slot), gZ D mLay dA mLive A (gA mLive A) s.heap M5 H locs → lv_has ls 5 [(0, .ref (A m_o)), (1, .int a1), (3, .int b4)] → J58 (b4, M5) = some y → W p l e (headSpec wmX11_mergeDirectory ({ frames := 2, cells := 0, slots := 0, locals := 54 } : Room)).room s m args below meth c H locs 0 0 (MQ below (mQv D dA A y) args s 0 0 (gA mLive A)) (F0 m 58 ls []) := by
    intro b4 M5 H locs ls Z hl h
    rw [eJ58] at h
    try dsimp only at h
    refine lv_iload_n hx hb dX11_mergeDirectory_58 rfl (lv_at hl 2 rfl) ?_
    refine lv_if_eq (tgt := 63) hx hb dX11_mergeDirectory_59 (by decide) (fun c6 => ?_) (fun c6 => ?_)
    · have h := if_t c6 h
      refine lv_aload_n hx hb dX11_mergeDirectory_63 rfl (lv_at hl 0 rfl) ?_
      refine lv_aload_n hx hb dX11_mergeDirectory_64 rfl (lv_at hl 0 rfl) ?_
      refine mr_row S X Z hin hl_125 dX11_mergeDirectory_65 ?_
      refine lv_iconst (v := (0 : Int32)) hx hb dX11_mergeDirectory_68 (by decide) ?_
      obtain ⟨M8, hc7, h⟩ := o1_e h
      refine g_Vv (As := [.ref (A m_row), .int (0 : Int32)]) (rest := []) S X Z mlv_o rfl rfl (t_X11_clearRow l D dA A hJ ⟨ml_row, rfl⟩ hc7) (cwV 2 hts (mGV (mB 108 rfl) (mB 109 rfl) (mB 110 rfl) (mB 63 rfl) (mB 99 rfl)) rfl rfl rfl (by decide +kernel) ⟨Nat.le_of_ble_eq_true rfl, Nat.le_of_ble_eq_true rfl⟩) rfl hl.1 rfl (Nat.le_of_ble_eq_true rfl) dX11_mergeDirectory_69 ⟨Nat.zero_le _, Nat.zero_le _⟩ (fun H locs Z => ?_)
      refine lv_iconst (v := (0 : Int32)) hx hb dX11_mergeDirectory_72 (by decide) ?_
      refine lv_istore (lv' := [(4, .int (0 : Int32)), (0, .ref (A m_o)), (1, .int a1), (3, .int b4)]) hx hb dX11_mergeDirectory_73 hl (by decide) rfl (fun ls hl => ?_)
      obtain ⟨J134, eJ134, h⟩ := jn_e h
      have hJ134 : ∀ (M9 : gM) (H : Heap) (locs : List Loc) (ls : Array Slot), gZ D mLay dA mLive A (gA mLive A) s.heap M9 H locs → lv_has ls 5 [(0, .ref (A m_o)), (1, .int a1)] → J134 M9 = some y → W p l e (headSpec wmX11_mergeDirectory ({ frames := 2, cells := 0, slots := 0, locals := 54 } : Room)).room s m args below meth c H locs 0 0 (MQ below (mQv D dA A y) args s 0 0 (gA mLive A)) (F0 m 134 ls []) := by
        intro M9 H locs ls Z hl h
        rw [eJ134] at h
        try dsimp only at h
        refine lv_aload_n hx hb dX11_mergeDirectory_134 rfl (lv_at hl 0 rfl) ?_
        refine lv_iload_n hx hb dX11_mergeDirectory_135 rfl (lv_at hl 1 rfl) ?_
        refine lv_aload_n hx hb dX11_mergeDirectory_136 rfl (lv_at hl 0 rfl) ?_
        refine mr_group S X Z hin hl_394 dX11_mergeDirectory_137 h (fun v10 h => ?_)
        obtain ⟨M12, hc11, h⟩ := o1_e h
        refine g_Vv (As := [.int a1, .int v10]) (rest := []) S X Z mlv_o rfl rfl (t_X11_mark l D dA A hJ  hc11) (cwV 2 hts (mGV (mB 190 rfl) (mB 191 rfl) (mB 192 rfl) (mB 63 rfl) (mB 100 rfl)) rfl rfl rfl (by decide +kernel) ⟨Nat.le_of_ble_eq_true rfl, Nat.le_of_ble_eq_true rfl⟩) rfl hl.1 rfl (Nat.le_of_ble_eq_true rfl) dX11_mergeDirectory_140 ⟨Nat.zero_le _, Nat.zero_le _⟩ (fun H locs Z => ?_)
        refine lv_aload_n hx hb dX11_mergeDirectory_143 rfl (lv_at hl 0 rfl) ?_
        refine lv_aload_n hx hb dX11_mergeDirectory_144 rfl (lv_at hl 0 rfl) ?_
        refine mr_row S X Z hin hl_125 dX11_mergeDirectory_145 ?_
        refine lv_iconst (v := (0 : Int32)) hx hb dX11_mergeDirectory_148 (by decide) ?_
        refine lv_aload_n hx hb dX11_mergeDirectory_149 rfl (lv_at hl 0 rfl) ?_
        refine mr_group S X Z hin hl_394 dX11_mergeDirectory_150 h (fun v13 h => ?_)
        refine lv_iload_n hx hb dX11_mergeDirectory_153 rfl (lv_at hl 1 rfl) ?_
        obtain ⟨M15, hc14, h⟩ := o1_e h
        refine g_Vv (As := [.ref (A m_row), .int (0 : Int32), .int v13, .int a1]) (rest := []) S X Z mlv_o rfl rfl (t_X11_count l D dA A hJ ⟨ml_row, rfl⟩ hc14) (cwV 4 hts (mGV (mB 193 rfl) (mB 194 rfl) (mB 195 rfl) (mB 63 rfl) (mB 101 rfl)) rfl rfl rfl (by decide +kernel) ⟨Nat.le_of_ble_eq_true rfl, Nat.le_of_ble_eq_true rfl⟩) rfl hl.1 rfl (Nat.le_of_ble_eq_true rfl) dX11_mergeDirectory_154 ⟨Nat.zero_le _, Nat.zero_le _⟩ (fun H locs Z => ?_)
        refine lv_iconst (v := (1 : Int32)) hx hb dX11_mergeDirectory_157 (by decide) ?_
        refine lv_istore (lv' := [(4, .int (1 : Int32)), (0, .ref (A m_o)), (1, .int a1)]) hx hb dX11_mergeDirectory_158 hl (by decide) rfl (fun ls hl => ?_)
        obtain ⟨J192, eJ192, h⟩ := jn_e h
        have hJ192 : ∀ (M16 : gM) (H : Heap) (locs : List Loc) (ls : Array Slot), gZ D mLay dA mLive A (gA mLive A) s.heap M16 H locs → lv_has ls 5 [(0, .ref (A m_o)), (1, .int a1)] → J192 M16 = some y → W p l e (headSpec wmX11_mergeDirectory ({ frames := 2, cells := 0, slots := 0, locals := 54 } : Room)).room s m args below meth c H locs 0 0 (MQ below (mQv D dA A y) args s 0 0 (gA mLive A)) (F0 m 192 ls []) := by
          intro M16 H locs ls Z hl h
          rw [eJ192] at h
          try dsimp only at h
          refine lv_iconst (v := (0 : Int32)) hx hb dX11_mergeDirectory_192 (by decide) ?_
          refine lv_istore (lv' := [(4, .int (0 : Int32)), (0, .ref (A m_o)), (1, .int a1)]) hx hb dX11_mergeDirectory_193 hl (by decide) rfl (fun ls hl => ?_)
          obtain ⟨J262, eJ262, h⟩ := jn_e h
          have hJ262 : ∀ (M17 : gM) (H : Heap) (locs : List Loc) (ls : Array Slot), gZ D mLay dA mLive A (gA mLive A) s.heap M17 H locs → lv_has ls 5 [(0, .ref (A m_o)), (1, .int a1)] → J262 M17 = some y → W p l e (headSpec wmX11_mergeDirectory ({ frames := 2, cells := 0, slots := 0, locals := 54 } : Room)).room s m args below meth c H locs 0 0 (MQ below (mQv D dA A y) args s 0 0 (gA mLive A)) (F0 m 262 ls []) := by
            intro M17 H locs ls Z hl h
            rw [eJ262] at h
            try dsimp only at h
            refine lv_aload_n hx hb dX11_mergeDirectory_262 rfl (lv_at hl 0 rfl) ?_
            refine lv_iload_n hx hb dX11_mergeDirectory_263 rfl (lv_at hl 1 rfl) ?_
            refine lv_aload_n hx hb dX11_mergeDirectory_264 rfl (lv_at hl 0 rfl) ?_
            refine mr_group S X Z hin hl_394 dX11_mergeDirectory_265 h (fun v18 h => ?_)
            refine lv_iconst (v := (-1 : Int32)) hx hb dX11_mergeDirectory_268 (by decide) ?_
            obtain ⟨M20, hc19, h⟩ := o1_e h
            refine g_Vv (As := [.int a1, .int v18, .int (-1 : Int32)]) (rest := []) S X Z mlv_o rfl rfl (t_X11_endPromises l D dA A hJ  hc19) (cwV 3 hts (mGV (mB 211 rfl) (mB 212 rfl) (mB 213 rfl) (mB 63 rfl) (mB 196 rfl)) rfl rfl rfl (by decide +kernel) ⟨Nat.le_of_ble_eq_true rfl, Nat.le_of_ble_eq_true rfl⟩) rfl hl.1 rfl (Nat.le_of_ble_eq_true rfl) dX11_mergeDirectory_269 ⟨Nat.zero_le _, Nat.zero_le _⟩ (fun H locs Z => ?_)
            have hy := Option.some.inj h
            subst hy
            exact g_rv S Z hr hlocks dX11_mergeDirectory_272
          have hL195 : ∀ (n : Nat) (x21 : Int32) (M22 : gM) (H : Heap) (locs : List Loc) (ls : Array Slot), gZ D mLay dA mLive A (gA mLive A) s.heap M22 H locs → lv_has ls 5 [(0, .ref (A m_o)), (1, .int a1), (4, .int x21)] → f_X11_mergeDirectory_L195 a1 J262 n x21 M22 = some y → W p l e (headSpec wmX11_mergeDirectory ({ frames := 2, cells := 0, slots := 0, locals := 54 } : Room)).room s m args below meth c H locs 0 0 (MQ below (mQv D dA A y) args s 0 0 (gA mLive A)) (F0 m 195 ls []) := by
            intro n
            induction n with
            | zero =>
              intro x21 M22 H locs ls Z hl h
              rw [f_X11_mergeDirectory_L195] at h
              cases h
            | succ n23 ih195 =>
              intro x21 M22 H locs ls Z hl h
              rw [f_X11_mergeDirectory_L195] at h
              refine lv_iload hx hb dX11_mergeDirectory_195 (lv_at hl 2 rfl) ?_
              refine lv_aload_n hx hb dX11_mergeDirectory_197 rfl (lv_at hl 0 rfl) ?_
              refine mr_servers S X Z hin hl_155 dX11_mergeDirectory_198 h (fun v24 h => ?_)
              refine lv_icmp_ge (tgt := 262) hx hb dX11_mergeDirectory_201 (by decide) (fun c25 => ?_) (fun c25 => ?_)
              · have h := if_t c25 h
                exact hJ262 M22 _ _ _ Z (lv_sub hl [0, 1] rfl) h
              · have h := if_f c25 h
                refine lv_aload_n hx hb dX11_mergeDirectory_204 rfl (lv_at hl 0 rfl) ?_
                refine lv_iload hx hb dX11_mergeDirectory_205 (lv_at hl 2 rfl) ?_
                obtain ⟨v27, hc26, h⟩ := o1_e h
                refine g_Vi (As := [.int x21]) (rest := []) S X Z mlv_o rfl rfl (t_X11_isOf l D dA A hJ  hc26) (cwV 1 hts (mGV (mB 293 rfl) (mB 294 rfl) (mB 295 rfl) (mB 63 rfl) (mB 290 rfl)) rfl rfl rfl (by decide +kernel) ⟨Nat.le_of_ble_eq_true rfl, Nat.le_of_ble_eq_true rfl⟩) rfl hl.1 rfl (Nat.le_of_ble_eq_true rfl) dX11_mergeDirectory_207 ⟨Nat.zero_le _, Nat.zero_le _⟩ (fun H locs Z => ?_)
                obtain ⟨J256, eJ256, h⟩ := jn_e h
                have hJ256 : ∀ (M28 : gM) (H : Heap) (locs : List Loc) (ls : Array Slot), gZ D mLay dA mLive A (gA mLive A) s.heap M28 H locs → lv_has ls 5 [(0, .ref (A m_o)), (1, .int a1), (4, .int x21)] → J256 M28 = some y → W p l e (headSpec wmX11_mergeDirectory ({ frames := 2, cells := 0, slots := 0, locals := 54 } : Room)).room s m args below meth c H locs 0 0 (MQ below (mQv D dA A y) args s 0 0 (gA mLive A)) (F0 m 256 ls []) := by
                  intro M28 H locs ls Z hl h
                  rw [eJ256] at h
                  try dsimp only at h
                  obtain ⟨x29, ex29, h⟩ := lt_e h
                  refine lv_iinc (v := x29) (lv' := [(4, .int x29), (0, .ref (A m_o)), (1, .int a1)]) hx hb dX11_mergeDirectory_256 hl (k := 2) rfl (by rw [ex29]; rfl) (by decide) rfl (fun ls hl => ?_)
                  refine lv_goto (tgt := 195) hx hb dX11_mergeDirectory_259 (by decide) ?_
                  exact ih195 x29 M28 _ _ _ Z (lv_sub hl [1, 2, 0] rfl) h
                refine lv_if_eq (tgt := 256) hx hb dX11_mergeDirectory_210 (by decide) (fun c30 => ?_) (fun c30 => ?_)
                · have h := if_t c30 h
                  exact hJ256 M22 _ _ _ Z (lv_sub hl [0, 1, 2] rfl) h
                · have h := if_f c30 h
                  refine lv_aload_n hx hb dX11_mergeDirectory_213 rfl (lv_at hl 0 rfl) ?_
                  refine mr_has S X Z hin hl_32 dX11_mergeDirectory_214 ?_
                  refine lv_bipush (v := (48 : Int32)) hx hb dX11_mergeDirectory_217 (by decide) ?_
                  refine lv_iload hx hb dX11_mergeDirectory_219 (lv_at hl 2 rfl) ?_
                  refine lv_imul hx hb dX11_mergeDirectory_221 ?_
                  refine lv_iload_n hx hb dX11_mergeDirectory_222 rfl (lv_at hl 1 rfl) ?_
                  refine lv_iadd hx hb dX11_mergeDirectory_223 ?_
                  refine lv_iconst (v := (1 : Int32)) hx hb dX11_mergeDirectory_224 (by decide) ?_
                  refine g_zast S X Z ml_has rfl dX11_mergeDirectory_225 h (fun M31 H locs Z h => ?_)
                  refine lv_aload_n hx hb dX11_mergeDirectory_226 rfl (lv_at hl 0 rfl) ?_
                  refine lv_aload_n hx hb dX11_mergeDirectory_227 rfl (lv_at hl 0 rfl) ?_
                  refine mr_row S X Z hin hl_125 dX11_mergeDirectory_228 ?_
                  refine lv_iconst (v := (0 : Int32)) hx hb dX11_mergeDirectory_231 (by decide) ?_
                  refine lv_aload_n hx hb dX11_mergeDirectory_232 rfl (lv_at hl 0 rfl) ?_
                  refine mr_vector S X Z hin hl_41 dX11_mergeDirectory_233 ?_
                  refine lv_bipush (v := (48 : Int32)) hx hb dX11_mergeDirectory_236 (by decide) ?_
                  refine lv_iload hx hb dX11_mergeDirectory_238 (lv_at hl 2 rfl) ?_
                  refine lv_imul hx hb dX11_mergeDirectory_240 ?_
                  refine lv_iload_n hx hb dX11_mergeDirectory_241 rfl (lv_at hl 1 rfl) ?_
                  refine lv_iadd hx hb dX11_mergeDirectory_242 ?_
                  obtain ⟨M33, hc32, h⟩ := o1_e h
                  refine g_Vv (As := [.ref (A m_row), .int (0 : Int32), .ref (A m_vector), .int (((48 : Int32) * x21) + a1)]) (rest := []) S X Z mlv_o rfl rfl (t_X11_copyTo l D dA A hJ ⟨ml_row, rfl⟩ ⟨ml_vector, rfl⟩ hc32) (cwV 4 hts (mGV (mB 139 rfl) (mB 140 rfl) (mB 141 rfl) (mB 63 rfl) (mB 97 rfl)) rfl rfl rfl (by decide +kernel) ⟨Nat.le_of_ble_eq_true rfl, Nat.le_of_ble_eq_true rfl⟩) rfl hl.1 rfl (Nat.le_of_ble_eq_true rfl) dX11_mergeDirectory_243 ⟨Nat.zero_le _, Nat.zero_le _⟩ (fun H locs Z => ?_)
                  refine lv_aload_n hx hb dX11_mergeDirectory_246 rfl (lv_at hl 0 rfl) ?_
                  refine lv_dup hx hb dX11_mergeDirectory_247 rfl ?_
                  refine mr_changes S X Z hin hl_400 dX11_mergeDirectory_248 h (fun v34 h => ?_)
                  refine lv_iconst (v := (1 : Int32)) hx hb dX11_mergeDirectory_251 (by decide) ?_
                  refine lv_iadd hx hb dX11_mergeDirectory_252 ?_
                  refine mp_changes S X Z hin hl_400 dX11_mergeDirectory_253 h (fun M35 H locs Z h => ?_)
                  exact hJ256 M35 _ _ _ Z (lv_sub hl [0, 1, 2] rfl) h
          exact hL195 100 (0 : Int32) M16 _ _ _ Z (lv_sub hl [1, 2, 0] rfl) h
        have hL160 : ∀ (n : Nat) (x36 : Int32) (M37 : gM) (H : Heap) (locs : List Loc) (ls : Array Slot), gZ D mLay dA mLive A (gA mLive A) s.heap M37 H locs → lv_has ls 5 [(0, .ref (A m_o)), (1, .int a1), (4, .int x36)] → f_X11_mergeDirectory_L160 a1 J192 n x36 M37 = some y → W p l e (headSpec wmX11_mergeDirectory ({ frames := 2, cells := 0, slots := 0, locals := 54 } : Room)).room s m args below meth c H locs 0 0 (MQ below (mQv D dA A y) args s 0 0 (gA mLive A)) (F0 m 160 ls []) := by
          intro n
          induction n with
          | zero =>
            intro x36 M37 H locs ls Z hl h
            rw [f_X11_mergeDirectory_L160] at h
            cases h
          | succ n38 ih160 =>
            intro x36 M37 H locs ls Z hl h
            rw [f_X11_mergeDirectory_L160] at h
            refine lv_iload hx hb dX11_mergeDirectory_160 (lv_at hl 2 rfl) ?_
            refine lv_aload_n hx hb dX11_mergeDirectory_162 rfl (lv_at hl 0 rfl) ?_
            refine mr_made S X Z hin hl_162 dX11_mergeDirectory_163 h (fun v39 h => ?_)
            refine lv_icmp_ge (tgt := 192) hx hb dX11_mergeDirectory_166 (by decide) (fun c40 => ?_) (fun c40 => ?_)
            · have h := if_t c40 h
              exact hJ192 M37 _ _ _ Z (lv_sub hl [0, 1] rfl) h
            · have h := if_f c40 h
              refine lv_aload_n hx hb dX11_mergeDirectory_169 rfl (lv_at hl 0 rfl) ?_
              refine lv_iload hx hb dX11_mergeDirectory_170 (lv_at hl 2 rfl) ?_
              refine lv_iload_n hx hb dX11_mergeDirectory_172 rfl (lv_at hl 1 rfl) ?_
              obtain ⟨v42, hc41, h⟩ := o1_e h
              refine g_Vi (As := [.int x36, .int a1]) (rest := []) S X Z mlv_o rfl rfl (t_X11_isChild l D dA A hJ  hc41) (cwV 2 hts (mGV (mB 104 rfl) (mB 105 rfl) (mB 106 rfl) (mB 63 rfl) (mB 102 rfl)) rfl rfl rfl (by decide +kernel) ⟨Nat.le_of_ble_eq_true rfl, Nat.le_of_ble_eq_true rfl⟩) rfl hl.1 rfl (Nat.le_of_ble_eq_true rfl) dX11_mergeDirectory_173 ⟨Nat.zero_le _, Nat.zero_le _⟩ (fun H locs Z => ?_)
              obtain ⟨J186, eJ186, h⟩ := jn_e h
              have hJ186 : ∀ (M43 : gM) (H : Heap) (locs : List Loc) (ls : Array Slot), gZ D mLay dA mLive A (gA mLive A) s.heap M43 H locs → lv_has ls 5 [(0, .ref (A m_o)), (1, .int a1), (4, .int x36)] → J186 M43 = some y → W p l e (headSpec wmX11_mergeDirectory ({ frames := 2, cells := 0, slots := 0, locals := 54 } : Room)).room s m args below meth c H locs 0 0 (MQ below (mQv D dA A y) args s 0 0 (gA mLive A)) (F0 m 186 ls []) := by
                intro M43 H locs ls Z hl h
                rw [eJ186] at h
                try dsimp only at h
                obtain ⟨x44, ex44, h⟩ := lt_e h
                refine lv_iinc (v := x44) (lv' := [(4, .int x44), (0, .ref (A m_o)), (1, .int a1)]) hx hb dX11_mergeDirectory_186 hl (k := 2) rfl (by rw [ex44]; rfl) (by decide) rfl (fun ls hl => ?_)
                refine lv_goto (tgt := 160) hx hb dX11_mergeDirectory_189 (by decide) ?_
                exact ih160 x44 M43 _ _ _ Z (lv_sub hl [1, 2, 0] rfl) h
              refine lv_if_eq (tgt := 186) hx hb dX11_mergeDirectory_176 (by decide) (fun c45 => ?_) (fun c45 => ?_)
              · have h := if_t c45 h
                exact hJ186 M37 _ _ _ Z (lv_sub hl [0, 1, 2] rfl) h
              · have h := if_f c45 h
                refine lv_aload_n hx hb dX11_mergeDirectory_179 rfl (lv_at hl 0 rfl) ?_
                refine lv_iload_n hx hb dX11_mergeDirectory_180 rfl (lv_at hl 1 rfl) ?_
                refine lv_iload hx hb dX11_mergeDirectory_181 (lv_at hl 2 rfl) ?_
                obtain ⟨M47, hc46, h⟩ := o1_e h
                refine g_Vv (As := [.int a1, .int x36]) (rest := []) S X Z mlv_o rfl rfl (t_X11_mergeEntry l D dA A hJ  hc46) (cwV 2 hts (mGV (mB 314 rfl) (mB 315 rfl) (mB 316 rfl) (mB 63 rfl) (mB 310 rfl)) rfl rfl rfl (by decide +kernel) ⟨Nat.le_of_ble_eq_true rfl, Nat.le_of_ble_eq_true rfl⟩) rfl hl.1 rfl (Nat.le_of_ble_eq_true rfl) dX11_mergeDirectory_183 ⟨Nat.zero_le _, Nat.zero_le _⟩ (fun H locs Z => ?_)
                exact hJ186 M47 _ _ _ Z (lv_sub hl [0, 1, 2] rfl) h
        exact hL160 100 (1 : Int32) M15 _ _ _ Z (lv_sub hl [1, 2, 0] rfl) h
      have hL75 : ∀ (n : Nat) (x48 : Int32) (M49 : gM) (H : Heap) (locs : List Loc) (ls : Array Slot), gZ D mLay dA mLive A (gA mLive A) s.heap M49 H locs → lv_has ls 5 [(0, .ref (A m_o)), (1, .int a1), (4, .int x48)] → f_X11_mergeDirectory_L75 a1 J134 n x48 M49 = some y → W p l e (headSpec wmX11_mergeDirectory ({ frames := 2, cells := 0, slots := 0, locals := 54 } : Room)).room s m args below meth c H locs 0 0 (MQ below (mQv D dA A y) args s 0 0 (gA mLive A)) (F0 m 75 ls []) := by
        intro n
        induction n with
        | zero =>
          intro x48 M49 H locs ls Z hl h
          rw [f_X11_mergeDirectory_L75] at h
          cases h
        | succ n50 ih75 =>
          intro x48 M49 H locs ls Z hl h
          rw [f_X11_mergeDirectory_L75] at h
          refine lv_iload hx hb dX11_mergeDirectory_75 (lv_at hl 2 rfl) ?_
          refine lv_aload_n hx hb dX11_mergeDirectory_77 rfl (lv_at hl 0 rfl) ?_
          refine mr_servers S X Z hin hl_155 dX11_mergeDirectory_78 h (fun v51 h => ?_)
          refine lv_icmp_ge (tgt := 134) hx hb dX11_mergeDirectory_81 (by decide) (fun c52 => ?_) (fun c52 => ?_)
          · have h := if_t c52 h
            exact hJ134 M49 _ _ _ Z (lv_sub hl [0, 1] rfl) h
          · have h := if_f c52 h
            refine lv_aload_n hx hb dX11_mergeDirectory_84 rfl (lv_at hl 0 rfl) ?_
            refine lv_iload hx hb dX11_mergeDirectory_85 (lv_at hl 2 rfl) ?_
            obtain ⟨v54, hc53, h⟩ := o1_e h
            refine g_Vi (As := [.int x48]) (rest := []) S X Z mlv_o rfl rfl (t_X11_isOf l D dA A hJ  hc53) (cwV 1 hts (mGV (mB 293 rfl) (mB 294 rfl) (mB 295 rfl) (mB 63 rfl) (mB 290 rfl)) rfl rfl rfl (by decide +kernel) ⟨Nat.le_of_ble_eq_true rfl, Nat.le_of_ble_eq_true rfl⟩) rfl hl.1 rfl (Nat.le_of_ble_eq_true rfl) dX11_mergeDirectory_87 ⟨Nat.zero_le _, Nat.zero_le _⟩ (fun H locs Z => ?_)
            obtain ⟨J128, eJ128, h⟩ := jn_e h
            have hJ128 : ∀ (M55 : gM) (H : Heap) (locs : List Loc) (ls : Array Slot), gZ D mLay dA mLive A (gA mLive A) s.heap M55 H locs → lv_has ls 5 [(0, .ref (A m_o)), (1, .int a1), (4, .int x48)] → J128 M55 = some y → W p l e (headSpec wmX11_mergeDirectory ({ frames := 2, cells := 0, slots := 0, locals := 54 } : Room)).room s m args below meth c H locs 0 0 (MQ below (mQv D dA A y) args s 0 0 (gA mLive A)) (F0 m 128 ls []) := by
              intro M55 H locs ls Z hl h
              rw [eJ128] at h
              try dsimp only at h
              obtain ⟨x56, ex56, h⟩ := lt_e h
              refine lv_iinc (v := x56) (lv' := [(4, .int x56), (0, .ref (A m_o)), (1, .int a1)]) hx hb dX11_mergeDirectory_128 hl (k := 2) rfl (by rw [ex56]; rfl) (by decide) rfl (fun ls hl => ?_)
              refine lv_goto (tgt := 75) hx hb dX11_mergeDirectory_131 (by decide) ?_
              exact ih75 x56 M55 _ _ _ Z (lv_sub hl [1, 2, 0] rfl) h
            refine lv_if_eq (tgt := 128) hx hb dX11_mergeDirectory_90 (by decide) (fun c57 => ?_) (fun c57 => ?_)
            · have h := if_t c57 h
              exact hJ128 M49 _ _ _ Z (lv_sub hl [0, 1, 2] rfl) h
            · have h := if_f c57 h
              refine lv_aload_n hx hb dX11_mergeDirectory_93 rfl (lv_at hl 0 rfl) ?_
              refine mr_has S X Z hin hl_32 dX11_mergeDirectory_94 ?_
              refine lv_bipush (v := (48 : Int32)) hx hb dX11_mergeDirectory_97 (by decide) ?_
              refine lv_iload hx hb dX11_mergeDirectory_99 (lv_at hl 2 rfl) ?_
              refine lv_imul hx hb dX11_mergeDirectory_101 ?_
              refine lv_iload_n hx hb dX11_mergeDirectory_102 rfl (lv_at hl 1 rfl) ?_
              refine lv_iadd hx hb dX11_mergeDirectory_103 ?_
              refine g_zald S X Z ml_has rfl dX11_mergeDirectory_104 h (fun v58 h => ?_)
              refine lv_if_eq (tgt := 128) hx hb dX11_mergeDirectory_105 (by decide) (fun c59 => ?_) (fun c59 => ?_)
              · have h := if_t c59 h
                exact hJ128 M49 _ _ _ Z (lv_sub hl [0, 1, 2] rfl) h
              · have h := if_f c59 h
                refine lv_aload_n hx hb dX11_mergeDirectory_108 rfl (lv_at hl 0 rfl) ?_
                refine lv_aload_n hx hb dX11_mergeDirectory_109 rfl (lv_at hl 0 rfl) ?_
                refine mr_vector S X Z hin hl_41 dX11_mergeDirectory_110 ?_
                refine lv_bipush (v := (48 : Int32)) hx hb dX11_mergeDirectory_113 (by decide) ?_
                refine lv_iload hx hb dX11_mergeDirectory_115 (lv_at hl 2 rfl) ?_
                refine lv_imul hx hb dX11_mergeDirectory_117 ?_
                refine lv_iload_n hx hb dX11_mergeDirectory_118 rfl (lv_at hl 1 rfl) ?_
                refine lv_iadd hx hb dX11_mergeDirectory_119 ?_
                refine lv_aload_n hx hb dX11_mergeDirectory_120 rfl (lv_at hl 0 rfl) ?_
                refine mr_row S X Z hin hl_125 dX11_mergeDirectory_121 ?_
                refine lv_iconst (v := (0 : Int32)) hx hb dX11_mergeDirectory_124 (by decide) ?_
                obtain ⟨M61, hc60, h⟩ := o1_e h
                refine g_Vv (As := [.ref (A m_vector), .int (((48 : Int32) * x48) + a1), .ref (A m_row), .int (0 : Int32)]) (rest := []) S X Z mlv_o rfl rfl (t_X11_raise l D dA A hJ ⟨ml_vector, rfl⟩ ⟨ml_row, rfl⟩ hc60) (cwV 4 hts (mGV (mB 269 rfl) (mB 270 rfl) (mB 271 rfl) (mB 63 rfl) (mB 98 rfl)) rfl rfl rfl (by decide +kernel) ⟨Nat.le_of_ble_eq_true rfl, Nat.le_of_ble_eq_true rfl⟩) rfl hl.1 rfl (Nat.le_of_ble_eq_true rfl) dX11_mergeDirectory_125 ⟨Nat.zero_le _, Nat.zero_le _⟩ (fun H locs Z => ?_)
                exact hJ128 M61 _ _ _ Z (lv_sub hl [0, 1, 2] rfl) h
      exact hL75 100 (0 : Int32) M8 _ _ _ Z (lv_sub hl [1, 2, 0] rfl) h
    · have h := if_f c6 h
      have hy := Option.some.inj h
      subst hy
      exact g_rv S Z hr hlocks dX11_mergeDirectory_62
  have hL13 : ∀ (n : Nat) (x62 : Int32) (x63 : Int32) (M64 : gM) (H : Heap) (locs : List Loc) (ls : Array Slot), gZ D mLay dA mLive A (gA mLive A) s.heap M64 H locs → lv_has ls 5 [(0, .ref (A m_o)), (1, .int a1), (2, .int v3), (3, .int x62), (4, .int x63)] → f_X11_mergeDirectory_L13 a1 v3 J58 n x62 x63 M64 = some y → W p l e (headSpec wmX11_mergeDirectory ({ frames := 2, cells := 0, slots := 0, locals := 54 } : Room)).room s m args below meth c H locs 0 0 (MQ below (mQv D dA A y) args s 0 0 (gA mLive A)) (F0 m 13 ls []) := by
    intro n
    induction n with
    | zero =>
      intro x62 x63 M64 H locs ls Z hl h
      rw [f_X11_mergeDirectory_L13] at h
      cases h
    | succ n65 ih13 =>
      intro x62 x63 M64 H locs ls Z hl h
      rw [f_X11_mergeDirectory_L13] at h
      refine lv_iload hx hb dX11_mergeDirectory_13 (lv_at hl 4 rfl) ?_
      refine lv_aload_n hx hb dX11_mergeDirectory_15 rfl (lv_at hl 0 rfl) ?_
      refine mr_servers S X Z hin hl_155 dX11_mergeDirectory_16 h (fun v66 h => ?_)
      refine lv_icmp_ge (tgt := 58) hx hb dX11_mergeDirectory_19 (by decide) (fun c67 => ?_) (fun c67 => ?_)
      · have h := if_t c67 h
        exact hJ58 x62 M64 _ _ _ Z (lv_sub hl [0, 1, 3] rfl) h
      · have h := if_f c67 h
        refine lv_iload_n hx hb dX11_mergeDirectory_22 rfl (lv_at hl 3 rfl) ?_
        obtain ⟨J51, eJ51, h⟩ := jn_e h
        have hJ51 : ∀ (b68 : Int32) (M69 : gM) (H : Heap) (locs : List Loc) (ls : Array Slot), gZ D mLay dA mLive A (gA mLive A) s.heap M69 H locs → lv_has ls 5 [(0, .ref (A m_o)), (1, .int a1), (2, .int v3), (4, .int x63)] → J51 (b68, M69) = some y → W p l e (headSpec wmX11_mergeDirectory ({ frames := 2, cells := 0, slots := 0, locals := 54 } : Room)).room s m args below meth c H locs 0 0 (MQ below (mQv D dA A y) args s 0 0 (gA mLive A)) (F0 m 51 ls [.int b68]) := by
          intro b68 M69 H locs ls Z hl h
          rw [eJ51] at h
          try dsimp only at h
          refine lv_istore_n (lv' := [(3, .int b68), (0, .ref (A m_o)), (1, .int a1), (2, .int v3), (4, .int x63)]) hx hb dX11_mergeDirectory_51 rfl hl (by decide) rfl (fun ls hl => ?_)
          obtain ⟨x70, ex70, h⟩ := lt_e h
          refine lv_iinc (v := x70) (lv' := [(4, .int x70), (3, .int b68), (0, .ref (A m_o)), (1, .int a1), (2, .int v3)]) hx hb dX11_mergeDirectory_52 hl (k := 4) rfl (by rw [ex70]; rfl) (by decide) rfl (fun ls hl => ?_)
          refine lv_goto (tgt := 13) hx hb dX11_mergeDirectory_55 (by decide) ?_
          exact ih13 b68 x70 M69 _ _ _ Z (lv_sub hl [2, 3, 4, 1, 0] rfl) h
        obtain ⟨J50, eJ50, h⟩ := jn_e h
        have hJ50 : ∀ (M71 : gM) (H : Heap) (locs : List Loc) (ls : Array Slot), gZ D mLay dA mLive A (gA mLive A) s.heap M71 H locs → lv_has ls 5 [(0, .ref (A m_o)), (1, .int a1), (2, .int v3), (4, .int x63)] → J50 M71 = some y → W p l e (headSpec wmX11_mergeDirectory ({ frames := 2, cells := 0, slots := 0, locals := 54 } : Room)).room s m args below meth c H locs 0 0 (MQ below (mQv D dA A y) args s 0 0 (gA mLive A)) (F0 m 50 ls []) := by
          intro M71 H locs ls Z hl h
          rw [eJ50] at h
          try dsimp only at h
          refine lv_iconst (v := (0 : Int32)) hx hb dX11_mergeDirectory_50 (by decide) ?_
          exact hJ51 (0 : Int32) M71 _ _ _ Z (lv_sub hl [0, 1, 2, 3] rfl) h
        refine lv_if_eq (tgt := 50) hx hb dX11_mergeDirectory_23 (by decide) (fun c72 => ?_) (fun c72 => ?_)
        · have h := if_t c72 h
          exact hJ50 M64 _ _ _ Z (lv_sub hl [0, 1, 2, 4] rfl) h
        · have h := if_f c72 h
          refine lv_aload_n hx hb dX11_mergeDirectory_26 rfl (lv_at hl 0 rfl) ?_
          refine lv_iload hx hb dX11_mergeDirectory_27 (lv_at hl 4 rfl) ?_
          obtain ⟨v74, hc73, h⟩ := o1_e h
          refine g_Vi (As := [.int x63]) (rest := []) S X Z mlv_o rfl rfl (t_X11_isOf l D dA A hJ  hc73) (cwV 1 hts (mGV (mB 293 rfl) (mB 294 rfl) (mB 295 rfl) (mB 63 rfl) (mB 290 rfl)) rfl rfl rfl (by decide +kernel) ⟨Nat.le_of_ble_eq_true rfl, Nat.le_of_ble_eq_true rfl⟩) rfl hl.1 rfl (Nat.le_of_ble_eq_true rfl) dX11_mergeDirectory_29 ⟨Nat.zero_le _, Nat.zero_le _⟩ (fun H locs Z => ?_)
          obtain ⟨J46, eJ46, h⟩ := jn_e h
          have hJ46 : ∀ (M75 : gM) (H : Heap) (locs : List Loc) (ls : Array Slot), gZ D mLay dA mLive A (gA mLive A) s.heap M75 H locs → lv_has ls 5 [(0, .ref (A m_o)), (1, .int a1), (2, .int v3), (4, .int x63)] → J46 M75 = some y → W p l e (headSpec wmX11_mergeDirectory ({ frames := 2, cells := 0, slots := 0, locals := 54 } : Room)).room s m args below meth c H locs 0 0 (MQ below (mQv D dA A y) args s 0 0 (gA mLive A)) (F0 m 46 ls []) := by
            intro M75 H locs ls Z hl h
            rw [eJ46] at h
            try dsimp only at h
            refine lv_iconst (v := (1 : Int32)) hx hb dX11_mergeDirectory_46 (by decide) ?_
            refine lv_goto (tgt := 51) hx hb dX11_mergeDirectory_47 (by decide) ?_
            exact hJ51 (1 : Int32) M75 _ _ _ Z (lv_sub hl [0, 1, 2, 3] rfl) h
          refine lv_if_eq (tgt := 46) hx hb dX11_mergeDirectory_32 (by decide) (fun c76 => ?_) (fun c76 => ?_)
          · have h := if_t c76 h
            exact hJ46 M64 _ _ _ Z (lv_sub hl [0, 1, 2, 4] rfl) h
          · have h := if_f c76 h
            refine lv_aload_n hx hb dX11_mergeDirectory_35 rfl (lv_at hl 0 rfl) ?_
            refine lv_iload_n hx hb dX11_mergeDirectory_36 rfl (lv_at hl 2 rfl) ?_
            refine lv_iload hx hb dX11_mergeDirectory_37 (lv_at hl 4 rfl) ?_
            refine lv_iload_n hx hb dX11_mergeDirectory_39 rfl (lv_at hl 1 rfl) ?_
            obtain ⟨v78, hc77, h⟩ := o1_e h
            refine g_Vi (As := [.int v3, .int x63, .int a1]) (rest := []) S X Z mlv_o rfl rfl (t_X11_isLike l D dA A hJ  hc77) (cwV 3 hts (mGV (mB 311 rfl) (mB 312 rfl) (mB 313 rfl) (mB 63 rfl) (mB 309 rfl)) rfl rfl rfl (by decide +kernel) ⟨Nat.le_of_ble_eq_true rfl, Nat.le_of_ble_eq_true rfl⟩) rfl hl.1 rfl (Nat.le_of_ble_eq_true rfl) dX11_mergeDirectory_40 ⟨Nat.zero_le _, Nat.zero_le _⟩ (fun H locs Z => ?_)
            refine lv_if_eq (tgt := 50) hx hb dX11_mergeDirectory_43 (by decide) (fun c79 => ?_) (fun c79 => ?_)
            · have h := if_t c79 h
              exact hJ50 M64 _ _ _ Z (lv_sub hl [0, 1, 2, 4] rfl) h
            · have h := if_f c79 h
              exact hJ46 M64 _ _ _ Z (lv_sub hl [0, 1, 2, 4] rfl) h
  exact hL13 100 (1 : Int32) (0 : Int32) M _ _ _ Z (lv_sub hl [3, 4, 2, 1, 0] rfl) h
-- X11_addCandidate (II[II)V: 56 instructions
theorem dX11_addCandidate_0 : decode cX11_addCandidate 0 = .ok (.iconst 0, 1) := by decide +kernel
theorem dX11_addCandidate_1 : decode cX11_addCandidate 1 = .ok (.istore 5, 2) := by decide +kernel
theorem dX11_addCandidate_3 : decode cX11_addCandidate 3 = .ok (.iload 5, 2) := by decide +kernel
theorem dX11_addCandidate_5 : decode cX11_addCandidate 5 = .ok (.aload_n 0, 1) := by decide +kernel
theorem dX11_addCandidate_6 : decode cX11_addCandidate 6 = .ok (.getfield 442, 3) := by decide +kernel
theorem dX11_addCandidate_9 : decode cX11_addCandidate 9 = .ok (.if_icmp .ge 48, 3) := by decide +kernel
theorem dX11_addCandidate_12 : decode cX11_addCandidate 12 = .ok (.aload_n 0, 1) := by decide +kernel
theorem dX11_addCandidate_13 : decode cX11_addCandidate 13 = .ok (.getfield 143, 3) := by decide +kernel
theorem dX11_addCandidate_16 : decode cX11_addCandidate 16 = .ok (.iload 5, 2) := by decide +kernel
theorem dX11_addCandidate_18 : decode cX11_addCandidate 18 = .ok (.iaload, 1) := by decide +kernel
theorem dX11_addCandidate_19 : decode cX11_addCandidate 19 = .ok (.iload_n 1, 1) := by decide +kernel
theorem dX11_addCandidate_20 : decode cX11_addCandidate 20 = .ok (.if_icmp .ne 31, 3) := by decide +kernel
theorem dX11_addCandidate_23 : decode cX11_addCandidate 23 = .ok (.aload_n 0, 1) := by decide +kernel
theorem dX11_addCandidate_24 : decode cX11_addCandidate 24 = .ok (.getfield 146, 3) := by decide +kernel
theorem dX11_addCandidate_27 : decode cX11_addCandidate 27 = .ok (.iload 5, 2) := by decide +kernel
theorem dX11_addCandidate_29 : decode cX11_addCandidate 29 = .ok (.iaload, 1) := by decide +kernel
theorem dX11_addCandidate_30 : decode cX11_addCandidate 30 = .ok (.iload_n 2, 1) := by decide +kernel
theorem dX11_addCandidate_31 : decode cX11_addCandidate 31 = .ok (.if_icmp .ne 20, 3) := by decide +kernel
theorem dX11_addCandidate_34 : decode cX11_addCandidate 34 = .ok (.aload_n 0, 1) := by decide +kernel
theorem dX11_addCandidate_35 : decode cX11_addCandidate 35 = .ok (.aload_n 0, 1) := by decide +kernel
theorem dX11_addCandidate_36 : decode cX11_addCandidate 36 = .ok (.getfield 149, 3) := by decide +kernel
theorem dX11_addCandidate_39 : decode cX11_addCandidate 39 = .ok (.iload 5, 2) := by decide +kernel
theorem dX11_addCandidate_41 : decode cX11_addCandidate 41 = .ok (.aload_n 3, 1) := by decide +kernel
theorem dX11_addCandidate_42 : decode cX11_addCandidate 42 = .ok (.iload 4, 2) := by decide +kernel
theorem dX11_addCandidate_44 : decode cX11_addCandidate 44 = .ok (.invokevirtual 275, 3) := by decide +kernel
theorem dX11_addCandidate_47 : decode cX11_addCandidate 47 = .ok (.ifCond .eq 4, 3) := by decide +kernel
theorem dX11_addCandidate_50 : decode cX11_addCandidate 50 = .ok (.return_, 1) := by decide +kernel
theorem dX11_addCandidate_51 : decode cX11_addCandidate 51 = .ok (.iinc 5 1, 3) := by decide +kernel
theorem dX11_addCandidate_54 : decode cX11_addCandidate 54 = .ok (.goto (-51), 3) := by decide +kernel
theorem dX11_addCandidate_57 : decode cX11_addCandidate 57 = .ok (.aload_n 0, 1) := by decide +kernel
theorem dX11_addCandidate_58 : decode cX11_addCandidate 58 = .ok (.getfield 143, 3) := by decide +kernel
theorem dX11_addCandidate_61 : decode cX11_addCandidate 61 = .ok (.aload_n 0, 1) := by decide +kernel
theorem dX11_addCandidate_62 : decode cX11_addCandidate 62 = .ok (.getfield 442, 3) := by decide +kernel
theorem dX11_addCandidate_65 : decode cX11_addCandidate 65 = .ok (.iload_n 1, 1) := by decide +kernel
theorem dX11_addCandidate_66 : decode cX11_addCandidate 66 = .ok (.iastore, 1) := by decide +kernel
theorem dX11_addCandidate_67 : decode cX11_addCandidate 67 = .ok (.aload_n 0, 1) := by decide +kernel
theorem dX11_addCandidate_68 : decode cX11_addCandidate 68 = .ok (.getfield 146, 3) := by decide +kernel
theorem dX11_addCandidate_71 : decode cX11_addCandidate 71 = .ok (.aload_n 0, 1) := by decide +kernel
theorem dX11_addCandidate_72 : decode cX11_addCandidate 72 = .ok (.getfield 442, 3) := by decide +kernel
theorem dX11_addCandidate_75 : decode cX11_addCandidate 75 = .ok (.iload_n 2, 1) := by decide +kernel
theorem dX11_addCandidate_76 : decode cX11_addCandidate 76 = .ok (.iastore, 1) := by decide +kernel
theorem dX11_addCandidate_77 : decode cX11_addCandidate 77 = .ok (.aload_n 0, 1) := by decide +kernel
theorem dX11_addCandidate_78 : decode cX11_addCandidate 78 = .ok (.aload_n 3, 1) := by decide +kernel
theorem dX11_addCandidate_79 : decode cX11_addCandidate 79 = .ok (.iload 4, 2) := by decide +kernel
theorem dX11_addCandidate_81 : decode cX11_addCandidate 81 = .ok (.aload_n 0, 1) := by decide +kernel
theorem dX11_addCandidate_82 : decode cX11_addCandidate 82 = .ok (.getfield 149, 3) := by decide +kernel
theorem dX11_addCandidate_85 : decode cX11_addCandidate 85 = .ok (.aload_n 0, 1) := by decide +kernel
theorem dX11_addCandidate_86 : decode cX11_addCandidate 86 = .ok (.getfield 442, 3) := by decide +kernel
theorem dX11_addCandidate_89 : decode cX11_addCandidate 89 = .ok (.invokevirtual 234, 3) := by decide +kernel
theorem dX11_addCandidate_92 : decode cX11_addCandidate 92 = .ok (.aload_n 0, 1) := by decide +kernel
theorem dX11_addCandidate_93 : decode cX11_addCandidate 93 = .ok (.dup, 1) := by decide +kernel
theorem dX11_addCandidate_94 : decode cX11_addCandidate 94 = .ok (.getfield 442, 3) := by decide +kernel
theorem dX11_addCandidate_97 : decode cX11_addCandidate 97 = .ok (.iconst 1, 1) := by decide +kernel
theorem dX11_addCandidate_98 : decode cX11_addCandidate 98 = .ok (.iadd, 1) := by decide +kernel
theorem dX11_addCandidate_99 : decode cX11_addCandidate 99 = .ok (.putfield 442, 3) := by decide +kernel
theorem dX11_addCandidate_102 : decode cX11_addCandidate 102 = .ok (.return_, 1) := by decide +kernel
abbrev wmX11_addCandidate : List Cond := .code yX11_addCandidate cX11_addCandidate 6 none :: mBig
def f_X11_addCandidate_L3 (a1 : Int32) (a2 : Int32) (a3 : gI) (a4 : Int32) (J57 : gM → Option gM) : Nat → Int32 → gM → Option gM
  | 0, _, _ => none
  | n13 + 1, x11, M12 => lt (M12 m_o 61) (fun v14 => (if v14 ≤ x11 then J57 M12 else rd M12 m_candidateValue 24 x11 (fun v16 => jn (fun (M17 : gM) => lt (x11 + 1) (fun x18 => f_X11_addCandidate_L3 a1 a2 a3 a4 J57 n13 x18 M17)) (fun J51 => (if v16 = a1 then rd M12 m_candidateSize 24 x11 (fun v20 => (if v20 = a2 then o1 (f_X11_isSame M12 m_candidateVector x11 a3 a4) (fun v23 => (if v23 = 0 then J51 M12 else some M12)) else J51 M12)) else J51 M12)))))
def f_X11_addCandidate (M : gM) (a1 : Int32) (a2 : Int32) (a3 : gI) (a4 : Int32) : Option gM :=
  jn (fun (M1 : gM) => lt (M1 m_o 61) (fun v2 => wr M1 m_candidateValue 24 v2 a1 (fun M3 => lt (M3 m_o 61) (fun v4 => wr M3 m_candidateSize 24 v4 a2 (fun M5 => lt (M5 m_o 61) (fun v6 => o1 (f_X11_copyTo M5 a3 a4 m_candidateVector v6) (fun M8 => lt (M8 m_o 61) (fun v9 => lt (gset M8 m_o 61 (v9 + (1 : Int32))) (fun M10 => some M10))))))))) (fun J57 => f_X11_addCandidate_L3 a1 a2 a3 a4 J57 100 (0 : Int32) M)
set_option maxHeartbeats 4000000 in
set_option maxRecDepth 100000 in
theorem t_X11_addCandidate (l : Launch) (D : va_G) (dA : Nat → ClassId) (A : gI → Nat) (hJ : gJ mLive A) {M : gM} {a1 : Int32} {a2 : Int32} {a3 : gI} {a4 : Int32} (ha3 : mArr a3) {y : gM} (h : f_X11_addCandidate M a1 a2 a3 a4 = some y) : mMv l yX11_addCandidate wmX11_addCandidate ({ frames := 1, cells := 0, slots := 0, locals := 25 } : Room) D dA A [.ref (A m_o), .int a1, .int a2, .ref (A a3), .int a4] M y := by
  refine Met.ofW (cc := cX11_addCandidate) (maxL := 6) (ret := none) (by decide) rfl ?_
  intro p e s m args below meth c s₁ B hml hv
  obtain ⟨rfl, hP, hK⟩ := hv
  generalize hargs : ([.ref (A m_o), .int a1, .int a2, .ref (A a3), .int a4] : List Value).toArray = args at B ⊢
  have S : CallFix p m c cX11_addCandidate 6 s args wmX11_addCandidate RX11 := ⟨B.exec, B.bytes, hml, findClass_of_methodNamed B.named, atoms_spec (ws := wmX11_addCandidate) B.pre⟩
  obtain ⟨hx, hb, -, hown, hts⟩ := id S
  have hr := B.returns
  have hlocks := B.notSynchronized
  have X : gX D vwCl dA mLive A (gA mLive A) s := ⟨hK, hJ, fun i hi => ⟨i, hi, rfl⟩⟩
  have Z : gZ D mLay dA mLive A (gA mLive A) s.heap M s.heap [] := ⟨hP, va_S.rf⟩
  have hin : ∀ w ∈ wsX110, w ∈ wmX11_addCandidate := m_in
  have hl_143 := hts (.fieldLink RX11 143 "ReplicaFilesModel" "candidateValue" "[I") (mBc 49 rfl)
  have hl_146 := hts (.fieldLink RX11 146 "ReplicaFilesModel" "candidateSize" "[I") (mBc 50 rfl)
  have hl_149 := hts (.fieldLink RX11 149 "ReplicaFilesModel" "candidateVector" "[I") (mBc 51 rfl)
  have hl_442 := hts (.fieldLink RX11 442 "ReplicaFilesModel" "candidates" "I") (mBc 319 rfl)
  have hl := lv_entry ([.ref (A m_o), .int a1, .int a2, .ref (A a3), .int a4]) (n := 6) (Nat.le_of_ble_eq_true rfl)
  rw [← hargs, lg_entry_eq, hargs]
  generalize (lg_sl ([.ref (A m_o), .int a1, .int a2, .ref (A a3), .int a4]) ++ List.replicate (6 - (lg_sl ([.ref (A m_o), .int a1, .int a2, .ref (A a3), .int a4])).length) Slot.unset).toArray = ls at hl ⊢
  have hl : lv_has ls 6 [(0, .ref (A m_o)), (1, .int a1), (2, .int a2), (3, .ref (A a3)), (4, .int a4)] := hl
  unfold f_X11_addCandidate at h
  refine lv_iconst (v := (0 : Int32)) hx hb dX11_addCandidate_0 (by decide) ?_
  refine lv_istore (lv' := [(5, .int (0 : Int32)), (0, .ref (A m_o)), (1, .int a1), (2, .int a2), (3, .ref (A a3)), (4, .int a4)]) hx hb dX11_addCandidate_1 hl (by decide) rfl (fun ls hl => ?_)
  obtain ⟨J57, eJ57, h⟩ := jn_e h
  have hJ57 : ∀ (M1 : gM) (H : Heap) (locs : List Loc) (ls : Array Slot), gZ D mLay dA mLive A (gA mLive A) s.heap M1 H locs → lv_has ls 6 [(0, .ref (A m_o)), (1, .int a1), (2, .int a2), (3, .ref (A a3)), (4, .int a4)] → J57 M1 = some y → W p l e (headSpec wmX11_addCandidate ({ frames := 1, cells := 0, slots := 0, locals := 25 } : Room)).room s m args below meth c H locs 0 0 (MQ below (mQv D dA A y) args s 0 0 (gA mLive A)) (F0 m 57 ls []) := by
    intro M1 H locs ls Z hl h
    rw [eJ57] at h
    try dsimp only at h
    refine lv_aload_n hx hb dX11_addCandidate_57 rfl (lv_at hl 0 rfl) ?_
    refine mr_candidateValue S X Z hin hl_143 dX11_addCandidate_58 ?_
    refine lv_aload_n hx hb dX11_addCandidate_61 rfl (lv_at hl 0 rfl) ?_
    refine mr_candidates S X Z hin hl_442 dX11_addCandidate_62 h (fun v2 h => ?_)
    refine lv_iload_n hx hb dX11_addCandidate_65 rfl (lv_at hl 1 rfl) ?_
    refine g_iast S X Z ml_candidateValue rfl dX11_addCandidate_66 h (fun M3 H locs Z h => ?_)
    refine lv_aload_n hx hb dX11_addCandidate_67 rfl (lv_at hl 0 rfl) ?_
    refine mr_candidateSize S X Z hin hl_146 dX11_addCandidate_68 ?_
    refine lv_aload_n hx hb dX11_addCandidate_71 rfl (lv_at hl 0 rfl) ?_
    refine mr_candidates S X Z hin hl_442 dX11_addCandidate_72 h (fun v4 h => ?_)
    refine lv_iload_n hx hb dX11_addCandidate_75 rfl (lv_at hl 2 rfl) ?_
    refine g_iast S X Z ml_candidateSize rfl dX11_addCandidate_76 h (fun M5 H locs Z h => ?_)
    refine lv_aload_n hx hb dX11_addCandidate_77 rfl (lv_at hl 0 rfl) ?_
    refine lv_aload_n hx hb dX11_addCandidate_78 rfl (lv_at hl 3 rfl) ?_
    refine lv_iload hx hb dX11_addCandidate_79 (lv_at hl 4 rfl) ?_
    refine lv_aload_n hx hb dX11_addCandidate_81 rfl (lv_at hl 0 rfl) ?_
    refine mr_candidateVector S X Z hin hl_149 dX11_addCandidate_82 ?_
    refine lv_aload_n hx hb dX11_addCandidate_85 rfl (lv_at hl 0 rfl) ?_
    refine mr_candidates S X Z hin hl_442 dX11_addCandidate_86 h (fun v6 h => ?_)
    obtain ⟨M8, hc7, h⟩ := o1_e h
    refine g_Vv (As := [.ref (A a3), .int a4, .ref (A m_candidateVector), .int v6]) (rest := []) S X Z mlv_o rfl rfl (t_X11_copyTo l D dA A hJ ha3 ⟨ml_candidateVector, rfl⟩ hc7) (cwV 4 hts (mGV (mB 139 rfl) (mB 140 rfl) (mB 141 rfl) (mB 63 rfl) (mB 97 rfl)) rfl rfl rfl (by decide +kernel) ⟨Nat.le_of_ble_eq_true rfl, Nat.le_of_ble_eq_true rfl⟩) rfl hl.1 rfl (Nat.le_of_ble_eq_true rfl) dX11_addCandidate_89 ⟨Nat.zero_le _, Nat.zero_le _⟩ (fun H locs Z => ?_)
    refine lv_aload_n hx hb dX11_addCandidate_92 rfl (lv_at hl 0 rfl) ?_
    refine lv_dup hx hb dX11_addCandidate_93 rfl ?_
    refine mr_candidates S X Z hin hl_442 dX11_addCandidate_94 h (fun v9 h => ?_)
    refine lv_iconst (v := (1 : Int32)) hx hb dX11_addCandidate_97 (by decide) ?_
    refine lv_iadd hx hb dX11_addCandidate_98 ?_
    refine mp_candidates S X Z hin hl_442 dX11_addCandidate_99 h (fun M10 H locs Z h => ?_)
    have hy := Option.some.inj h
    subst hy
    exact g_rv S Z hr hlocks dX11_addCandidate_102
  have hL3 : ∀ (n : Nat) (x11 : Int32) (M12 : gM) (H : Heap) (locs : List Loc) (ls : Array Slot), gZ D mLay dA mLive A (gA mLive A) s.heap M12 H locs → lv_has ls 6 [(0, .ref (A m_o)), (1, .int a1), (2, .int a2), (3, .ref (A a3)), (4, .int a4), (5, .int x11)] → f_X11_addCandidate_L3 a1 a2 a3 a4 J57 n x11 M12 = some y → W p l e (headSpec wmX11_addCandidate ({ frames := 1, cells := 0, slots := 0, locals := 25 } : Room)).room s m args below meth c H locs 0 0 (MQ below (mQv D dA A y) args s 0 0 (gA mLive A)) (F0 m 3 ls []) := by
    intro n
    induction n with
    | zero =>
      intro x11 M12 H locs ls Z hl h
      rw [f_X11_addCandidate_L3] at h
      cases h
    | succ n13 ih3 =>
      intro x11 M12 H locs ls Z hl h
      rw [f_X11_addCandidate_L3] at h
      refine lv_iload hx hb dX11_addCandidate_3 (lv_at hl 5 rfl) ?_
      refine lv_aload_n hx hb dX11_addCandidate_5 rfl (lv_at hl 0 rfl) ?_
      refine mr_candidates S X Z hin hl_442 dX11_addCandidate_6 h (fun v14 h => ?_)
      refine lv_icmp_ge (tgt := 57) hx hb dX11_addCandidate_9 (by decide) (fun c15 => ?_) (fun c15 => ?_)
      · have h := if_t c15 h
        exact hJ57 M12 _ _ _ Z (lv_sub hl [0, 1, 2, 3, 4] rfl) h
      · have h := if_f c15 h
        refine lv_aload_n hx hb dX11_addCandidate_12 rfl (lv_at hl 0 rfl) ?_
        refine mr_candidateValue S X Z hin hl_143 dX11_addCandidate_13 ?_
        refine lv_iload hx hb dX11_addCandidate_16 (lv_at hl 5 rfl) ?_
        refine g_iald S X Z ml_candidateValue rfl dX11_addCandidate_18 h (fun v16 h => ?_)
        refine lv_iload_n hx hb dX11_addCandidate_19 rfl (lv_at hl 1 rfl) ?_
        obtain ⟨J51, eJ51, h⟩ := jn_e h
        have hJ51 : ∀ (M17 : gM) (H : Heap) (locs : List Loc) (ls : Array Slot), gZ D mLay dA mLive A (gA mLive A) s.heap M17 H locs → lv_has ls 6 [(0, .ref (A m_o)), (1, .int a1), (2, .int a2), (3, .ref (A a3)), (4, .int a4), (5, .int x11)] → J51 M17 = some y → W p l e (headSpec wmX11_addCandidate ({ frames := 1, cells := 0, slots := 0, locals := 25 } : Room)).room s m args below meth c H locs 0 0 (MQ below (mQv D dA A y) args s 0 0 (gA mLive A)) (F0 m 51 ls []) := by
          intro M17 H locs ls Z hl h
          rw [eJ51] at h
          try dsimp only at h
          obtain ⟨x18, ex18, h⟩ := lt_e h
          refine lv_iinc (v := x18) (lv' := [(5, .int x18), (0, .ref (A m_o)), (1, .int a1), (2, .int a2), (3, .ref (A a3)), (4, .int a4)]) hx hb dX11_addCandidate_51 hl (k := 5) rfl (by rw [ex18]; rfl) (by decide) rfl (fun ls hl => ?_)
          refine lv_goto (tgt := 3) hx hb dX11_addCandidate_54 (by decide) ?_
          exact ih3 x18 M17 _ _ _ Z (lv_sub hl [1, 2, 3, 4, 5, 0] rfl) h
        refine lv_icmp_ne (tgt := 51) hx hb dX11_addCandidate_20 (by decide) (fun c19 => ?_) (fun c19 => ?_)
        · have h := if_f c19 h
          exact hJ51 M12 _ _ _ Z (lv_sub hl [0, 1, 2, 3, 4, 5] rfl) h
        · have h := if_t c19 h
          refine lv_aload_n hx hb dX11_addCandidate_23 rfl (lv_at hl 0 rfl) ?_
          refine mr_candidateSize S X Z hin hl_146 dX11_addCandidate_24 ?_
          refine lv_iload hx hb dX11_addCandidate_27 (lv_at hl 5 rfl) ?_
          refine g_iald S X Z ml_candidateSize rfl dX11_addCandidate_29 h (fun v20 h => ?_)
          refine lv_iload_n hx hb dX11_addCandidate_30 rfl (lv_at hl 2 rfl) ?_
          refine lv_icmp_ne (tgt := 51) hx hb dX11_addCandidate_31 (by decide) (fun c21 => ?_) (fun c21 => ?_)
          · have h := if_f c21 h
            exact hJ51 M12 _ _ _ Z (lv_sub hl [0, 1, 2, 3, 4, 5] rfl) h
          · have h := if_t c21 h
            refine lv_aload_n hx hb dX11_addCandidate_34 rfl (lv_at hl 0 rfl) ?_
            refine lv_aload_n hx hb dX11_addCandidate_35 rfl (lv_at hl 0 rfl) ?_
            refine mr_candidateVector S X Z hin hl_149 dX11_addCandidate_36 ?_
            refine lv_iload hx hb dX11_addCandidate_39 (lv_at hl 5 rfl) ?_
            refine lv_aload_n hx hb dX11_addCandidate_41 rfl (lv_at hl 3 rfl) ?_
            refine lv_iload hx hb dX11_addCandidate_42 (lv_at hl 4 rfl) ?_
            obtain ⟨v23, hc22, h⟩ := o1_e h
            refine g_Vi (As := [.ref (A m_candidateVector), .int x11, .ref (A a3), .int a4]) (rest := []) S X Z mlv_o rfl rfl (t_X11_isSame l D dA A hJ ⟨ml_candidateVector, rfl⟩ ha3 hc22) (cwV 4 hts (mGV (mB 150 rfl) (mB 151 rfl) (mB 152 rfl) (mB 63 rfl) (mB 96 rfl)) rfl rfl rfl (by decide +kernel) ⟨Nat.le_of_ble_eq_true rfl, Nat.le_of_ble_eq_true rfl⟩) rfl hl.1 rfl (Nat.le_of_ble_eq_true rfl) dX11_addCandidate_44 ⟨Nat.zero_le _, Nat.zero_le _⟩ (fun H locs Z => ?_)
            refine lv_if_eq (tgt := 51) hx hb dX11_addCandidate_47 (by decide) (fun c24 => ?_) (fun c24 => ?_)
            · have h := if_t c24 h
              exact hJ51 M12 _ _ _ Z (lv_sub hl [0, 1, 2, 3, 4, 5] rfl) h
            · have h := if_f c24 h
              have hy := Option.some.inj h
              subst hy
              exact g_rv S Z hr hlocks dX11_addCandidate_50
  exact hL3 100 (0 : Int32) M _ _ _ Z (lv_sub hl [1, 2, 3, 4, 5, 0] rfl) h
-- X11_gather (I)V: 183 instructions
theorem dX11_gather_0 : decode cX11_gather 0 = .ok (.aload_n 0, 1) := by decide +kernel
theorem dX11_gather_1 : decode cX11_gather 1 = .ok (.iconst 0, 1) := by decide +kernel
theorem dX11_gather_2 : decode cX11_gather 2 = .ok (.putfield 442, 3) := by decide +kernel
theorem dX11_gather_5 : decode cX11_gather 5 = .ok (.iconst 0, 1) := by decide +kernel
theorem dX11_gather_6 : decode cX11_gather 6 = .ok (.istore_n 2, 1) := by decide +kernel
theorem dX11_gather_7 : decode cX11_gather 7 = .ok (.iload_n 2, 1) := by decide +kernel
theorem dX11_gather_8 : decode cX11_gather 8 = .ok (.aload_n 0, 1) := by decide +kernel
theorem dX11_gather_9 : decode cX11_gather 9 = .ok (.getfield 155, 3) := by decide +kernel
theorem dX11_gather_12 : decode cX11_gather 12 = .ok (.if_icmp .ge 139, 3) := by decide +kernel
theorem dX11_gather_15 : decode cX11_gather 15 = .ok (.bipush 48, 2) := by decide +kernel
theorem dX11_gather_17 : decode cX11_gather 17 = .ok (.iload_n 2, 1) := by decide +kernel
theorem dX11_gather_18 : decode cX11_gather 18 = .ok (.imul, 1) := by decide +kernel
theorem dX11_gather_19 : decode cX11_gather 19 = .ok (.iload_n 1, 1) := by decide +kernel
theorem dX11_gather_20 : decode cX11_gather 20 = .ok (.iadd, 1) := by decide +kernel
theorem dX11_gather_21 : decode cX11_gather 21 = .ok (.istore_n 3, 1) := by decide +kernel
theorem dX11_gather_22 : decode cX11_gather 22 = .ok (.aload_n 0, 1) := by decide +kernel
theorem dX11_gather_23 : decode cX11_gather 23 = .ok (.iload_n 2, 1) := by decide +kernel
theorem dX11_gather_24 : decode cX11_gather 24 = .ok (.invokevirtual 406, 3) := by decide +kernel
theorem dX11_gather_27 : decode cX11_gather 27 = .ok (.ifCond .eq 42, 3) := by decide +kernel
theorem dX11_gather_30 : decode cX11_gather 30 = .ok (.aload_n 0, 1) := by decide +kernel
theorem dX11_gather_31 : decode cX11_gather 31 = .ok (.getfield 32, 3) := by decide +kernel
theorem dX11_gather_34 : decode cX11_gather 34 = .ok (.iload_n 3, 1) := by decide +kernel
theorem dX11_gather_35 : decode cX11_gather 35 = .ok (.baload, 1) := by decide +kernel
theorem dX11_gather_36 : decode cX11_gather 36 = .ok (.ifCond .eq 33, 3) := by decide +kernel
theorem dX11_gather_39 : decode cX11_gather 39 = .ok (.aload_n 0, 1) := by decide +kernel
theorem dX11_gather_40 : decode cX11_gather 40 = .ok (.getfield 44, 3) := by decide +kernel
theorem dX11_gather_43 : decode cX11_gather 43 = .ok (.iload_n 3, 1) := by decide +kernel
theorem dX11_gather_44 : decode cX11_gather 44 = .ok (.iaload, 1) := by decide +kernel
theorem dX11_gather_45 : decode cX11_gather 45 = .ok (.ifCond .ne 24, 3) := by decide +kernel
theorem dX11_gather_48 : decode cX11_gather 48 = .ok (.aload_n 0, 1) := by decide +kernel
theorem dX11_gather_49 : decode cX11_gather 49 = .ok (.aload_n 0, 1) := by decide +kernel
theorem dX11_gather_50 : decode cX11_gather 50 = .ok (.getfield 35, 3) := by decide +kernel
theorem dX11_gather_53 : decode cX11_gather 53 = .ok (.iload_n 3, 1) := by decide +kernel
theorem dX11_gather_54 : decode cX11_gather 54 = .ok (.iaload, 1) := by decide +kernel
theorem dX11_gather_55 : decode cX11_gather 55 = .ok (.aload_n 0, 1) := by decide +kernel
theorem dX11_gather_56 : decode cX11_gather 56 = .ok (.getfield 38, 3) := by decide +kernel
theorem dX11_gather_59 : decode cX11_gather 59 = .ok (.iload_n 3, 1) := by decide +kernel
theorem dX11_gather_60 : decode cX11_gather 60 = .ok (.iaload, 1) := by decide +kernel
theorem dX11_gather_61 : decode cX11_gather 61 = .ok (.aload_n 0, 1) := by decide +kernel
theorem dX11_gather_62 : decode cX11_gather 62 = .ok (.getfield 41, 3) := by decide +kernel
theorem dX11_gather_65 : decode cX11_gather 65 = .ok (.iload_n 3, 1) := by decide +kernel
theorem dX11_gather_66 : decode cX11_gather 66 = .ok (.invokevirtual 445, 3) := by decide +kernel
theorem dX11_gather_69 : decode cX11_gather 69 = .ok (.iconst 0, 1) := by decide +kernel
theorem dX11_gather_70 : decode cX11_gather 70 = .ok (.istore 4, 2) := by decide +kernel
theorem dX11_gather_72 : decode cX11_gather 72 = .ok (.aload_n 0, 1) := by decide +kernel
theorem dX11_gather_73 : decode cX11_gather 73 = .ok (.iload_n 2, 1) := by decide +kernel
theorem dX11_gather_74 : decode cX11_gather 74 = .ok (.invokevirtual 406, 3) := by decide +kernel
theorem dX11_gather_77 : decode cX11_gather 77 = .ok (.ifCond .eq 68, 3) := by decide +kernel
theorem dX11_gather_80 : decode cX11_gather 80 = .ok (.aload_n 0, 1) := by decide +kernel
theorem dX11_gather_81 : decode cX11_gather 81 = .ok (.getfield 32, 3) := by decide +kernel
theorem dX11_gather_84 : decode cX11_gather 84 = .ok (.iload_n 3, 1) := by decide +kernel
theorem dX11_gather_85 : decode cX11_gather 85 = .ok (.baload, 1) := by decide +kernel
theorem dX11_gather_86 : decode cX11_gather 86 = .ok (.ifCond .eq 59, 3) := by decide +kernel
theorem dX11_gather_89 : decode cX11_gather 89 = .ok (.iload 4, 2) := by decide +kernel
theorem dX11_gather_91 : decode cX11_gather 91 = .ok (.aload_n 0, 1) := by decide +kernel
theorem dX11_gather_92 : decode cX11_gather 92 = .ok (.getfield 44, 3) := by decide +kernel
theorem dX11_gather_95 : decode cX11_gather 95 = .ok (.iload_n 3, 1) := by decide +kernel
theorem dX11_gather_96 : decode cX11_gather 96 = .ok (.iaload, 1) := by decide +kernel
theorem dX11_gather_97 : decode cX11_gather 97 = .ok (.if_icmp .ge 48, 3) := by decide +kernel
theorem dX11_gather_100 : decode cX11_gather 100 = .ok (.aload_n 0, 1) := by decide +kernel
theorem dX11_gather_101 : decode cX11_gather 101 = .ok (.aload_n 0, 1) := by decide +kernel
theorem dX11_gather_102 : decode cX11_gather 102 = .ok (.getfield 47, 3) := by decide +kernel
theorem dX11_gather_105 : decode cX11_gather 105 = .ok (.bipush 6, 2) := by decide +kernel
theorem dX11_gather_107 : decode cX11_gather 107 = .ok (.iload_n 3, 1) := by decide +kernel
theorem dX11_gather_108 : decode cX11_gather 108 = .ok (.imul, 1) := by decide +kernel
theorem dX11_gather_109 : decode cX11_gather 109 = .ok (.iload 4, 2) := by decide +kernel
theorem dX11_gather_111 : decode cX11_gather 111 = .ok (.iadd, 1) := by decide +kernel
theorem dX11_gather_112 : decode cX11_gather 112 = .ok (.iaload, 1) := by decide +kernel
theorem dX11_gather_113 : decode cX11_gather 113 = .ok (.aload_n 0, 1) := by decide +kernel
theorem dX11_gather_114 : decode cX11_gather 114 = .ok (.getfield 50, 3) := by decide +kernel
theorem dX11_gather_117 : decode cX11_gather 117 = .ok (.bipush 6, 2) := by decide +kernel
theorem dX11_gather_119 : decode cX11_gather 119 = .ok (.iload_n 3, 1) := by decide +kernel
theorem dX11_gather_120 : decode cX11_gather 120 = .ok (.imul, 1) := by decide +kernel
theorem dX11_gather_121 : decode cX11_gather 121 = .ok (.iload 4, 2) := by decide +kernel
theorem dX11_gather_123 : decode cX11_gather 123 = .ok (.iadd, 1) := by decide +kernel
theorem dX11_gather_124 : decode cX11_gather 124 = .ok (.iaload, 1) := by decide +kernel
theorem dX11_gather_125 : decode cX11_gather 125 = .ok (.aload_n 0, 1) := by decide +kernel
theorem dX11_gather_126 : decode cX11_gather 126 = .ok (.getfield 53, 3) := by decide +kernel
theorem dX11_gather_129 : decode cX11_gather 129 = .ok (.bipush 6, 2) := by decide +kernel
theorem dX11_gather_131 : decode cX11_gather 131 = .ok (.iload_n 3, 1) := by decide +kernel
theorem dX11_gather_132 : decode cX11_gather 132 = .ok (.imul, 1) := by decide +kernel
theorem dX11_gather_133 : decode cX11_gather 133 = .ok (.iload 4, 2) := by decide +kernel
theorem dX11_gather_135 : decode cX11_gather 135 = .ok (.iadd, 1) := by decide +kernel
theorem dX11_gather_136 : decode cX11_gather 136 = .ok (.invokevirtual 445, 3) := by decide +kernel
theorem dX11_gather_139 : decode cX11_gather 139 = .ok (.iinc 4 1, 3) := by decide +kernel
theorem dX11_gather_142 : decode cX11_gather 142 = .ok (.goto (-70), 3) := by decide +kernel
theorem dX11_gather_145 : decode cX11_gather 145 = .ok (.iinc 2 1, 3) := by decide +kernel
theorem dX11_gather_148 : decode cX11_gather 148 = .ok (.goto (-141), 3) := by decide +kernel
theorem dX11_gather_151 : decode cX11_gather 151 = .ok (.iconst 0, 1) := by decide +kernel
theorem dX11_gather_152 : decode cX11_gather 152 = .ok (.istore_n 2, 1) := by decide +kernel
theorem dX11_gather_153 : decode cX11_gather 153 = .ok (.iload_n 2, 1) := by decide +kernel
theorem dX11_gather_154 : decode cX11_gather 154 = .ok (.aload_n 0, 1) := by decide +kernel
theorem dX11_gather_155 : decode cX11_gather 155 = .ok (.getfield 442, 3) := by decide +kernel
theorem dX11_gather_158 : decode cX11_gather 158 = .ok (.if_icmp .ge 86, 3) := by decide +kernel
theorem dX11_gather_161 : decode cX11_gather 161 = .ok (.aload_n 0, 1) := by decide +kernel
theorem dX11_gather_162 : decode cX11_gather 162 = .ok (.getfield 152, 3) := by decide +kernel
theorem dX11_gather_165 : decode cX11_gather 165 = .ok (.iload_n 2, 1) := by decide +kernel
theorem dX11_gather_166 : decode cX11_gather 166 = .ok (.iconst 0, 1) := by decide +kernel
theorem dX11_gather_167 : decode cX11_gather 167 = .ok (.bastore, 1) := by decide +kernel
theorem dX11_gather_168 : decode cX11_gather 168 = .ok (.iconst 0, 1) := by decide +kernel
theorem dX11_gather_169 : decode cX11_gather 169 = .ok (.istore_n 3, 1) := by decide +kernel
theorem dX11_gather_170 : decode cX11_gather 170 = .ok (.iload_n 3, 1) := by decide +kernel
theorem dX11_gather_171 : decode cX11_gather 171 = .ok (.aload_n 0, 1) := by decide +kernel
theorem dX11_gather_172 : decode cX11_gather 172 = .ok (.getfield 442, 3) := by decide +kernel
theorem dX11_gather_175 : decode cX11_gather 175 = .ok (.if_icmp .ge 63, 3) := by decide +kernel
theorem dX11_gather_178 : decode cX11_gather 178 = .ok (.aload_n 0, 1) := by decide +kernel
theorem dX11_gather_179 : decode cX11_gather 179 = .ok (.getfield 152, 3) := by decide +kernel
theorem dX11_gather_182 : decode cX11_gather 182 = .ok (.iload_n 2, 1) := by decide +kernel
theorem dX11_gather_183 : decode cX11_gather 183 = .ok (.aload_n 0, 1) := by decide +kernel
theorem dX11_gather_184 : decode cX11_gather 184 = .ok (.getfield 152, 3) := by decide +kernel
theorem dX11_gather_187 : decode cX11_gather 187 = .ok (.iload_n 2, 1) := by decide +kernel
theorem dX11_gather_188 : decode cX11_gather 188 = .ok (.baload, 1) := by decide +kernel
theorem dX11_gather_189 : decode cX11_gather 189 = .ok (.ifCond .ne 37, 3) := by decide +kernel
theorem dX11_gather_192 : decode cX11_gather 192 = .ok (.aload_n 0, 1) := by decide +kernel
theorem dX11_gather_193 : decode cX11_gather 193 = .ok (.aload_n 0, 1) := by decide +kernel
theorem dX11_gather_194 : decode cX11_gather 194 = .ok (.getfield 149, 3) := by decide +kernel
theorem dX11_gather_197 : decode cX11_gather 197 = .ok (.iload_n 2, 1) := by decide +kernel
theorem dX11_gather_198 : decode cX11_gather 198 = .ok (.aload_n 0, 1) := by decide +kernel
theorem dX11_gather_199 : decode cX11_gather 199 = .ok (.getfield 149, 3) := by decide +kernel
theorem dX11_gather_202 : decode cX11_gather 202 = .ok (.iload_n 3, 1) := by decide +kernel
theorem dX11_gather_203 : decode cX11_gather 203 = .ok (.invokevirtual 275, 3) := by decide +kernel
theorem dX11_gather_206 : decode cX11_gather 206 = .ok (.ifCond .ne 24, 3) := by decide +kernel
theorem dX11_gather_209 : decode cX11_gather 209 = .ok (.aload_n 0, 1) := by decide +kernel
theorem dX11_gather_210 : decode cX11_gather 210 = .ok (.aload_n 0, 1) := by decide +kernel
theorem dX11_gather_211 : decode cX11_gather 211 = .ok (.getfield 149, 3) := by decide +kernel
theorem dX11_gather_214 : decode cX11_gather 214 = .ok (.iload_n 2, 1) := by decide +kernel
theorem dX11_gather_215 : decode cX11_gather 215 = .ok (.aload_n 0, 1) := by decide +kernel
theorem dX11_gather_216 : decode cX11_gather 216 = .ok (.getfield 149, 3) := by decide +kernel
theorem dX11_gather_219 : decode cX11_gather 219 = .ok (.iload_n 3, 1) := by decide +kernel
theorem dX11_gather_220 : decode cX11_gather 220 = .ok (.invokevirtual 265, 3) := by decide +kernel
theorem dX11_gather_223 : decode cX11_gather 223 = .ok (.ifCond .eq 7, 3) := by decide +kernel
theorem dX11_gather_226 : decode cX11_gather 226 = .ok (.iconst 1, 1) := by decide +kernel
theorem dX11_gather_227 : decode cX11_gather 227 = .ok (.goto 4, 3) := by decide +kernel
theorem dX11_gather_230 : decode cX11_gather 230 = .ok (.iconst 0, 1) := by decide +kernel
theorem dX11_gather_231 : decode cX11_gather 231 = .ok (.bastore, 1) := by decide +kernel
theorem dX11_gather_232 : decode cX11_gather 232 = .ok (.iinc 3 1, 3) := by decide +kernel
theorem dX11_gather_235 : decode cX11_gather 235 = .ok (.goto (-65), 3) := by decide +kernel
theorem dX11_gather_238 : decode cX11_gather 238 = .ok (.iinc 2 1, 3) := by decide +kernel
theorem dX11_gather_241 : decode cX11_gather 241 = .ok (.goto (-88), 3) := by decide +kernel
theorem dX11_gather_244 : decode cX11_gather 244 = .ok (.iconst 0, 1) := by decide +kernel
theorem dX11_gather_245 : decode cX11_gather 245 = .ok (.istore_n 2, 1) := by decide +kernel
theorem dX11_gather_246 : decode cX11_gather 246 = .ok (.iconst 0, 1) := by decide +kernel
theorem dX11_gather_247 : decode cX11_gather 247 = .ok (.istore_n 3, 1) := by decide +kernel
theorem dX11_gather_248 : decode cX11_gather 248 = .ok (.iload_n 3, 1) := by decide +kernel
theorem dX11_gather_249 : decode cX11_gather 249 = .ok (.aload_n 0, 1) := by decide +kernel
theorem dX11_gather_250 : decode cX11_gather 250 = .ok (.getfield 442, 3) := by decide +kernel
theorem dX11_gather_253 : decode cX11_gather 253 = .ok (.if_icmp .ge 59, 3) := by decide +kernel
theorem dX11_gather_256 : decode cX11_gather 256 = .ok (.aload_n 0, 1) := by decide +kernel
theorem dX11_gather_257 : decode cX11_gather 257 = .ok (.getfield 152, 3) := by decide +kernel
theorem dX11_gather_260 : decode cX11_gather 260 = .ok (.iload_n 3, 1) := by decide +kernel
theorem dX11_gather_261 : decode cX11_gather 261 = .ok (.baload, 1) := by decide +kernel
theorem dX11_gather_262 : decode cX11_gather 262 = .ok (.ifCond .ne 44, 3) := by decide +kernel
theorem dX11_gather_265 : decode cX11_gather 265 = .ok (.aload_n 0, 1) := by decide +kernel
theorem dX11_gather_266 : decode cX11_gather 266 = .ok (.getfield 143, 3) := by decide +kernel
theorem dX11_gather_269 : decode cX11_gather 269 = .ok (.iload_n 2, 1) := by decide +kernel
theorem dX11_gather_270 : decode cX11_gather 270 = .ok (.aload_n 0, 1) := by decide +kernel
theorem dX11_gather_271 : decode cX11_gather 271 = .ok (.getfield 143, 3) := by decide +kernel
theorem dX11_gather_274 : decode cX11_gather 274 = .ok (.iload_n 3, 1) := by decide +kernel
theorem dX11_gather_275 : decode cX11_gather 275 = .ok (.iaload, 1) := by decide +kernel
theorem dX11_gather_276 : decode cX11_gather 276 = .ok (.iastore, 1) := by decide +kernel
theorem dX11_gather_277 : decode cX11_gather 277 = .ok (.aload_n 0, 1) := by decide +kernel
theorem dX11_gather_278 : decode cX11_gather 278 = .ok (.getfield 146, 3) := by decide +kernel
theorem dX11_gather_281 : decode cX11_gather 281 = .ok (.iload_n 2, 1) := by decide +kernel
theorem dX11_gather_282 : decode cX11_gather 282 = .ok (.aload_n 0, 1) := by decide +kernel
theorem dX11_gather_283 : decode cX11_gather 283 = .ok (.getfield 146, 3) := by decide +kernel
theorem dX11_gather_286 : decode cX11_gather 286 = .ok (.iload_n 3, 1) := by decide +kernel
theorem dX11_gather_287 : decode cX11_gather 287 = .ok (.iaload, 1) := by decide +kernel
theorem dX11_gather_288 : decode cX11_gather 288 = .ok (.iastore, 1) := by decide +kernel
theorem dX11_gather_289 : decode cX11_gather 289 = .ok (.aload_n 0, 1) := by decide +kernel
theorem dX11_gather_290 : decode cX11_gather 290 = .ok (.aload_n 0, 1) := by decide +kernel
theorem dX11_gather_291 : decode cX11_gather 291 = .ok (.getfield 149, 3) := by decide +kernel
theorem dX11_gather_294 : decode cX11_gather 294 = .ok (.iload_n 3, 1) := by decide +kernel
theorem dX11_gather_295 : decode cX11_gather 295 = .ok (.aload_n 0, 1) := by decide +kernel
theorem dX11_gather_296 : decode cX11_gather 296 = .ok (.getfield 149, 3) := by decide +kernel
theorem dX11_gather_299 : decode cX11_gather 299 = .ok (.iload_n 2, 1) := by decide +kernel
theorem dX11_gather_300 : decode cX11_gather 300 = .ok (.invokevirtual 234, 3) := by decide +kernel
theorem dX11_gather_303 : decode cX11_gather 303 = .ok (.iinc 2 1, 3) := by decide +kernel
theorem dX11_gather_306 : decode cX11_gather 306 = .ok (.iinc 3 1, 3) := by decide +kernel
theorem dX11_gather_309 : decode cX11_gather 309 = .ok (.goto (-61), 3) := by decide +kernel
theorem dX11_gather_312 : decode cX11_gather 312 = .ok (.aload_n 0, 1) := by decide +kernel
theorem dX11_gather_313 : decode cX11_gather 313 = .ok (.iload_n 2, 1) := by decide +kernel
theorem dX11_gather_314 : decode cX11_gather 314 = .ok (.putfield 442, 3) := by decide +kernel
theorem dX11_gather_317 : decode cX11_gather 317 = .ok (.return_, 1) := by decide +kernel
abbrev wmX11_gather : List Cond := .code yX11_gather cX11_gather 5 none :: mBig
def f_X11_gather_L248 (J312 : (Int32 × gM) → Option gM) : Nat → Int32 → Int32 → gM → Option gM
  | 0, _, _, _ => none
  | n10 + 1, x7, x8, M9 => lt (M9 m_o 61) (fun v11 => (if v11 ≤ x8 then J312 (x7, M9) else rd M9 m_beaten 24 x8 (fun v13 => jn (fun (q : (Int32 × gM)) => match q with | (b14, M15) => lt (x8 + 1) (fun x16 => f_X11_gather_L248 J312 n10 b14 x16 M15)) (fun J306 => (if v13 = 0 then rd M9 m_candidateValue 24 x8 (fun v18 => wr M9 m_candidateValue 24 x7 v18 (fun M19 => rd M19 m_candidateSize 24 x8 (fun v20 => wr M19 m_candidateSize 24 x7 v20 (fun M21 => o1 (f_X11_copyTo M21 m_candidateVector x8 m_candidateVector x7) (fun M23 => lt (x7 + 1) (fun x24 => J306 (x24, M23))))))) else J306 (x7, M9))))))
def f_X11_gather_L170 (x25 : Int32) (J238 : gM → Option gM) (J244 : gM → Option gM) : Nat → Int32 → gM → Option gM
  | 0, _, _ => none
  | n35 + 1, x33, M34 => lt (M34 m_o 61) (fun v36 => (if v36 ≤ x33 then J238 M34 else rd M34 m_beaten 24 x25 (fun v38 => jn (fun (q : (Int32 × gM)) => match q with | (b39, M40) => wz M40 m_beaten 24 x25 b39 (fun M41 => lt (x33 + 1) (fun x42 => f_X11_gather_L170 x25 J238 J244 n35 x42 M41))) (fun J231 => jn (fun (M43 : gM) => J231 ((1 : Int32), M43)) (fun J226 => (if v38 = 0 then o1 (f_X11_isSame M34 m_candidateVector x25 m_candidateVector x33) (fun v46 => jn (fun (M47 : gM) => J231 ((0 : Int32), M47)) (fun J230 => (if v46 = 0 then o1 (f_X11_isAtMost M34 m_candidateVector x25 m_candidateVector x33) (fun v50 => (if v50 = 0 then J230 M34 else J226 M34)) else J230 M34))) else J226 M34))))))
def f_X11_gather_L153 (J244 : gM → Option gM) : Nat → Int32 → gM → Option gM
  | 0, _, _ => none
  | n27 + 1, x25, M26 => lt (M26 m_o 61) (fun v28 => (if v28 ≤ x25 then J244 M26 else wz M26 m_beaten 24 x25 (0 : Int32) (fun M30 => jn (fun (M31 : gM) => lt (x25 + 1) (fun x32 => f_X11_gather_L153 J244 n27 x32 M31)) (fun J238 => f_X11_gather_L170 x25 J238 J244 100 (0 : Int32) M30))))
def f_X11_gather_L72 (a1 : Int32) (x52 : Int32) (x57 : Int32) (J145 : gM → Option gM) (J151 : gM → Option gM) : Nat → Int32 → gM → Option gM
  | 0, _, _ => none
  | n65 + 1, x63, M64 => o1 (f_X11_isOf M64 x52) (fun v67 => (if v67 = 0 then J145 M64 else rd M64 m_has 192 x57 (fun v69 => (if v69 = 0 then J145 M64 else rd M64 m_versions 192 x57 (fun v71 => (if v71 ≤ x63 then J145 M64 else rd M64 m_versionValue 1152 (((6 : Int32) * x57) + x63) (fun v73 => rd M64 m_versionSize 1152 (((6 : Int32) * x57) + x63) (fun v74 => o1 (f_X11_addCandidate M64 v73 v74 m_versionVector (((6 : Int32) * x57) + x63)) (fun M76 => lt (x63 + 1) (fun x77 => f_X11_gather_L72 a1 x52 x57 J145 J151 n65 x77 M76))))))))))
def f_X11_gather_L7 (a1 : Int32) (J151 : gM → Option gM) : Nat → Int32 → gM → Option gM
  | 0, _, _ => none
  | n54 + 1, x52, M53 => lt (M53 m_o 0) (fun v55 => (if v55 ≤ x52 then J151 M53 else lt ((((48 : Int32) * x52) + a1)) (fun x57 => o1 (f_X11_isOf M53 x52) (fun v59 => jn (fun (M60 : gM) => jn (fun (M61 : gM) => lt (x52 + 1) (fun x62 => f_X11_gather_L7 a1 J151 n54 x62 M61)) (fun J145 => f_X11_gather_L72 a1 x52 x57 J145 J151 100 (0 : Int32) M60)) (fun J69 => (if v59 = 0 then J69 M53 else rd M53 m_has 192 x57 (fun v79 => (if v79 = 0 then J69 M53 else rd M53 m_versions 192 x57 (fun v81 => (if v81 = 0 then rd M53 m_value 192 x57 (fun v83 => rd M53 m_size 192 x57 (fun v84 => o1 (f_X11_addCandidate M53 v83 v84 m_vector x57) (fun M86 => J69 M86))) else J69 M53))))))))))
def f_X11_gather (M : gM) (a1 : Int32) : Option gM :=
  lt (gset M m_o 61 (0 : Int32)) (fun M1 => jn (fun (M2 : gM) => jn (fun (M3 : gM) => jn (fun (q : (Int32 × gM)) => match q with | (b4, M5) => lt (gset M5 m_o 61 b4) (fun M6 => some M6)) (fun J312 => f_X11_gather_L248 J312 100 (0 : Int32) (0 : Int32) M3)) (fun J244 => f_X11_gather_L153 J244 100 (0 : Int32) M2)) (fun J151 => f_X11_gather_L7 a1 J151 100 (0 : Int32) M1))
set_option maxHeartbeats 4000000 in
set_option maxRecDepth 100000 in
theorem t_X11_gather (l : Launch) (D : va_G) (dA : Nat → ClassId) (A : gI → Nat) (hJ : gJ mLive A) {M : gM} {a1 : Int32}  {y : gM} (h : f_X11_gather M a1 = some y) : mMv l yX11_gather wmX11_gather ({ frames := 2, cells := 0, slots := 0, locals := 50 } : Room) D dA A [.ref (A m_o), .int a1] M y := by
  refine Met.ofW (cc := cX11_gather) (maxL := 5) (ret := none) (by decide) rfl ?_
  intro p e s m args below meth c s₁ B hml hv
  obtain ⟨rfl, hP, hK⟩ := hv
  generalize hargs : ([.ref (A m_o), .int a1] : List Value).toArray = args at B ⊢
  have S : CallFix p m c cX11_gather 5 s args wmX11_gather RX11 := ⟨B.exec, B.bytes, hml, findClass_of_methodNamed B.named, atoms_spec (ws := wmX11_gather) B.pre⟩
  obtain ⟨hx, hb, -, hown, hts⟩ := id S
  have hr := B.returns
  have hlocks := B.notSynchronized
  have X : gX D vwCl dA mLive A (gA mLive A) s := ⟨hK, hJ, fun i hi => ⟨i, hi, rfl⟩⟩
  have Z : gZ D mLay dA mLive A (gA mLive A) s.heap M s.heap [] := ⟨hP, va_S.rf⟩
  have hin : ∀ w ∈ wsX110, w ∈ wmX11_gather := m_in
  have hl_32 := hts (.fieldLink RX11 32 "ReplicaFilesModel" "has" "[Z") (mBc 12 rfl)
  have hl_35 := hts (.fieldLink RX11 35 "ReplicaFilesModel" "value" "[I") (mBc 13 rfl)
  have hl_38 := hts (.fieldLink RX11 38 "ReplicaFilesModel" "size" "[I") (mBc 14 rfl)
  have hl_41 := hts (.fieldLink RX11 41 "ReplicaFilesModel" "vector" "[I") (mBc 15 rfl)
  have hl_44 := hts (.fieldLink RX11 44 "ReplicaFilesModel" "versions" "[I") (mBc 16 rfl)
  have hl_47 := hts (.fieldLink RX11 47 "ReplicaFilesModel" "versionValue" "[I") (mBc 17 rfl)
  have hl_50 := hts (.fieldLink RX11 50 "ReplicaFilesModel" "versionSize" "[I") (mBc 18 rfl)
  have hl_53 := hts (.fieldLink RX11 53 "ReplicaFilesModel" "versionVector" "[I") (mBc 19 rfl)
  have hl_143 := hts (.fieldLink RX11 143 "ReplicaFilesModel" "candidateValue" "[I") (mBc 49 rfl)
  have hl_146 := hts (.fieldLink RX11 146 "ReplicaFilesModel" "candidateSize" "[I") (mBc 50 rfl)
  have hl_149 := hts (.fieldLink RX11 149 "ReplicaFilesModel" "candidateVector" "[I") (mBc 51 rfl)
  have hl_152 := hts (.fieldLink RX11 152 "ReplicaFilesModel" "beaten" "[Z") (mBc 52 rfl)
  have hl_155 := hts (.fieldLink RX11 155 "ReplicaFilesModel" "servers" "I") (mBc 53 rfl)
  have hl_442 := hts (.fieldLink RX11 442 "ReplicaFilesModel" "candidates" "I") (mBc 319 rfl)
  have hl := lv_entry ([.ref (A m_o), .int a1]) (n := 5) (Nat.le_of_ble_eq_true rfl)
  rw [← hargs, lg_entry_eq, hargs]
  generalize (lg_sl ([.ref (A m_o), .int a1]) ++ List.replicate (5 - (lg_sl ([.ref (A m_o), .int a1])).length) Slot.unset).toArray = ls at hl ⊢
  have hl : lv_has ls 5 [(0, .ref (A m_o)), (1, .int a1)] := hl
  unfold f_X11_gather at h
  refine lv_aload_n hx hb dX11_gather_0 rfl (lv_at hl 0 rfl) ?_
  refine lv_iconst (v := (0 : Int32)) hx hb dX11_gather_1 (by decide) ?_
  refine mp_candidates S X Z hin hl_442 dX11_gather_2 h (fun M1 H locs Z h => ?_)
  refine lv_iconst (v := (0 : Int32)) hx hb dX11_gather_5 (by decide) ?_
  refine lv_istore_n (lv' := [(2, .int (0 : Int32)), (0, .ref (A m_o)), (1, .int a1)]) hx hb dX11_gather_6 rfl hl (by decide) rfl (fun ls hl => ?_)
  obtain ⟨J151, eJ151, h⟩ := jn_e h
  have hJ151 : ∀ (M2 : gM) (H : Heap) (locs : List Loc) (ls : Array Slot), gZ D mLay dA mLive A (gA mLive A) s.heap M2 H locs → lv_has ls 5 [(0, .ref (A m_o))] → J151 M2 = some y → W p l e (headSpec wmX11_gather ({ frames := 2, cells := 0, slots := 0, locals := 50 } : Room)).room s m args below meth c H locs 0 0 (MQ below (mQv D dA A y) args s 0 0 (gA mLive A)) (F0 m 151 ls []) := by
    intro M2 H locs ls Z hl h
    rw [eJ151] at h
    try dsimp only at h
    refine lv_iconst (v := (0 : Int32)) hx hb dX11_gather_151 (by decide) ?_
    refine lv_istore_n (lv' := [(2, .int (0 : Int32)), (0, .ref (A m_o))]) hx hb dX11_gather_152 rfl hl (by decide) rfl (fun ls hl => ?_)
    obtain ⟨J244, eJ244, h⟩ := jn_e h
    have hJ244 : ∀ (M3 : gM) (H : Heap) (locs : List Loc) (ls : Array Slot), gZ D mLay dA mLive A (gA mLive A) s.heap M3 H locs → lv_has ls 5 [(0, .ref (A m_o))] → J244 M3 = some y → W p l e (headSpec wmX11_gather ({ frames := 2, cells := 0, slots := 0, locals := 50 } : Room)).room s m args below meth c H locs 0 0 (MQ below (mQv D dA A y) args s 0 0 (gA mLive A)) (F0 m 244 ls []) := by
      intro M3 H locs ls Z hl h
      rw [eJ244] at h
      try dsimp only at h
      refine lv_iconst (v := (0 : Int32)) hx hb dX11_gather_244 (by decide) ?_
      refine lv_istore_n (lv' := [(2, .int (0 : Int32)), (0, .ref (A m_o))]) hx hb dX11_gather_245 rfl hl (by decide) rfl (fun ls hl => ?_)
      refine lv_iconst (v := (0 : Int32)) hx hb dX11_gather_246 (by decide) ?_
      refine lv_istore_n (lv' := [(3, .int (0 : Int32)), (2, .int (0 : Int32)), (0, .ref (A m_o))]) hx hb dX11_gather_247 rfl hl (by decide) rfl (fun ls hl => ?_)
      obtain ⟨J312, eJ312, h⟩ := jn_e h
      have hJ312 : ∀ (b4 : Int32) (M5 : gM) (H : Heap) (locs : List Loc) (ls : Array Slot), gZ D mLay dA mLive A (gA mLive A) s.heap M5 H locs → lv_has ls 5 [(0, .ref (A m_o)), (2, .int b4)] → J312 (b4, M5) = some y → W p l e (headSpec wmX11_gather ({ frames := 2, cells := 0, slots := 0, locals := 50 } : Room)).room s m args below meth c H locs 0 0 (MQ below (mQv D dA A y) args s 0 0 (gA mLive A)) (F0 m 312 ls []) := by
        intro b4 M5 H locs ls Z hl h
        rw [eJ312] at h
        try dsimp only at h
        refine lv_aload_n hx hb dX11_gather_312 rfl (lv_at hl 0 rfl) ?_
        refine lv_iload_n hx hb dX11_gather_313 rfl (lv_at hl 1 rfl) ?_
        refine mp_candidates S X Z hin hl_442 dX11_gather_314 h (fun M6 H locs Z h => ?_)
        have hy := Option.some.inj h
        subst hy
        exact g_rv S Z hr hlocks dX11_gather_317
      have hL248 : ∀ (n : Nat) (x7 : Int32) (x8 : Int32) (M9 : gM) (H : Heap) (locs : List Loc) (ls : Array Slot), gZ D mLay dA mLive A (gA mLive A) s.heap M9 H locs → lv_has ls 5 [(0, .ref (A m_o)), (2, .int x7), (3, .int x8)] → f_X11_gather_L248 J312 n x7 x8 M9 = some y → W p l e (headSpec wmX11_gather ({ frames := 2, cells := 0, slots := 0, locals := 50 } : Room)).room s m args below meth c H locs 0 0 (MQ below (mQv D dA A y) args s 0 0 (gA mLive A)) (F0 m 248 ls []) := by
        intro n
        induction n with
        | zero =>
          intro x7 x8 M9 H locs ls Z hl h
          rw [f_X11_gather_L248] at h
          cases h
        | succ n10 ih248 =>
          intro x7 x8 M9 H locs ls Z hl h
          rw [f_X11_gather_L248] at h
          refine lv_iload_n hx hb dX11_gather_248 rfl (lv_at hl 2 rfl) ?_
          refine lv_aload_n hx hb dX11_gather_249 rfl (lv_at hl 0 rfl) ?_
          refine mr_candidates S X Z hin hl_442 dX11_gather_250 h (fun v11 h => ?_)
          refine lv_icmp_ge (tgt := 312) hx hb dX11_gather_253 (by decide) (fun c12 => ?_) (fun c12 => ?_)
          · have h := if_t c12 h
            exact hJ312 x7 M9 _ _ _ Z (lv_sub hl [0, 1] rfl) h
          · have h := if_f c12 h
            refine lv_aload_n hx hb dX11_gather_256 rfl (lv_at hl 0 rfl) ?_
            refine mr_beaten S X Z hin hl_152 dX11_gather_257 ?_
            refine lv_iload_n hx hb dX11_gather_260 rfl (lv_at hl 2 rfl) ?_
            refine g_zald S X Z ml_beaten rfl dX11_gather_261 h (fun v13 h => ?_)
            obtain ⟨J306, eJ306, h⟩ := jn_e h
            have hJ306 : ∀ (b14 : Int32) (M15 : gM) (H : Heap) (locs : List Loc) (ls : Array Slot), gZ D mLay dA mLive A (gA mLive A) s.heap M15 H locs → lv_has ls 5 [(0, .ref (A m_o)), (2, .int b14), (3, .int x8)] → J306 (b14, M15) = some y → W p l e (headSpec wmX11_gather ({ frames := 2, cells := 0, slots := 0, locals := 50 } : Room)).room s m args below meth c H locs 0 0 (MQ below (mQv D dA A y) args s 0 0 (gA mLive A)) (F0 m 306 ls []) := by
              intro b14 M15 H locs ls Z hl h
              rw [eJ306] at h
              try dsimp only at h
              obtain ⟨x16, ex16, h⟩ := lt_e h
              refine lv_iinc (v := x16) (lv' := [(3, .int x16), (0, .ref (A m_o)), (2, .int b14)]) hx hb dX11_gather_306 hl (k := 2) rfl (by rw [ex16]; rfl) (by decide) rfl (fun ls hl => ?_)
              refine lv_goto (tgt := 248) hx hb dX11_gather_309 (by decide) ?_
              exact ih248 b14 x16 M15 _ _ _ Z (lv_sub hl [1, 2, 0] rfl) h
            refine lv_if_ne (tgt := 306) hx hb dX11_gather_262 (by decide) (fun c17 => ?_) (fun c17 => ?_)
            · have h := if_f c17 h
              exact hJ306 x7 M9 _ _ _ Z (lv_sub hl [0, 1, 2] rfl) h
            · have h := if_t c17 h
              refine lv_aload_n hx hb dX11_gather_265 rfl (lv_at hl 0 rfl) ?_
              refine mr_candidateValue S X Z hin hl_143 dX11_gather_266 ?_
              refine lv_iload_n hx hb dX11_gather_269 rfl (lv_at hl 1 rfl) ?_
              refine lv_aload_n hx hb dX11_gather_270 rfl (lv_at hl 0 rfl) ?_
              refine mr_candidateValue S X Z hin hl_143 dX11_gather_271 ?_
              refine lv_iload_n hx hb dX11_gather_274 rfl (lv_at hl 2 rfl) ?_
              refine g_iald S X Z ml_candidateValue rfl dX11_gather_275 h (fun v18 h => ?_)
              refine g_iast S X Z ml_candidateValue rfl dX11_gather_276 h (fun M19 H locs Z h => ?_)
              refine lv_aload_n hx hb dX11_gather_277 rfl (lv_at hl 0 rfl) ?_
              refine mr_candidateSize S X Z hin hl_146 dX11_gather_278 ?_
              refine lv_iload_n hx hb dX11_gather_281 rfl (lv_at hl 1 rfl) ?_
              refine lv_aload_n hx hb dX11_gather_282 rfl (lv_at hl 0 rfl) ?_
              refine mr_candidateSize S X Z hin hl_146 dX11_gather_283 ?_
              refine lv_iload_n hx hb dX11_gather_286 rfl (lv_at hl 2 rfl) ?_
              refine g_iald S X Z ml_candidateSize rfl dX11_gather_287 h (fun v20 h => ?_)
              refine g_iast S X Z ml_candidateSize rfl dX11_gather_288 h (fun M21 H locs Z h => ?_)
              refine lv_aload_n hx hb dX11_gather_289 rfl (lv_at hl 0 rfl) ?_
              refine lv_aload_n hx hb dX11_gather_290 rfl (lv_at hl 0 rfl) ?_
              refine mr_candidateVector S X Z hin hl_149 dX11_gather_291 ?_
              refine lv_iload_n hx hb dX11_gather_294 rfl (lv_at hl 2 rfl) ?_
              refine lv_aload_n hx hb dX11_gather_295 rfl (lv_at hl 0 rfl) ?_
              refine mr_candidateVector S X Z hin hl_149 dX11_gather_296 ?_
              refine lv_iload_n hx hb dX11_gather_299 rfl (lv_at hl 1 rfl) ?_
              obtain ⟨M23, hc22, h⟩ := o1_e h
              refine g_Vv (As := [.ref (A m_candidateVector), .int x8, .ref (A m_candidateVector), .int x7]) (rest := []) S X Z mlv_o rfl rfl (t_X11_copyTo l D dA A hJ ⟨ml_candidateVector, rfl⟩ ⟨ml_candidateVector, rfl⟩ hc22) (cwV 4 hts (mGV (mB 139 rfl) (mB 140 rfl) (mB 141 rfl) (mB 63 rfl) (mB 97 rfl)) rfl rfl rfl (by decide +kernel) ⟨Nat.le_of_ble_eq_true rfl, Nat.le_of_ble_eq_true rfl⟩) rfl hl.1 rfl (Nat.le_of_ble_eq_true rfl) dX11_gather_300 ⟨Nat.zero_le _, Nat.zero_le _⟩ (fun H locs Z => ?_)
              obtain ⟨x24, ex24, h⟩ := lt_e h
              refine lv_iinc (v := x24) (lv' := [(2, .int x24), (0, .ref (A m_o)), (3, .int x8)]) hx hb dX11_gather_303 hl (k := 1) rfl (by rw [ex24]; rfl) (by decide) rfl (fun ls hl => ?_)
              exact hJ306 x24 M23 _ _ _ Z (lv_sub hl [1, 0, 2] rfl) h
      exact hL248 100 (0 : Int32) (0 : Int32) M3 _ _ _ Z (lv_sub hl [2, 1, 0] rfl) h
    have hL153 : ∀ (n : Nat) (x25 : Int32) (M26 : gM) (H : Heap) (locs : List Loc) (ls : Array Slot), gZ D mLay dA mLive A (gA mLive A) s.heap M26 H locs → lv_has ls 5 [(0, .ref (A m_o)), (2, .int x25)] → f_X11_gather_L153 J244 n x25 M26 = some y → W p l e (headSpec wmX11_gather ({ frames := 2, cells := 0, slots := 0, locals := 50 } : Room)).room s m args below meth c H locs 0 0 (MQ below (mQv D dA A y) args s 0 0 (gA mLive A)) (F0 m 153 ls []) := by
      intro n
      induction n with
      | zero =>
        intro x25 M26 H locs ls Z hl h
        rw [f_X11_gather_L153] at h
        cases h
      | succ n27 ih153 =>
        intro x25 M26 H locs ls Z hl h
        rw [f_X11_gather_L153] at h
        refine lv_iload_n hx hb dX11_gather_153 rfl (lv_at hl 1 rfl) ?_
        refine lv_aload_n hx hb dX11_gather_154 rfl (lv_at hl 0 rfl) ?_
        refine mr_candidates S X Z hin hl_442 dX11_gather_155 h (fun v28 h => ?_)
        refine lv_icmp_ge (tgt := 244) hx hb dX11_gather_158 (by decide) (fun c29 => ?_) (fun c29 => ?_)
        · have h := if_t c29 h
          exact hJ244 M26 _ _ _ Z (lv_sub hl [0] rfl) h
        · have h := if_f c29 h
          refine lv_aload_n hx hb dX11_gather_161 rfl (lv_at hl 0 rfl) ?_
          refine mr_beaten S X Z hin hl_152 dX11_gather_162 ?_
          refine lv_iload_n hx hb dX11_gather_165 rfl (lv_at hl 1 rfl) ?_
          refine lv_iconst (v := (0 : Int32)) hx hb dX11_gather_166 (by decide) ?_
          refine g_zast S X Z ml_beaten rfl dX11_gather_167 h (fun M30 H locs Z h => ?_)
          refine lv_iconst (v := (0 : Int32)) hx hb dX11_gather_168 (by decide) ?_
          refine lv_istore_n (lv' := [(3, .int (0 : Int32)), (0, .ref (A m_o)), (2, .int x25)]) hx hb dX11_gather_169 rfl hl (by decide) rfl (fun ls hl => ?_)
          obtain ⟨J238, eJ238, h⟩ := jn_e h
          have hJ238 : ∀ (M31 : gM) (H : Heap) (locs : List Loc) (ls : Array Slot), gZ D mLay dA mLive A (gA mLive A) s.heap M31 H locs → lv_has ls 5 [(0, .ref (A m_o)), (2, .int x25)] → J238 M31 = some y → W p l e (headSpec wmX11_gather ({ frames := 2, cells := 0, slots := 0, locals := 50 } : Room)).room s m args below meth c H locs 0 0 (MQ below (mQv D dA A y) args s 0 0 (gA mLive A)) (F0 m 238 ls []) := by
            intro M31 H locs ls Z hl h
            rw [eJ238] at h
            try dsimp only at h
            obtain ⟨x32, ex32, h⟩ := lt_e h
            refine lv_iinc (v := x32) (lv' := [(2, .int x32), (0, .ref (A m_o))]) hx hb dX11_gather_238 hl (k := 1) rfl (by rw [ex32]; rfl) (by decide) rfl (fun ls hl => ?_)
            refine lv_goto (tgt := 153) hx hb dX11_gather_241 (by decide) ?_
            exact ih153 x32 M31 _ _ _ Z (lv_sub hl [1, 0] rfl) h
          have hL170 : ∀ (n : Nat) (x33 : Int32) (M34 : gM) (H : Heap) (locs : List Loc) (ls : Array Slot), gZ D mLay dA mLive A (gA mLive A) s.heap M34 H locs → lv_has ls 5 [(0, .ref (A m_o)), (2, .int x25), (3, .int x33)] → f_X11_gather_L170 x25 J238 J244 n x33 M34 = some y → W p l e (headSpec wmX11_gather ({ frames := 2, cells := 0, slots := 0, locals := 50 } : Room)).room s m args below meth c H locs 0 0 (MQ below (mQv D dA A y) args s 0 0 (gA mLive A)) (F0 m 170 ls []) := by
            intro n
            induction n with
            | zero =>
              intro x33 M34 H locs ls Z hl h
              rw [f_X11_gather_L170] at h
              cases h
            | succ n35 ih170 =>
              intro x33 M34 H locs ls Z hl h
              rw [f_X11_gather_L170] at h
              refine lv_iload_n hx hb dX11_gather_170 rfl (lv_at hl 2 rfl) ?_
              refine lv_aload_n hx hb dX11_gather_171 rfl (lv_at hl 0 rfl) ?_
              refine mr_candidates S X Z hin hl_442 dX11_gather_172 h (fun v36 h => ?_)
              refine lv_icmp_ge (tgt := 238) hx hb dX11_gather_175 (by decide) (fun c37 => ?_) (fun c37 => ?_)
              · have h := if_t c37 h
                exact hJ238 M34 _ _ _ Z (lv_sub hl [0, 1] rfl) h
              · have h := if_f c37 h
                refine lv_aload_n hx hb dX11_gather_178 rfl (lv_at hl 0 rfl) ?_
                refine mr_beaten S X Z hin hl_152 dX11_gather_179 ?_
                refine lv_iload_n hx hb dX11_gather_182 rfl (lv_at hl 1 rfl) ?_
                refine lv_aload_n hx hb dX11_gather_183 rfl (lv_at hl 0 rfl) ?_
                refine mr_beaten S X Z hin hl_152 dX11_gather_184 ?_
                refine lv_iload_n hx hb dX11_gather_187 rfl (lv_at hl 1 rfl) ?_
                refine g_zald S X Z ml_beaten rfl dX11_gather_188 h (fun v38 h => ?_)
                obtain ⟨J231, eJ231, h⟩ := jn_e h
                have hJ231 : ∀ (b39 : Int32) (M40 : gM) (H : Heap) (locs : List Loc) (ls : Array Slot), gZ D mLay dA mLive A (gA mLive A) s.heap M40 H locs → lv_has ls 5 [(0, .ref (A m_o)), (2, .int x25), (3, .int x33)] → J231 (b39, M40) = some y → W p l e (headSpec wmX11_gather ({ frames := 2, cells := 0, slots := 0, locals := 50 } : Room)).room s m args below meth c H locs 0 0 (MQ below (mQv D dA A y) args s 0 0 (gA mLive A)) (F0 m 231 ls [.int b39, .int x25, .ref (A m_beaten)]) := by
                  intro b39 M40 H locs ls Z hl h
                  rw [eJ231] at h
                  try dsimp only at h
                  refine g_zast S X Z ml_beaten rfl dX11_gather_231 h (fun M41 H locs Z h => ?_)
                  obtain ⟨x42, ex42, h⟩ := lt_e h
                  refine lv_iinc (v := x42) (lv' := [(3, .int x42), (0, .ref (A m_o)), (2, .int x25)]) hx hb dX11_gather_232 hl (k := 2) rfl (by rw [ex42]; rfl) (by decide) rfl (fun ls hl => ?_)
                  refine lv_goto (tgt := 170) hx hb dX11_gather_235 (by decide) ?_
                  exact ih170 x42 M41 _ _ _ Z (lv_sub hl [1, 2, 0] rfl) h
                obtain ⟨J226, eJ226, h⟩ := jn_e h
                have hJ226 : ∀ (M43 : gM) (H : Heap) (locs : List Loc) (ls : Array Slot), gZ D mLay dA mLive A (gA mLive A) s.heap M43 H locs → lv_has ls 5 [(0, .ref (A m_o)), (2, .int x25), (3, .int x33)] → J226 M43 = some y → W p l e (headSpec wmX11_gather ({ frames := 2, cells := 0, slots := 0, locals := 50 } : Room)).room s m args below meth c H locs 0 0 (MQ below (mQv D dA A y) args s 0 0 (gA mLive A)) (F0 m 226 ls [.int x25, .ref (A m_beaten)]) := by
                  intro M43 H locs ls Z hl h
                  rw [eJ226] at h
                  try dsimp only at h
                  refine lv_iconst (v := (1 : Int32)) hx hb dX11_gather_226 (by decide) ?_
                  refine lv_goto (tgt := 231) hx hb dX11_gather_227 (by decide) ?_
                  exact hJ231 (1 : Int32) M43 _ _ _ Z (lv_sub hl [0, 1, 2] rfl) h
                refine lv_if_ne (tgt := 226) hx hb dX11_gather_189 (by decide) (fun c44 => ?_) (fun c44 => ?_)
                · have h := if_f c44 h
                  exact hJ226 M34 _ _ _ Z (lv_sub hl [0, 1, 2] rfl) h
                · have h := if_t c44 h
                  refine lv_aload_n hx hb dX11_gather_192 rfl (lv_at hl 0 rfl) ?_
                  refine lv_aload_n hx hb dX11_gather_193 rfl (lv_at hl 0 rfl) ?_
                  refine mr_candidateVector S X Z hin hl_149 dX11_gather_194 ?_
                  refine lv_iload_n hx hb dX11_gather_197 rfl (lv_at hl 1 rfl) ?_
                  refine lv_aload_n hx hb dX11_gather_198 rfl (lv_at hl 0 rfl) ?_
                  refine mr_candidateVector S X Z hin hl_149 dX11_gather_199 ?_
                  refine lv_iload_n hx hb dX11_gather_202 rfl (lv_at hl 2 rfl) ?_
                  obtain ⟨v46, hc45, h⟩ := o1_e h
                  refine g_Vi (As := [.ref (A m_candidateVector), .int x25, .ref (A m_candidateVector), .int x33]) (rest := [.int x25, .ref (A m_beaten)]) S X Z mlv_o rfl rfl (t_X11_isSame l D dA A hJ ⟨ml_candidateVector, rfl⟩ ⟨ml_candidateVector, rfl⟩ hc45) (cwV 4 hts (mGV (mB 150 rfl) (mB 151 rfl) (mB 152 rfl) (mB 63 rfl) (mB 96 rfl)) rfl rfl rfl (by decide +kernel) ⟨Nat.le_of_ble_eq_true rfl, Nat.le_of_ble_eq_true rfl⟩) rfl hl.1 rfl (Nat.le_of_ble_eq_true rfl) dX11_gather_203 ⟨Nat.zero_le _, Nat.zero_le _⟩ (fun H locs Z => ?_)
                  obtain ⟨J230, eJ230, h⟩ := jn_e h
                  have hJ230 : ∀ (M47 : gM) (H : Heap) (locs : List Loc) (ls : Array Slot), gZ D mLay dA mLive A (gA mLive A) s.heap M47 H locs → lv_has ls 5 [(0, .ref (A m_o)), (2, .int x25), (3, .int x33)] → J230 M47 = some y → W p l e (headSpec wmX11_gather ({ frames := 2, cells := 0, slots := 0, locals := 50 } : Room)).room s m args below meth c H locs 0 0 (MQ below (mQv D dA A y) args s 0 0 (gA mLive A)) (F0 m 230 ls [.int x25, .ref (A m_beaten)]) := by
                    intro M47 H locs ls Z hl h
                    rw [eJ230] at h
                    try dsimp only at h
                    refine lv_iconst (v := (0 : Int32)) hx hb dX11_gather_230 (by decide) ?_
                    exact hJ231 (0 : Int32) M47 _ _ _ Z (lv_sub hl [0, 1, 2] rfl) h
                  refine lv_if_ne (tgt := 230) hx hb dX11_gather_206 (by decide) (fun c48 => ?_) (fun c48 => ?_)
                  · have h := if_f c48 h
                    exact hJ230 M34 _ _ _ Z (lv_sub hl [0, 1, 2] rfl) h
                  · have h := if_t c48 h
                    refine lv_aload_n hx hb dX11_gather_209 rfl (lv_at hl 0 rfl) ?_
                    refine lv_aload_n hx hb dX11_gather_210 rfl (lv_at hl 0 rfl) ?_
                    refine mr_candidateVector S X Z hin hl_149 dX11_gather_211 ?_
                    refine lv_iload_n hx hb dX11_gather_214 rfl (lv_at hl 1 rfl) ?_
                    refine lv_aload_n hx hb dX11_gather_215 rfl (lv_at hl 0 rfl) ?_
                    refine mr_candidateVector S X Z hin hl_149 dX11_gather_216 ?_
                    refine lv_iload_n hx hb dX11_gather_219 rfl (lv_at hl 2 rfl) ?_
                    obtain ⟨v50, hc49, h⟩ := o1_e h
                    refine g_Vi (As := [.ref (A m_candidateVector), .int x25, .ref (A m_candidateVector), .int x33]) (rest := [.int x25, .ref (A m_beaten)]) S X Z mlv_o rfl rfl (t_X11_isAtMost l D dA A hJ ⟨ml_candidateVector, rfl⟩ ⟨ml_candidateVector, rfl⟩ hc49) (cwV 4 hts (mGV (mB 143 rfl) (mB 144 rfl) (mB 145 rfl) (mB 63 rfl) (mB 95 rfl)) rfl rfl rfl (by decide +kernel) ⟨Nat.le_of_ble_eq_true rfl, Nat.le_of_ble_eq_true rfl⟩) rfl hl.1 rfl (Nat.le_of_ble_eq_true rfl) dX11_gather_220 ⟨Nat.zero_le _, Nat.zero_le _⟩ (fun H locs Z => ?_)
                    refine lv_if_eq (tgt := 230) hx hb dX11_gather_223 (by decide) (fun c51 => ?_) (fun c51 => ?_)
                    · have h := if_t c51 h
                      exact hJ230 M34 _ _ _ Z (lv_sub hl [0, 1, 2] rfl) h
                    · have h := if_f c51 h
                      exact hJ226 M34 _ _ _ Z (lv_sub hl [0, 1, 2] rfl) h
          exact hL170 100 (0 : Int32) M30 _ _ _ Z (lv_sub hl [1, 2, 0] rfl) h
    exact hL153 100 (0 : Int32) M2 _ _ _ Z (lv_sub hl [1, 0] rfl) h
  have hL7 : ∀ (n : Nat) (x52 : Int32) (M53 : gM) (H : Heap) (locs : List Loc) (ls : Array Slot), gZ D mLay dA mLive A (gA mLive A) s.heap M53 H locs → lv_has ls 5 [(0, .ref (A m_o)), (1, .int a1), (2, .int x52)] → f_X11_gather_L7 a1 J151 n x52 M53 = some y → W p l e (headSpec wmX11_gather ({ frames := 2, cells := 0, slots := 0, locals := 50 } : Room)).room s m args below meth c H locs 0 0 (MQ below (mQv D dA A y) args s 0 0 (gA mLive A)) (F0 m 7 ls []) := by
    intro n
    induction n with
    | zero =>
      intro x52 M53 H locs ls Z hl h
      rw [f_X11_gather_L7] at h
      cases h
    | succ n54 ih7 =>
      intro x52 M53 H locs ls Z hl h
      rw [f_X11_gather_L7] at h
      refine lv_iload_n hx hb dX11_gather_7 rfl (lv_at hl 2 rfl) ?_
      refine lv_aload_n hx hb dX11_gather_8 rfl (lv_at hl 0 rfl) ?_
      refine mr_servers S X Z hin hl_155 dX11_gather_9 h (fun v55 h => ?_)
      refine lv_icmp_ge (tgt := 151) hx hb dX11_gather_12 (by decide) (fun c56 => ?_) (fun c56 => ?_)
      · have h := if_t c56 h
        exact hJ151 M53 _ _ _ Z (lv_sub hl [0] rfl) h
      · have h := if_f c56 h
        refine lv_bipush (v := (48 : Int32)) hx hb dX11_gather_15 (by decide) ?_
        refine lv_iload_n hx hb dX11_gather_17 rfl (lv_at hl 2 rfl) ?_
        refine lv_imul hx hb dX11_gather_18 ?_
        refine lv_iload_n hx hb dX11_gather_19 rfl (lv_at hl 1 rfl) ?_
        refine lv_iadd hx hb dX11_gather_20 ?_
        refine g_topi h (fun x57 h => ?_)
        refine lv_istore_n (lv' := [(3, .int x57), (0, .ref (A m_o)), (1, .int a1), (2, .int x52)]) hx hb dX11_gather_21 rfl hl (by decide) rfl (fun ls hl => ?_)
        refine lv_aload_n hx hb dX11_gather_22 rfl (lv_at hl 1 rfl) ?_
        refine lv_iload_n hx hb dX11_gather_23 rfl (lv_at hl 3 rfl) ?_
        obtain ⟨v59, hc58, h⟩ := o1_e h
        refine g_Vi (As := [.int x52]) (rest := []) S X Z mlv_o rfl rfl (t_X11_isOf l D dA A hJ  hc58) (cwV 1 hts (mGV (mB 293 rfl) (mB 294 rfl) (mB 295 rfl) (mB 63 rfl) (mB 290 rfl)) rfl rfl rfl (by decide +kernel) ⟨Nat.le_of_ble_eq_true rfl, Nat.le_of_ble_eq_true rfl⟩) rfl hl.1 rfl (Nat.le_of_ble_eq_true rfl) dX11_gather_24 ⟨Nat.zero_le _, Nat.zero_le _⟩ (fun H locs Z => ?_)
        obtain ⟨J69, eJ69, h⟩ := jn_e h
        have hJ69 : ∀ (M60 : gM) (H : Heap) (locs : List Loc) (ls : Array Slot), gZ D mLay dA mLive A (gA mLive A) s.heap M60 H locs → lv_has ls 5 [(0, .ref (A m_o)), (1, .int a1), (2, .int x52), (3, .int x57)] → J69 M60 = some y → W p l e (headSpec wmX11_gather ({ frames := 2, cells := 0, slots := 0, locals := 50 } : Room)).room s m args below meth c H locs 0 0 (MQ below (mQv D dA A y) args s 0 0 (gA mLive A)) (F0 m 69 ls []) := by
          intro M60 H locs ls Z hl h
          rw [eJ69] at h
          try dsimp only at h
          refine lv_iconst (v := (0 : Int32)) hx hb dX11_gather_69 (by decide) ?_
          refine lv_istore (lv' := [(4, .int (0 : Int32)), (0, .ref (A m_o)), (1, .int a1), (2, .int x52), (3, .int x57)]) hx hb dX11_gather_70 hl (by decide) rfl (fun ls hl => ?_)
          obtain ⟨J145, eJ145, h⟩ := jn_e h
          have hJ145 : ∀ (M61 : gM) (H : Heap) (locs : List Loc) (ls : Array Slot), gZ D mLay dA mLive A (gA mLive A) s.heap M61 H locs → lv_has ls 5 [(0, .ref (A m_o)), (1, .int a1), (2, .int x52)] → J145 M61 = some y → W p l e (headSpec wmX11_gather ({ frames := 2, cells := 0, slots := 0, locals := 50 } : Room)).room s m args below meth c H locs 0 0 (MQ below (mQv D dA A y) args s 0 0 (gA mLive A)) (F0 m 145 ls []) := by
            intro M61 H locs ls Z hl h
            rw [eJ145] at h
            try dsimp only at h
            obtain ⟨x62, ex62, h⟩ := lt_e h
            refine lv_iinc (v := x62) (lv' := [(2, .int x62), (0, .ref (A m_o)), (1, .int a1)]) hx hb dX11_gather_145 hl (k := 2) rfl (by rw [ex62]; rfl) (by decide) rfl (fun ls hl => ?_)
            refine lv_goto (tgt := 7) hx hb dX11_gather_148 (by decide) ?_
            exact ih7 x62 M61 _ _ _ Z (lv_sub hl [1, 2, 0] rfl) h
          have hL72 : ∀ (n : Nat) (x63 : Int32) (M64 : gM) (H : Heap) (locs : List Loc) (ls : Array Slot), gZ D mLay dA mLive A (gA mLive A) s.heap M64 H locs → lv_has ls 5 [(0, .ref (A m_o)), (1, .int a1), (2, .int x52), (3, .int x57), (4, .int x63)] → f_X11_gather_L72 a1 x52 x57 J145 J151 n x63 M64 = some y → W p l e (headSpec wmX11_gather ({ frames := 2, cells := 0, slots := 0, locals := 50 } : Room)).room s m args below meth c H locs 0 0 (MQ below (mQv D dA A y) args s 0 0 (gA mLive A)) (F0 m 72 ls []) := by
            intro n
            induction n with
            | zero =>
              intro x63 M64 H locs ls Z hl h
              rw [f_X11_gather_L72] at h
              cases h
            | succ n65 ih72 =>
              intro x63 M64 H locs ls Z hl h
              rw [f_X11_gather_L72] at h
              refine lv_aload_n hx hb dX11_gather_72 rfl (lv_at hl 0 rfl) ?_
              refine lv_iload_n hx hb dX11_gather_73 rfl (lv_at hl 2 rfl) ?_
              obtain ⟨v67, hc66, h⟩ := o1_e h
              refine g_Vi (As := [.int x52]) (rest := []) S X Z mlv_o rfl rfl (t_X11_isOf l D dA A hJ  hc66) (cwV 1 hts (mGV (mB 293 rfl) (mB 294 rfl) (mB 295 rfl) (mB 63 rfl) (mB 290 rfl)) rfl rfl rfl (by decide +kernel) ⟨Nat.le_of_ble_eq_true rfl, Nat.le_of_ble_eq_true rfl⟩) rfl hl.1 rfl (Nat.le_of_ble_eq_true rfl) dX11_gather_74 ⟨Nat.zero_le _, Nat.zero_le _⟩ (fun H locs Z => ?_)
              refine lv_if_eq (tgt := 145) hx hb dX11_gather_77 (by decide) (fun c68 => ?_) (fun c68 => ?_)
              · have h := if_t c68 h
                exact hJ145 M64 _ _ _ Z (lv_sub hl [0, 1, 2] rfl) h
              · have h := if_f c68 h
                refine lv_aload_n hx hb dX11_gather_80 rfl (lv_at hl 0 rfl) ?_
                refine mr_has S X Z hin hl_32 dX11_gather_81 ?_
                refine lv_iload_n hx hb dX11_gather_84 rfl (lv_at hl 3 rfl) ?_
                refine g_zald S X Z ml_has rfl dX11_gather_85 h (fun v69 h => ?_)
                refine lv_if_eq (tgt := 145) hx hb dX11_gather_86 (by decide) (fun c70 => ?_) (fun c70 => ?_)
                · have h := if_t c70 h
                  exact hJ145 M64 _ _ _ Z (lv_sub hl [0, 1, 2] rfl) h
                · have h := if_f c70 h
                  refine lv_iload hx hb dX11_gather_89 (lv_at hl 4 rfl) ?_
                  refine lv_aload_n hx hb dX11_gather_91 rfl (lv_at hl 0 rfl) ?_
                  refine mr_versions S X Z hin hl_44 dX11_gather_92 ?_
                  refine lv_iload_n hx hb dX11_gather_95 rfl (lv_at hl 3 rfl) ?_
                  refine g_iald S X Z ml_versions rfl dX11_gather_96 h (fun v71 h => ?_)
                  refine lv_icmp_ge (tgt := 145) hx hb dX11_gather_97 (by decide) (fun c72 => ?_) (fun c72 => ?_)
                  · have h := if_t c72 h
                    exact hJ145 M64 _ _ _ Z (lv_sub hl [0, 1, 2] rfl) h
                  · have h := if_f c72 h
                    refine lv_aload_n hx hb dX11_gather_100 rfl (lv_at hl 0 rfl) ?_
                    refine lv_aload_n hx hb dX11_gather_101 rfl (lv_at hl 0 rfl) ?_
                    refine mr_versionValue S X Z hin hl_47 dX11_gather_102 ?_
                    refine lv_bipush (v := (6 : Int32)) hx hb dX11_gather_105 (by decide) ?_
                    refine lv_iload_n hx hb dX11_gather_107 rfl (lv_at hl 3 rfl) ?_
                    refine lv_imul hx hb dX11_gather_108 ?_
                    refine lv_iload hx hb dX11_gather_109 (lv_at hl 4 rfl) ?_
                    refine lv_iadd hx hb dX11_gather_111 ?_
                    refine g_iald S X Z ml_versionValue rfl dX11_gather_112 h (fun v73 h => ?_)
                    refine lv_aload_n hx hb dX11_gather_113 rfl (lv_at hl 0 rfl) ?_
                    refine mr_versionSize S X Z hin hl_50 dX11_gather_114 ?_
                    refine lv_bipush (v := (6 : Int32)) hx hb dX11_gather_117 (by decide) ?_
                    refine lv_iload_n hx hb dX11_gather_119 rfl (lv_at hl 3 rfl) ?_
                    refine lv_imul hx hb dX11_gather_120 ?_
                    refine lv_iload hx hb dX11_gather_121 (lv_at hl 4 rfl) ?_
                    refine lv_iadd hx hb dX11_gather_123 ?_
                    refine g_iald S X Z ml_versionSize rfl dX11_gather_124 h (fun v74 h => ?_)
                    refine lv_aload_n hx hb dX11_gather_125 rfl (lv_at hl 0 rfl) ?_
                    refine mr_versionVector S X Z hin hl_53 dX11_gather_126 ?_
                    refine lv_bipush (v := (6 : Int32)) hx hb dX11_gather_129 (by decide) ?_
                    refine lv_iload_n hx hb dX11_gather_131 rfl (lv_at hl 3 rfl) ?_
                    refine lv_imul hx hb dX11_gather_132 ?_
                    refine lv_iload hx hb dX11_gather_133 (lv_at hl 4 rfl) ?_
                    refine lv_iadd hx hb dX11_gather_135 ?_
                    obtain ⟨M76, hc75, h⟩ := o1_e h
                    refine g_Vv (As := [.int v73, .int v74, .ref (A m_versionVector), .int (((6 : Int32) * x57) + x63)]) (rest := []) S X Z mlv_o rfl rfl (t_X11_addCandidate l D dA A hJ ⟨ml_versionVector, rfl⟩ hc75) (cwV 4 hts (mGV (mB 320 rfl) (mB 321 rfl) (mB 322 rfl) (mB 63 rfl) (mB 318 rfl)) rfl rfl rfl (by decide +kernel) ⟨Nat.le_of_ble_eq_true rfl, Nat.le_of_ble_eq_true rfl⟩) rfl hl.1 rfl (Nat.le_of_ble_eq_true rfl) dX11_gather_136 ⟨Nat.zero_le _, Nat.zero_le _⟩ (fun H locs Z => ?_)
                    obtain ⟨x77, ex77, h⟩ := lt_e h
                    refine lv_iinc (v := x77) (lv' := [(4, .int x77), (0, .ref (A m_o)), (1, .int a1), (2, .int x52), (3, .int x57)]) hx hb dX11_gather_139 hl (k := 4) rfl (by rw [ex77]; rfl) (by decide) rfl (fun ls hl => ?_)
                    refine lv_goto (tgt := 72) hx hb dX11_gather_142 (by decide) ?_
                    exact ih72 x77 M76 _ _ _ Z (lv_sub hl [1, 2, 3, 4, 0] rfl) h
          exact hL72 100 (0 : Int32) M60 _ _ _ Z (lv_sub hl [1, 2, 3, 4, 0] rfl) h
        refine lv_if_eq (tgt := 69) hx hb dX11_gather_27 (by decide) (fun c78 => ?_) (fun c78 => ?_)
        · have h := if_t c78 h
          exact hJ69 M53 _ _ _ Z (lv_sub hl [1, 2, 3, 0] rfl) h
        · have h := if_f c78 h
          refine lv_aload_n hx hb dX11_gather_30 rfl (lv_at hl 1 rfl) ?_
          refine mr_has S X Z hin hl_32 dX11_gather_31 ?_
          refine lv_iload_n hx hb dX11_gather_34 rfl (lv_at hl 0 rfl) ?_
          refine g_zald S X Z ml_has rfl dX11_gather_35 h (fun v79 h => ?_)
          refine lv_if_eq (tgt := 69) hx hb dX11_gather_36 (by decide) (fun c80 => ?_) (fun c80 => ?_)
          · have h := if_t c80 h
            exact hJ69 M53 _ _ _ Z (lv_sub hl [1, 2, 3, 0] rfl) h
          · have h := if_f c80 h
            refine lv_aload_n hx hb dX11_gather_39 rfl (lv_at hl 1 rfl) ?_
            refine mr_versions S X Z hin hl_44 dX11_gather_40 ?_
            refine lv_iload_n hx hb dX11_gather_43 rfl (lv_at hl 0 rfl) ?_
            refine g_iald S X Z ml_versions rfl dX11_gather_44 h (fun v81 h => ?_)
            refine lv_if_ne (tgt := 69) hx hb dX11_gather_45 (by decide) (fun c82 => ?_) (fun c82 => ?_)
            · have h := if_f c82 h
              exact hJ69 M53 _ _ _ Z (lv_sub hl [1, 2, 3, 0] rfl) h
            · have h := if_t c82 h
              refine lv_aload_n hx hb dX11_gather_48 rfl (lv_at hl 1 rfl) ?_
              refine lv_aload_n hx hb dX11_gather_49 rfl (lv_at hl 1 rfl) ?_
              refine mr_value S X Z hin hl_35 dX11_gather_50 ?_
              refine lv_iload_n hx hb dX11_gather_53 rfl (lv_at hl 0 rfl) ?_
              refine g_iald S X Z ml_value rfl dX11_gather_54 h (fun v83 h => ?_)
              refine lv_aload_n hx hb dX11_gather_55 rfl (lv_at hl 1 rfl) ?_
              refine mr_size S X Z hin hl_38 dX11_gather_56 ?_
              refine lv_iload_n hx hb dX11_gather_59 rfl (lv_at hl 0 rfl) ?_
              refine g_iald S X Z ml_size rfl dX11_gather_60 h (fun v84 h => ?_)
              refine lv_aload_n hx hb dX11_gather_61 rfl (lv_at hl 1 rfl) ?_
              refine mr_vector S X Z hin hl_41 dX11_gather_62 ?_
              refine lv_iload_n hx hb dX11_gather_65 rfl (lv_at hl 0 rfl) ?_
              obtain ⟨M86, hc85, h⟩ := o1_e h
              refine g_Vv (As := [.int v83, .int v84, .ref (A m_vector), .int x57]) (rest := []) S X Z mlv_o rfl rfl (t_X11_addCandidate l D dA A hJ ⟨ml_vector, rfl⟩ hc85) (cwV 4 hts (mGV (mB 320 rfl) (mB 321 rfl) (mB 322 rfl) (mB 63 rfl) (mB 318 rfl)) rfl rfl rfl (by decide +kernel) ⟨Nat.le_of_ble_eq_true rfl, Nat.le_of_ble_eq_true rfl⟩) rfl hl.1 rfl (Nat.le_of_ble_eq_true rfl) dX11_gather_66 ⟨Nat.zero_le _, Nat.zero_le _⟩ (fun H locs Z => ?_)
              exact hJ69 M86 _ _ _ Z (lv_sub hl [1, 2, 3, 0] rfl) h
  exact hL7 100 (0 : Int32) M1 _ _ _ Z (lv_sub hl [1, 2, 0] rfl) h
