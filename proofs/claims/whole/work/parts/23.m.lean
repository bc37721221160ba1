-- X11_isAlike (III)Z: 143 instructions
theorem dX11_isAlike_0 : decode cX11_isAlike 0 = .ok (.bipush 48, 2) := by decide +kernel
theorem dX11_isAlike_2 : decode cX11_isAlike 2 = .ok (.iload_n 1, 1) := by decide +kernel
theorem dX11_isAlike_3 : decode cX11_isAlike 3 = .ok (.imul, 1) := by decide +kernel
theorem dX11_isAlike_4 : decode cX11_isAlike 4 = .ok (.iload_n 3, 1) := by decide +kernel
theorem dX11_isAlike_5 : decode cX11_isAlike 5 = .ok (.iadd, 1) := by decide +kernel
theorem dX11_isAlike_6 : decode cX11_isAlike 6 = .ok (.istore 4, 2) := by decide +kernel
theorem dX11_isAlike_8 : decode cX11_isAlike 8 = .ok (.bipush 48, 2) := by decide +kernel
theorem dX11_isAlike_10 : decode cX11_isAlike 10 = .ok (.iload_n 2, 1) := by decide +kernel
theorem dX11_isAlike_11 : decode cX11_isAlike 11 = .ok (.imul, 1) := by decide +kernel
theorem dX11_isAlike_12 : decode cX11_isAlike 12 = .ok (.iload_n 3, 1) := by decide +kernel
theorem dX11_isAlike_13 : decode cX11_isAlike 13 = .ok (.iadd, 1) := by decide +kernel
theorem dX11_isAlike_14 : decode cX11_isAlike 14 = .ok (.istore 5, 2) := by decide +kernel
theorem dX11_isAlike_16 : decode cX11_isAlike 16 = .ok (.aload_n 0, 1) := by decide +kernel
theorem dX11_isAlike_17 : decode cX11_isAlike 17 = .ok (.getfield 32, 3) := by decide +kernel
theorem dX11_isAlike_20 : decode cX11_isAlike 20 = .ok (.iload 4, 2) := by decide +kernel
theorem dX11_isAlike_22 : decode cX11_isAlike 22 = .ok (.baload, 1) := by decide +kernel
theorem dX11_isAlike_23 : decode cX11_isAlike 23 = .ok (.ifCond .eq 13, 3) := by decide +kernel
theorem dX11_isAlike_26 : decode cX11_isAlike 26 = .ok (.aload_n 0, 1) := by decide +kernel
theorem dX11_isAlike_27 : decode cX11_isAlike 27 = .ok (.getfield 32, 3) := by decide +kernel
theorem dX11_isAlike_30 : decode cX11_isAlike 30 = .ok (.iload 5, 2) := by decide +kernel
theorem dX11_isAlike_32 : decode cX11_isAlike 32 = .ok (.baload, 1) := by decide +kernel
theorem dX11_isAlike_33 : decode cX11_isAlike 33 = .ok (.ifCond .ne 26, 3) := by decide +kernel
theorem dX11_isAlike_36 : decode cX11_isAlike 36 = .ok (.aload_n 0, 1) := by decide +kernel
theorem dX11_isAlike_37 : decode cX11_isAlike 37 = .ok (.getfield 32, 3) := by decide +kernel
theorem dX11_isAlike_40 : decode cX11_isAlike 40 = .ok (.iload 4, 2) := by decide +kernel
theorem dX11_isAlike_42 : decode cX11_isAlike 42 = .ok (.baload, 1) := by decide +kernel
theorem dX11_isAlike_43 : decode cX11_isAlike 43 = .ok (.aload_n 0, 1) := by decide +kernel
theorem dX11_isAlike_44 : decode cX11_isAlike 44 = .ok (.getfield 32, 3) := by decide +kernel
theorem dX11_isAlike_47 : decode cX11_isAlike 47 = .ok (.iload 5, 2) := by decide +kernel
theorem dX11_isAlike_49 : decode cX11_isAlike 49 = .ok (.baload, 1) := by decide +kernel
theorem dX11_isAlike_50 : decode cX11_isAlike 50 = .ok (.if_icmp .ne 7, 3) := by decide +kernel
theorem dX11_isAlike_53 : decode cX11_isAlike 53 = .ok (.iconst 1, 1) := by decide +kernel
theorem dX11_isAlike_54 : decode cX11_isAlike 54 = .ok (.goto 4, 3) := by decide +kernel
theorem dX11_isAlike_57 : decode cX11_isAlike 57 = .ok (.iconst 0, 1) := by decide +kernel
theorem dX11_isAlike_58 : decode cX11_isAlike 58 = .ok (.ireturn, 1) := by decide +kernel
theorem dX11_isAlike_59 : decode cX11_isAlike 59 = .ok (.aload_n 0, 1) := by decide +kernel
theorem dX11_isAlike_60 : decode cX11_isAlike 60 = .ok (.getfield 29, 3) := by decide +kernel
theorem dX11_isAlike_63 : decode cX11_isAlike 63 = .ok (.iload_n 3, 1) := by decide +kernel
theorem dX11_isAlike_64 : decode cX11_isAlike 64 = .ok (.baload, 1) := by decide +kernel
theorem dX11_isAlike_65 : decode cX11_isAlike 65 = .ok (.ifCond .eq 11, 3) := by decide +kernel
theorem dX11_isAlike_68 : decode cX11_isAlike 68 = .ok (.aload_n 0, 1) := by decide +kernel
theorem dX11_isAlike_69 : decode cX11_isAlike 69 = .ok (.iload_n 1, 1) := by decide +kernel
theorem dX11_isAlike_70 : decode cX11_isAlike 70 = .ok (.iload_n 2, 1) := by decide +kernel
theorem dX11_isAlike_71 : decode cX11_isAlike 71 = .ok (.iload_n 3, 1) := by decide +kernel
theorem dX11_isAlike_72 : decode cX11_isAlike 72 = .ok (.invokevirtual 436, 3) := by decide +kernel
theorem dX11_isAlike_75 : decode cX11_isAlike 75 = .ok (.ireturn, 1) := by decide +kernel
theorem dX11_isAlike_76 : decode cX11_isAlike 76 = .ok (.aload_n 0, 1) := by decide +kernel
theorem dX11_isAlike_77 : decode cX11_isAlike 77 = .ok (.getfield 35, 3) := by decide +kernel
theorem dX11_isAlike_80 : decode cX11_isAlike 80 = .ok (.iload 4, 2) := by decide +kernel
theorem dX11_isAlike_82 : decode cX11_isAlike 82 = .ok (.iaload, 1) := by decide +kernel
theorem dX11_isAlike_83 : decode cX11_isAlike 83 = .ok (.aload_n 0, 1) := by decide +kernel
theorem dX11_isAlike_84 : decode cX11_isAlike 84 = .ok (.getfield 35, 3) := by decide +kernel
theorem dX11_isAlike_87 : decode cX11_isAlike 87 = .ok (.iload 5, 2) := by decide +kernel
theorem dX11_isAlike_89 : decode cX11_isAlike 89 = .ok (.iaload, 1) := by decide +kernel
theorem dX11_isAlike_90 : decode cX11_isAlike 90 = .ok (.if_icmp .ne 60, 3) := by decide +kernel
theorem dX11_isAlike_93 : decode cX11_isAlike 93 = .ok (.aload_n 0, 1) := by decide +kernel
theorem dX11_isAlike_94 : decode cX11_isAlike 94 = .ok (.getfield 38, 3) := by decide +kernel
theorem dX11_isAlike_97 : decode cX11_isAlike 97 = .ok (.iload 4, 2) := by decide +kernel
theorem dX11_isAlike_99 : decode cX11_isAlike 99 = .ok (.iaload, 1) := by decide +kernel
theorem dX11_isAlike_100 : decode cX11_isAlike 100 = .ok (.aload_n 0, 1) := by decide +kernel
theorem dX11_isAlike_101 : decode cX11_isAlike 101 = .ok (.getfield 38, 3) := by decide +kernel
theorem dX11_isAlike_104 : decode cX11_isAlike 104 = .ok (.iload 5, 2) := by decide +kernel
theorem dX11_isAlike_106 : decode cX11_isAlike 106 = .ok (.iaload, 1) := by decide +kernel
theorem dX11_isAlike_107 : decode cX11_isAlike 107 = .ok (.if_icmp .ne 43, 3) := by decide +kernel
theorem dX11_isAlike_110 : decode cX11_isAlike 110 = .ok (.aload_n 0, 1) := by decide +kernel
theorem dX11_isAlike_111 : decode cX11_isAlike 111 = .ok (.getfield 44, 3) := by decide +kernel
theorem dX11_isAlike_114 : decode cX11_isAlike 114 = .ok (.iload 4, 2) := by decide +kernel
theorem dX11_isAlike_116 : decode cX11_isAlike 116 = .ok (.iaload, 1) := by decide +kernel
theorem dX11_isAlike_117 : decode cX11_isAlike 117 = .ok (.aload_n 0, 1) := by decide +kernel
theorem dX11_isAlike_118 : decode cX11_isAlike 118 = .ok (.getfield 44, 3) := by decide +kernel
theorem dX11_isAlike_121 : decode cX11_isAlike 121 = .ok (.iload 5, 2) := by decide +kernel
theorem dX11_isAlike_123 : decode cX11_isAlike 123 = .ok (.iaload, 1) := by decide +kernel
theorem dX11_isAlike_124 : decode cX11_isAlike 124 = .ok (.if_icmp .ne 26, 3) := by decide +kernel
theorem dX11_isAlike_127 : decode cX11_isAlike 127 = .ok (.aload_n 0, 1) := by decide +kernel
theorem dX11_isAlike_128 : decode cX11_isAlike 128 = .ok (.aload_n 0, 1) := by decide +kernel
theorem dX11_isAlike_129 : decode cX11_isAlike 129 = .ok (.getfield 41, 3) := by decide +kernel
theorem dX11_isAlike_132 : decode cX11_isAlike 132 = .ok (.iload 4, 2) := by decide +kernel
theorem dX11_isAlike_134 : decode cX11_isAlike 134 = .ok (.aload_n 0, 1) := by decide +kernel
theorem dX11_isAlike_135 : decode cX11_isAlike 135 = .ok (.getfield 41, 3) := by decide +kernel
theorem dX11_isAlike_138 : decode cX11_isAlike 138 = .ok (.iload 5, 2) := by decide +kernel
theorem dX11_isAlike_140 : decode cX11_isAlike 140 = .ok (.invokevirtual 275, 3) := by decide +kernel
theorem dX11_isAlike_143 : decode cX11_isAlike 143 = .ok (.ifCond .eq 7, 3) := by decide +kernel
theorem dX11_isAlike_146 : decode cX11_isAlike 146 = .ok (.iconst 1, 1) := by decide +kernel
theorem dX11_isAlike_147 : decode cX11_isAlike 147 = .ok (.goto 4, 3) := by decide +kernel
theorem dX11_isAlike_150 : decode cX11_isAlike 150 = .ok (.iconst 0, 1) := by decide +kernel
theorem dX11_isAlike_151 : decode cX11_isAlike 151 = .ok (.istore 6, 2) := by decide +kernel
theorem dX11_isAlike_153 : decode cX11_isAlike 153 = .ok (.iconst 0, 1) := by decide +kernel
theorem dX11_isAlike_154 : decode cX11_isAlike 154 = .ok (.istore 7, 2) := by decide +kernel
theorem dX11_isAlike_156 : decode cX11_isAlike 156 = .ok (.iload 7, 2) := by decide +kernel
theorem dX11_isAlike_158 : decode cX11_isAlike 158 = .ok (.aload_n 0, 1) := by decide +kernel
theorem dX11_isAlike_159 : decode cX11_isAlike 159 = .ok (.getfield 44, 3) := by decide +kernel
theorem dX11_isAlike_162 : decode cX11_isAlike 162 = .ok (.iload 4, 2) := by decide +kernel
theorem dX11_isAlike_164 : decode cX11_isAlike 164 = .ok (.iaload, 1) := by decide +kernel
theorem dX11_isAlike_165 : decode cX11_isAlike 165 = .ok (.if_icmp .ge 94, 3) := by decide +kernel
theorem dX11_isAlike_168 : decode cX11_isAlike 168 = .ok (.iload 6, 2) := by decide +kernel
theorem dX11_isAlike_170 : decode cX11_isAlike 170 = .ok (.ifCond .eq 89, 3) := by decide +kernel
theorem dX11_isAlike_173 : decode cX11_isAlike 173 = .ok (.bipush 6, 2) := by decide +kernel
theorem dX11_isAlike_175 : decode cX11_isAlike 175 = .ok (.iload 4, 2) := by decide +kernel
theorem dX11_isAlike_177 : decode cX11_isAlike 177 = .ok (.imul, 1) := by decide +kernel
theorem dX11_isAlike_178 : decode cX11_isAlike 178 = .ok (.iload 7, 2) := by decide +kernel
theorem dX11_isAlike_180 : decode cX11_isAlike 180 = .ok (.iadd, 1) := by decide +kernel
theorem dX11_isAlike_181 : decode cX11_isAlike 181 = .ok (.istore 8, 2) := by decide +kernel
theorem dX11_isAlike_183 : decode cX11_isAlike 183 = .ok (.bipush 6, 2) := by decide +kernel
theorem dX11_isAlike_185 : decode cX11_isAlike 185 = .ok (.iload 5, 2) := by decide +kernel
theorem dX11_isAlike_187 : decode cX11_isAlike 187 = .ok (.imul, 1) := by decide +kernel
theorem dX11_isAlike_188 : decode cX11_isAlike 188 = .ok (.iload 7, 2) := by decide +kernel
theorem dX11_isAlike_190 : decode cX11_isAlike 190 = .ok (.iadd, 1) := by decide +kernel
theorem dX11_isAlike_191 : decode cX11_isAlike 191 = .ok (.istore 9, 2) := by decide +kernel
theorem dX11_isAlike_193 : decode cX11_isAlike 193 = .ok (.aload_n 0, 1) := by decide +kernel
theorem dX11_isAlike_194 : decode cX11_isAlike 194 = .ok (.getfield 47, 3) := by decide +kernel
theorem dX11_isAlike_197 : decode cX11_isAlike 197 = .ok (.iload 8, 2) := by decide +kernel
theorem dX11_isAlike_199 : decode cX11_isAlike 199 = .ok (.iaload, 1) := by decide +kernel
theorem dX11_isAlike_200 : decode cX11_isAlike 200 = .ok (.aload_n 0, 1) := by decide +kernel
theorem dX11_isAlike_201 : decode cX11_isAlike 201 = .ok (.getfield 47, 3) := by decide +kernel
theorem dX11_isAlike_204 : decode cX11_isAlike 204 = .ok (.iload 9, 2) := by decide +kernel
theorem dX11_isAlike_206 : decode cX11_isAlike 206 = .ok (.iaload, 1) := by decide +kernel
theorem dX11_isAlike_207 : decode cX11_isAlike 207 = .ok (.if_icmp .ne 43, 3) := by decide +kernel
theorem dX11_isAlike_210 : decode cX11_isAlike 210 = .ok (.aload_n 0, 1) := by decide +kernel
theorem dX11_isAlike_211 : decode cX11_isAlike 211 = .ok (.getfield 50, 3) := by decide +kernel
theorem dX11_isAlike_214 : decode cX11_isAlike 214 = .ok (.iload 8, 2) := by decide +kernel
theorem dX11_isAlike_216 : decode cX11_isAlike 216 = .ok (.iaload, 1) := by decide +kernel
theorem dX11_isAlike_217 : decode cX11_isAlike 217 = .ok (.aload_n 0, 1) := by decide +kernel
theorem dX11_isAlike_218 : decode cX11_isAlike 218 = .ok (.getfield 50, 3) := by decide +kernel
theorem dX11_isAlike_221 : decode cX11_isAlike 221 = .ok (.iload 9, 2) := by decide +kernel
theorem dX11_isAlike_223 : decode cX11_isAlike 223 = .ok (.iaload, 1) := by decide +kernel
theorem dX11_isAlike_224 : decode cX11_isAlike 224 = .ok (.if_icmp .ne 26, 3) := by decide +kernel
theorem dX11_isAlike_227 : decode cX11_isAlike 227 = .ok (.aload_n 0, 1) := by decide +kernel
theorem dX11_isAlike_228 : decode cX11_isAlike 228 = .ok (.aload_n 0, 1) := by decide +kernel
theorem dX11_isAlike_229 : decode cX11_isAlike 229 = .ok (.getfield 53, 3) := by decide +kernel
theorem dX11_isAlike_232 : decode cX11_isAlike 232 = .ok (.iload 8, 2) := by decide +kernel
theorem dX11_isAlike_234 : decode cX11_isAlike 234 = .ok (.aload_n 0, 1) := by decide +kernel
theorem dX11_isAlike_235 : decode cX11_isAlike 235 = .ok (.getfield 53, 3) := by decide +kernel
theorem dX11_isAlike_238 : decode cX11_isAlike 238 = .ok (.iload 9, 2) := by decide +kernel
theorem dX11_isAlike_240 : decode cX11_isAlike 240 = .ok (.invokevirtual 275, 3) := by decide +kernel
theorem dX11_isAlike_243 : decode cX11_isAlike 243 = .ok (.ifCond .eq 7, 3) := by decide +kernel
theorem dX11_isAlike_246 : decode cX11_isAlike 246 = .ok (.iconst 1, 1) := by decide +kernel
theorem dX11_isAlike_247 : decode cX11_isAlike 247 = .ok (.goto 4, 3) := by decide +kernel
theorem dX11_isAlike_250 : decode cX11_isAlike 250 = .ok (.iconst 0, 1) := by decide +kernel
theorem dX11_isAlike_251 : decode cX11_isAlike 251 = .ok (.istore 6, 2) := by decide +kernel
theorem dX11_isAlike_253 : decode cX11_isAlike 253 = .ok (.iinc 7 1, 3) := by decide +kernel
theorem dX11_isAlike_256 : decode cX11_isAlike 256 = .ok (.goto (-100), 3) := by decide +kernel
theorem dX11_isAlike_259 : decode cX11_isAlike 259 = .ok (.iload 6, 2) := by decide +kernel
theorem dX11_isAlike_261 : decode cX11_isAlike 261 = .ok (.ireturn, 1) := by decide +kernel
abbrev wmX11_isAlike : List Cond := .code yX11_isAlike cX11_isAlike 10 (some .boolean) :: mBig
def f_X11_isAlike_L156 (M17 : gM) (x1 : Int32) (x2 : Int32) (J36 : Unit → Option Int32) : Nat → Int32 → Int32 → Option Int32
  | 0, _, _ => none
  | n18 + 1, x15, x16 => rd M17 m_versions 192 x1 (fun v19 => (if v19 ≤ x16 then gz x15 (some x15) else (if x15 = 0 then gz x15 (some x15) else lt ((((6 : Int32) * x1) + x16)) (fun x24 => lt ((((6 : Int32) * x2) + x16)) (fun x25 => rd M17 m_versionValue 1152 x24 (fun v26 => rd M17 m_versionValue 1152 x25 (fun v27 => jn (fun (b28 : Int32) => lt (x16 + 1) (fun x29 => f_X11_isAlike_L156 M17 x1 x2 J36 n18 b28 x29)) (fun J251 => jn (fun (_ : Unit) => J251 (0 : Int32)) (fun J250 => (if v26 = v27 then rd M17 m_versionSize 1152 x24 (fun v31 => rd M17 m_versionSize 1152 x25 (fun v32 => (if v31 = v32 then o1 (f_X11_isSame M17 m_versionVector x24 m_versionVector x25) (fun v35 => (if v35 = 0 then J250 () else J251 (1 : Int32))) else J250 ()))) else J250 ()))))))))))
def f_X11_isAlike (M : gM) (a1 : Int32) (a2 : Int32) (a3 : Int32) : Option Int32 :=
  lt ((((48 : Int32) * a1) + a3)) (fun x1 => lt ((((48 : Int32) * a2) + a3)) (fun x2 => rd M m_has 192 x1 (fun v3 => jn (fun (_ : Unit) => rd M m_has 192 x1 (fun v4 => rd M m_has 192 x2 (fun v5 => (if v4 = v5 then some (1 : Int32) else some (0 : Int32))))) (fun J36 => (if v3 = 0 then J36 () else rd M m_has 192 x2 (fun v8 => (if v8 = 0 then J36 () else rd M m_isDirectory 48 a3 (fun v10 => (if v10 = 0 then rd M m_value 192 x1 (fun v12 => rd M m_value 192 x2 (fun v13 => jn (fun (b14 : Int32) => f_X11_isAlike_L156 M x1 x2 J36 100 b14 (0 : Int32)) (fun J151 => jn (fun (_ : Unit) => J151 (0 : Int32)) (fun J150 => (if v12 = v13 then rd M m_size 192 x1 (fun v38 => rd M m_size 192 x2 (fun v39 => (if v38 = v39 then rd M m_versions 192 x1 (fun v41 => rd M m_versions 192 x2 (fun v42 => (if v41 = v42 then o1 (f_X11_isSame M m_vector x1 m_vector x2) (fun v45 => (if v45 = 0 then J150 () else J151 (1 : Int32))) else J150 ()))) else J150 ()))) else J150 ()))))) else o1 (f_X11_isLike M a1 a2 a3) (fun v48 => gz v48 (some v48)))))))))))
set_option maxHeartbeats 4000000 in
set_option maxRecDepth 100000 in
theorem t_X11_isAlike (l : Launch) (D : va_G) (dA : Nat → ClassId) (A : gI → Nat) (hJ : gJ mLive A) {M : gM} {a1 : Int32} {a2 : Int32} {a3 : Int32}  {y : Int32} (h : f_X11_isAlike M a1 a2 a3 = some y) : mMi l yX11_isAlike wmX11_isAlike ({ frames := 2, cells := 0, slots := 0, locals := 54 } : Room) D dA A [.ref (A m_o), .int a1, .int a2, .int a3] M y M := by
  refine Met.ofW (cc := cX11_isAlike) (maxL := 10) (ret := (some .boolean)) (by decide) rfl ?_
  intro p e s m args below meth c s₁ B hml hv
  obtain ⟨rfl, hP, hK⟩ := hv
  generalize hargs : ([.ref (A m_o), .int a1, .int a2, .int a3] : List Value).toArray = args at B ⊢
  have S : CallFix p m c cX11_isAlike 10 s args wmX11_isAlike RX11 := ⟨B.exec, B.bytes, hml, findClass_of_methodNamed B.named, atoms_spec (ws := wmX11_isAlike) B.pre⟩
  obtain ⟨hx, hb, -, hown, hts⟩ := id S
  have hr := B.returns
  have hlocks := B.notSynchronized
  have X : gX D vwCl dA mLive A (gA mLive A) s := ⟨hK, hJ, fun i hi => ⟨i, hi, rfl⟩⟩
  have Z : gZ D mLay dA mLive A (gA mLive A) s.heap M s.heap [] := ⟨hP, va_S.rf⟩
  have hin : ∀ w ∈ wsX110, w ∈ wmX11_isAlike := m_in
  have hl_29 := hts (.fieldLink RX11 29 "ReplicaFilesModel" "isDirectory" "[Z") (mBc 11 rfl)
  have hl_32 := hts (.fieldLink RX11 32 "ReplicaFilesModel" "has" "[Z") (mBc 12 rfl)
  have hl_35 := hts (.fieldLink RX11 35 "ReplicaFilesModel" "value" "[I") (mBc 13 rfl)
  have hl_38 := hts (.fieldLink RX11 38 "ReplicaFilesModel" "size" "[I") (mBc 14 rfl)
  have hl_41 := hts (.fieldLink RX11 41 "ReplicaFilesModel" "vector" "[I") (mBc 15 rfl)
  have hl_44 := hts (.fieldLink RX11 44 "ReplicaFilesModel" "versions" "[I") (mBc 16 rfl)
  have hl_47 := hts (.fieldLink RX11 47 "ReplicaFilesModel" "versionValue" "[I") (mBc 17 rfl)
  have hl_50 := hts (.fieldLink RX11 50 "ReplicaFilesModel" "versionSize" "[I") (mBc 18 rfl)
  have hl_53 := hts (.fieldLink RX11 53 "ReplicaFilesModel" "versionVector" "[I") (mBc 19 rfl)
  have hl := lv_entry ([.ref (A m_o), .int a1, .int a2, .int a3]) (n := 10) (Nat.le_of_ble_eq_true rfl)
  rw [← hargs, lg_entry_eq, hargs]
  generalize (lg_sl ([.ref (A m_o), .int a1, .int a2, .int a3]) ++ List.replicate (10 - (lg_sl ([.ref (A m_o), .int a1, .int a2, .int a3])).length) Slot.unset).toArray = ls at hl ⊢
  have hl : lv_has ls 10 [(0, .ref (A m_o)), (1, .int a1), (2, .int a2), (3, .int a3)] := hl
  unfold f_X11_isAlike at h
  refine lv_bipush (v := (48 : Int32)) hx hb dX11_isAlike_0 (by decide) ?_
  refine lv_iload_n hx hb dX11_isAlike_2 rfl (lv_at hl 1 rfl) ?_
  refine lv_imul hx hb dX11_isAlike_3 ?_
  refine lv_iload_n hx hb dX11_isAlike_4 rfl (lv_at hl 3 rfl) ?_
  refine lv_iadd hx hb dX11_isAlike_5 ?_
  refine g_topi h (fun x1 h => ?_)
  refine lv_istore (lv' := [(4, .int x1), (0, .ref (A m_o)), (1, .int a1), (2, .int a2), (3, .int a3)]) hx hb dX11_isAlike_6 hl (by decide) rfl (fun ls hl => ?_)
  refine lv_bipush (v := (48 : Int32)) hx hb dX11_isAlike_8 (by decide) ?_
  refine lv_iload_n hx hb dX11_isAlike_10 rfl (lv_at hl 3 rfl) ?_
  refine lv_imul hx hb dX11_isAlike_11 ?_
  refine lv_iload_n hx hb dX11_isAlike_12 rfl (lv_at hl 4 rfl) ?_
  refine lv_iadd hx hb dX11_isAlike_13 ?_
  refine g_topi h (fun x2 h => ?_)
  refine lv_istore (lv' := [(5, .int x2), (4, .int x1), (0, .ref (A m_o)), (1, .int a1), (2, .int a2), (3, .int a3)]) hx hb dX11_isAlike_14 hl (by decide) rfl (fun ls hl => ?_)
  refine lv_aload_n hx hb dX11_isAlike_16 rfl (lv_at hl 2 rfl) ?_
  refine mr_has S X Z hin hl_32 dX11_isAlike_17 ?_
  refine lv_iload hx hb dX11_isAlike_20 (lv_at hl 1 rfl) ?_
  refine g_zald S X Z ml_has rfl dX11_isAlike_22 h (fun v3 h => ?_)
  obtain ⟨J36, eJ36, h⟩ := jn_e h
  have hJ36 : ∀  (H : Heap) (locs : List Loc) (ls : Array Slot), gZ D mLay dA mLive A (gA mLive A) s.heap M H locs → lv_has ls 10 [(0, .ref (A m_o)), (4, .int x1), (5, .int x2)] → J36 () = some y → W p l e (headSpec wmX11_isAlike ({ frames := 2, cells := 0, slots := 0, locals := 54 } : Room)).room s m args below meth c H locs 0 0 (MQ below (mQi D dA A (y, M)) args s 0 0 (gA mLive A)) (F0 m 36 ls []) := by
    intro  H locs ls Z hl h
    rw [eJ36] at h
    try dsimp only at h
    refine lv_aload_n hx hb dX11_isAlike_36 rfl (lv_at hl 0 rfl) ?_
    refine mr_has S X Z hin hl_32 dX11_isAlike_37 ?_
    refine lv_iload hx hb dX11_isAlike_40 (lv_at hl 1 rfl) ?_
    refine g_zald S X Z ml_has rfl dX11_isAlike_42 h (fun v4 h => ?_)
    refine lv_aload_n hx hb dX11_isAlike_43 rfl (lv_at hl 0 rfl) ?_
    refine mr_has S X Z hin hl_32 dX11_isAlike_44 ?_
    refine lv_iload hx hb dX11_isAlike_47 (lv_at hl 2 rfl) ?_
    refine g_zald S X Z ml_has rfl dX11_isAlike_49 h (fun v5 h => ?_)
    refine lv_icmp_ne (tgt := 57) hx hb dX11_isAlike_50 (by decide) (fun c6 => ?_) (fun c6 => ?_)
    · have h := if_f c6 h
      refine lv_iconst (v := (0 : Int32)) hx hb dX11_isAlike_57 (by decide) ?_
      have hy := Option.some.inj h
      subst hy
      exact g_rz (Or.inl rfl) S Z hr hlocks dX11_isAlike_58
    · have h := if_t c6 h
      refine lv_iconst (v := (1 : Int32)) hx hb dX11_isAlike_53 (by decide) ?_
      refine lv_goto (tgt := 58) hx hb dX11_isAlike_54 (by decide) ?_
      have hy := Option.some.inj h
      subst hy
      exact g_rz (Or.inr rfl) S Z hr hlocks dX11_isAlike_58
  refine lv_if_eq (tgt := 36) hx hb dX11_isAlike_23 (by decide) (fun c7 => ?_) (fun c7 => ?_)
  · have h := if_t c7 h
    exact hJ36  _ _ _ Z (lv_sub hl [2, 1, 0] rfl) h
  · have h := if_f c7 h
    refine lv_aload_n hx hb dX11_isAlike_26 rfl (lv_at hl 2 rfl) ?_
    refine mr_has S X Z hin hl_32 dX11_isAlike_27 ?_
    refine lv_iload hx hb dX11_isAlike_30 (lv_at hl 0 rfl) ?_
    refine g_zald S X Z ml_has rfl dX11_isAlike_32 h (fun v8 h => ?_)
    refine lv_if_ne (tgt := 59) hx hb dX11_isAlike_33 (by decide) (fun c9 => ?_) (fun c9 => ?_)
    · have h := if_f c9 h
      refine lv_aload_n hx hb dX11_isAlike_59 rfl (lv_at hl 2 rfl) ?_
      refine mr_isDirectory S X Z hin hl_29 dX11_isAlike_60 ?_
      refine lv_iload_n hx hb dX11_isAlike_63 rfl (lv_at hl 5 rfl) ?_
      refine g_zald S X Z ml_isDirectory rfl dX11_isAlike_64 h (fun v10 h => ?_)
      refine lv_if_eq (tgt := 76) hx hb dX11_isAlike_65 (by decide) (fun c11 => ?_) (fun c11 => ?_)
      · have h := if_t c11 h
        refine lv_aload_n hx hb dX11_isAlike_76 rfl (lv_at hl 2 rfl) ?_
        refine mr_value S X Z hin hl_35 dX11_isAlike_77 ?_
        refine lv_iload hx hb dX11_isAlike_80 (lv_at hl 1 rfl) ?_
        refine g_iald S X Z ml_value rfl dX11_isAlike_82 h (fun v12 h => ?_)
        refine lv_aload_n hx hb dX11_isAlike_83 rfl (lv_at hl 2 rfl) ?_
        refine mr_value S X Z hin hl_35 dX11_isAlike_84 ?_
        refine lv_iload hx hb dX11_isAlike_87 (lv_at hl 0 rfl) ?_
        refine g_iald S X Z ml_value rfl dX11_isAlike_89 h (fun v13 h => ?_)
        obtain ⟨J151, eJ151, h⟩ := jn_e h
        have hJ151 : ∀ (b14 : Int32) (H : Heap) (locs : List Loc) (ls : Array Slot), gZ D mLay dA mLive A (gA mLive A) s.heap M H locs → lv_has ls 10 [(0, .ref (A m_o)), (4, .int x1), (5, .int x2)] → J151 b14 = some y → W p l e (headSpec wmX11_isAlike ({ frames := 2, cells := 0, slots := 0, locals := 54 } : Room)).room s m args below meth c H locs 0 0 (MQ below (mQi D dA A (y, M)) args s 0 0 (gA mLive A)) (F0 m 151 ls [.int b14]) := by
          intro b14 H locs ls Z hl h
          rw [eJ151] at h
          try dsimp only at h
          refine lv_istore (lv' := [(6, .int b14), (0, .ref (A m_o)), (4, .int x1), (5, .int x2)]) hx hb dX11_isAlike_151 hl (by decide) rfl (fun ls hl => ?_)
          refine lv_iconst (v := (0 : Int32)) hx hb dX11_isAlike_153 (by decide) ?_
          refine lv_istore (lv' := [(7, .int (0 : Int32)), (6, .int b14), (0, .ref (A m_o)), (4, .int x1), (5, .int x2)]) hx hb dX11_isAlike_154 hl (by decide) rfl (fun ls hl => ?_)
          have hL156 : ∀ (n : Nat) (x15 : Int32) (x16 : Int32) (H : Heap) (locs : List Loc) (ls : Array Slot), gZ D mLay dA mLive A (gA mLive A) s.heap M H locs → lv_has ls 10 [(0, .ref (A m_o)), (4, .int x1), (5, .int x2), (6, .int x15), (7, .int x16)] → f_X11_isAlike_L156 M x1 x2 J36 n x15 x16 = some y → W p l e (headSpec wmX11_isAlike ({ frames := 2, cells := 0, slots := 0, locals := 54 } : Room)).room s m args below meth c H locs 0 0 (MQ below (mQi D dA A (y, M)) args s 0 0 (gA mLive A)) (F0 m 156 ls []) := by
            intro n
            induction n with
            | zero =>
              intro x15 x16 H locs ls Z hl h
              rw [f_X11_isAlike_L156] at h
              cases h
            | succ n18 ih156 =>
              intro x15 x16 H locs ls Z hl h
              rw [f_X11_isAlike_L156] at h
              refine lv_iload hx hb dX11_isAlike_156 (lv_at hl 4 rfl) ?_
              refine lv_aload_n hx hb dX11_isAlike_158 rfl (lv_at hl 0 rfl) ?_
              refine mr_versions S X Z hin hl_44 dX11_isAlike_159 ?_
              refine lv_iload hx hb dX11_isAlike_162 (lv_at hl 1 rfl) ?_
              refine g_iald S X Z ml_versions rfl dX11_isAlike_164 h (fun v19 h => ?_)
              refine lv_icmp_ge (tgt := 259) hx hb dX11_isAlike_165 (by decide) (fun c20 => ?_) (fun c20 => ?_)
              · have h := if_t c20 h
                refine lv_iload hx hb dX11_isAlike_259 (lv_at hl 3 rfl) ?_
                obtain ⟨z21, h⟩ := gz_e h
                have hy := Option.some.inj h
                subst hy
                exact g_rz (z21) S Z hr hlocks dX11_isAlike_261
              · have h := if_f c20 h
                refine lv_iload hx hb dX11_isAlike_168 (lv_at hl 3 rfl) ?_
                refine lv_if_eq (tgt := 259) hx hb dX11_isAlike_170 (by decide) (fun c22 => ?_) (fun c22 => ?_)
                · have h := if_t c22 h
                  refine lv_iload hx hb dX11_isAlike_259 (lv_at hl 3 rfl) ?_
                  obtain ⟨z23, h⟩ := gz_e h
                  have hy := Option.some.inj h
                  subst hy
                  exact g_rz (z23) S Z hr hlocks dX11_isAlike_261
                · have h := if_f c22 h
                  refine lv_bipush (v := (6 : Int32)) hx hb dX11_isAlike_173 (by decide) ?_
                  refine lv_iload hx hb dX11_isAlike_175 (lv_at hl 1 rfl) ?_
                  refine lv_imul hx hb dX11_isAlike_177 ?_
                  refine lv_iload hx hb dX11_isAlike_178 (lv_at hl 4 rfl) ?_
                  refine lv_iadd hx hb dX11_isAlike_180 ?_
                  refine g_topi h (fun x24 h => ?_)
                  refine lv_istore (lv' := [(8, .int x24), (0, .ref (A m_o)), (4, .int x1), (5, .int x2), (6, .int x15), (7, .int x16)]) hx hb dX11_isAlike_181 hl (by decide) rfl (fun ls hl => ?_)
                  refine lv_bipush (v := (6 : Int32)) hx hb dX11_isAlike_183 (by decide) ?_
                  refine lv_iload hx hb dX11_isAlike_185 (lv_at hl 3 rfl) ?_
                  refine lv_imul hx hb dX11_isAlike_187 ?_
                  refine lv_iload hx hb dX11_isAlike_188 (lv_at hl 5 rfl) ?_
                  refine lv_iadd hx hb dX11_isAlike_190 ?_
                  refine g_topi h (fun x25 h => ?_)
                  refine lv_istore (lv' := [(9, .int x25), (8, .int x24), (0, .ref (A m_o)), (4, .int x1), (5, .int x2), (6, .int x15), (7, .int x16)]) hx hb dX11_isAlike_191 hl (by decide) rfl (fun ls hl => ?_)
                  refine lv_aload_n hx hb dX11_isAlike_193 rfl (lv_at hl 2 rfl) ?_
                  refine mr_versionValue S X Z hin hl_47 dX11_isAlike_194 ?_
                  refine lv_iload hx hb dX11_isAlike_197 (lv_at hl 1 rfl) ?_
                  refine g_iald S X Z ml_versionValue rfl dX11_isAlike_199 h (fun v26 h => ?_)
                  refine lv_aload_n hx hb dX11_isAlike_200 rfl (lv_at hl 2 rfl) ?_
                  refine mr_versionValue S X Z hin hl_47 dX11_isAlike_201 ?_
                  refine lv_iload hx hb dX11_isAlike_204 (lv_at hl 0 rfl) ?_
                  refine g_iald S X Z ml_versionValue rfl dX11_isAlike_206 h (fun v27 h => ?_)
                  obtain ⟨J251, eJ251, h⟩ := jn_e h
                  have hJ251 : ∀ (b28 : Int32) (H : Heap) (locs : List Loc) (ls : Array Slot), gZ D mLay dA mLive A (gA mLive A) s.heap M H locs → lv_has ls 10 [(0, .ref (A m_o)), (4, .int x1), (5, .int x2), (7, .int x16)] → J251 b28 = some y → W p l e (headSpec wmX11_isAlike ({ frames := 2, cells := 0, slots := 0, locals := 54 } : Room)).room s m args below meth c H locs 0 0 (MQ below (mQi D dA A (y, M)) args s 0 0 (gA mLive A)) (F0 m 251 ls [.int b28]) := by
                    intro b28 H locs ls Z hl h
                    rw [eJ251] at h
                    try dsimp only at h
                    refine lv_istore (lv' := [(6, .int b28), (0, .ref (A m_o)), (4, .int x1), (5, .int x2), (7, .int x16)]) hx hb dX11_isAlike_251 hl (by decide) rfl (fun ls hl => ?_)
                    obtain ⟨x29, ex29, h⟩ := lt_e h
                    refine lv_iinc (v := x29) (lv' := [(7, .int x29), (6, .int b28), (0, .ref (A m_o)), (4, .int x1), (5, .int x2)]) hx hb dX11_isAlike_253 hl (k := 4) rfl (by rw [ex29]; rfl) (by decide) rfl (fun ls hl => ?_)
                    refine lv_goto (tgt := 156) hx hb dX11_isAlike_256 (by decide) ?_
                    exact ih156 b28 x29 _ _ _ Z (lv_sub hl [2, 3, 4, 1, 0] rfl) h
                  obtain ⟨J250, eJ250, h⟩ := jn_e h
                  have hJ250 : ∀  (H : Heap) (locs : List Loc) (ls : Array Slot), gZ D mLay dA mLive A (gA mLive A) s.heap M H locs → lv_has ls 10 [(0, .ref (A m_o)), (4, .int x1), (5, .int x2), (7, .int x16)] → J250 () = some y → W p l e (headSpec wmX11_isAlike ({ frames := 2, cells := 0, slots := 0, locals := 54 } : Room)).room s m args below meth c H locs 0 0 (MQ below (mQi D dA A (y, M)) args s 0 0 (gA mLive A)) (F0 m 250 ls []) := by
                    intro  H locs ls Z hl h
                    rw [eJ250] at h
                    try dsimp only at h
                    refine lv_iconst (v := (0 : Int32)) hx hb dX11_isAlike_250 (by decide) ?_
                    exact hJ251 (0 : Int32) _ _ _ Z (lv_sub hl [0, 1, 2, 3] rfl) h
                  refine lv_icmp_ne (tgt := 250) hx hb dX11_isAlike_207 (by decide) (fun c30 => ?_) (fun c30 => ?_)
                  · have h := if_f c30 h
                    exact hJ250  _ _ _ Z (lv_sub hl [2, 3, 4, 6] rfl) h
                  · have h := if_t c30 h
                    refine lv_aload_n hx hb dX11_isAlike_210 rfl (lv_at hl 2 rfl) ?_
                    refine mr_versionSize S X Z hin hl_50 dX11_isAlike_211 ?_
                    refine lv_iload hx hb dX11_isAlike_214 (lv_at hl 1 rfl) ?_
                    refine g_iald S X Z ml_versionSize rfl dX11_isAlike_216 h (fun v31 h => ?_)
                    refine lv_aload_n hx hb dX11_isAlike_217 rfl (lv_at hl 2 rfl) ?_
                    refine mr_versionSize S X Z hin hl_50 dX11_isAlike_218 ?_
                    refine lv_iload hx hb dX11_isAlike_221 (lv_at hl 0 rfl) ?_
                    refine g_iald S X Z ml_versionSize rfl dX11_isAlike_223 h (fun v32 h => ?_)
                    refine lv_icmp_ne (tgt := 250) hx hb dX11_isAlike_224 (by decide) (fun c33 => ?_) (fun c33 => ?_)
                    · have h := if_f c33 h
                      exact hJ250  _ _ _ Z (lv_sub hl [2, 3, 4, 6] rfl) h
                    · have h := if_t c33 h
                      refine lv_aload_n hx hb dX11_isAlike_227 rfl (lv_at hl 2 rfl) ?_
                      refine lv_aload_n hx hb dX11_isAlike_228 rfl (lv_at hl 2 rfl) ?_
                      refine mr_versionVector S X Z hin hl_53 dX11_isAlike_229 ?_
                      refine lv_iload hx hb dX11_isAlike_232 (lv_at hl 1 rfl) ?_
                      refine lv_aload_n hx hb dX11_isAlike_234 rfl (lv_at hl 2 rfl) ?_
                      refine mr_versionVector S X Z hin hl_53 dX11_isAlike_235 ?_
                      refine lv_iload hx hb dX11_isAlike_238 (lv_at hl 0 rfl) ?_
                      obtain ⟨v35, hc34, h⟩ := o1_e h
                      refine g_Vi (As := [.ref (A m_versionVector), .int x24, .ref (A m_versionVector), .int x25]) (rest := []) S X Z mlv_o rfl rfl (t_X11_isSame l D dA A hJ ⟨ml_versionVector, rfl⟩ ⟨ml_versionVector, rfl⟩ hc34) (cwV 4 hts (mGV (mB 150 rfl) (mB 151 rfl) (mB 152 rfl) (mB 63 rfl) (mB 96 rfl)) rfl rfl rfl (by decide +kernel) ⟨Nat.le_of_ble_eq_true rfl, Nat.le_of_ble_eq_true rfl⟩) rfl hl.1 rfl (Nat.le_of_ble_eq_true rfl) dX11_isAlike_240 ⟨Nat.zero_le _, Nat.zero_le _⟩ (fun H locs Z => ?_)
                      refine lv_if_eq (tgt := 250) hx hb dX11_isAlike_243 (by decide) (fun c36 => ?_) (fun c36 => ?_)
                      · have h := if_t c36 h
                        exact hJ250  _ _ _ Z (lv_sub hl [2, 3, 4, 6] rfl) h
                      · have h := if_f c36 h
                        refine lv_iconst (v := (1 : Int32)) hx hb dX11_isAlike_246 (by decide) ?_
                        refine lv_goto (tgt := 251) hx hb dX11_isAlike_247 (by decide) ?_
                        exact hJ251 (1 : Int32) _ _ _ Z (lv_sub hl [2, 3, 4, 6] rfl) h
          exact hL156 100 b14 (0 : Int32) _ _ _ Z (lv_sub hl [2, 3, 4, 1, 0] rfl) h
        obtain ⟨J150, eJ150, h⟩ := jn_e h
        have hJ150 : ∀  (H : Heap) (locs : List Loc) (ls : Array Slot), gZ D mLay dA mLive A (gA mLive A) s.heap M H locs → lv_has ls 10 [(0, .ref (A m_o)), (4, .int x1), (5, .int x2)] → J150 () = some y → W p l e (headSpec wmX11_isAlike ({ frames := 2, cells := 0, slots := 0, locals := 54 } : Room)).room s m args below meth c H locs 0 0 (MQ below (mQi D dA A (y, M)) args s 0 0 (gA mLive A)) (F0 m 150 ls []) := by
          intro  H locs ls Z hl h
          rw [eJ150] at h
          try dsimp only at h
          refine lv_iconst (v := (0 : Int32)) hx hb dX11_isAlike_150 (by decide) ?_
          exact hJ151 (0 : Int32) _ _ _ Z (lv_sub hl [0, 1, 2] rfl) h
        refine lv_icmp_ne (tgt := 150) hx hb dX11_isAlike_90 (by decide) (fun c37 => ?_) (fun c37 => ?_)
        · have h := if_f c37 h
          exact hJ150  _ _ _ Z (lv_sub hl [2, 1, 0] rfl) h
        · have h := if_t c37 h
          refine lv_aload_n hx hb dX11_isAlike_93 rfl (lv_at hl 2 rfl) ?_
          refine mr_size S X Z hin hl_38 dX11_isAlike_94 ?_
          refine lv_iload hx hb dX11_isAlike_97 (lv_at hl 1 rfl) ?_
          refine g_iald S X Z ml_size rfl dX11_isAlike_99 h (fun v38 h => ?_)
          refine lv_aload_n hx hb dX11_isAlike_100 rfl (lv_at hl 2 rfl) ?_
          refine mr_size S X Z hin hl_38 dX11_isAlike_101 ?_
          refine lv_iload hx hb dX11_isAlike_104 (lv_at hl 0 rfl) ?_
          refine g_iald S X Z ml_size rfl dX11_isAlike_106 h (fun v39 h => ?_)
          refine lv_icmp_ne (tgt := 150) hx hb dX11_isAlike_107 (by decide) (fun c40 => ?_) (fun c40 => ?_)
          · have h := if_f c40 h
            exact hJ150  _ _ _ Z (lv_sub hl [2, 1, 0] rfl) h
          · have h := if_t c40 h
            refine lv_aload_n hx hb dX11_isAlike_110 rfl (lv_at hl 2 rfl) ?_
            refine mr_versions S X Z hin hl_44 dX11_isAlike_111 ?_
            refine lv_iload hx hb dX11_isAlike_114 (lv_at hl 1 rfl) ?_
            refine g_iald S X Z ml_versions rfl dX11_isAlike_116 h (fun v41 h => ?_)
            refine lv_aload_n hx hb dX11_isAlike_117 rfl (lv_at hl 2 rfl) ?_
            refine mr_versions S X Z hin hl_44 dX11_isAlike_118 ?_
            refine lv_iload hx hb dX11_isAlike_121 (lv_at hl 0 rfl) ?_
            refine g_iald S X Z ml_versions rfl dX11_isAlike_123 h (fun v42 h => ?_)
            refine lv_icmp_ne (tgt := 150) hx hb dX11_isAlike_124 (by decide) (fun c43 => ?_) (fun c43 => ?_)
            · have h := if_f c43 h
              exact hJ150  _ _ _ Z (lv_sub hl [2, 1, 0] rfl) h
            · have h := if_t c43 h
              refine lv_aload_n hx hb dX11_isAlike_127 rfl (lv_at hl 2 rfl) ?_
              refine lv_aload_n hx hb dX11_isAlike_128 rfl (lv_at hl 2 rfl) ?_
              refine mr_vector S X Z hin hl_41 dX11_isAlike_129 ?_
              refine lv_iload hx hb dX11_isAlike_132 (lv_at hl 1 rfl) ?_
              refine lv_aload_n hx hb dX11_isAlike_134 rfl (lv_at hl 2 rfl) ?_
              refine mr_vector S X Z hin hl_41 dX11_isAlike_135 ?_
              refine lv_iload hx hb dX11_isAlike_138 (lv_at hl 0 rfl) ?_
              obtain ⟨v45, hc44, h⟩ := o1_e h
              refine g_Vi (As := [.ref (A m_vector), .int x1, .ref (A m_vector), .int x2]) (rest := []) S X Z mlv_o rfl rfl (t_X11_isSame l D dA A hJ ⟨ml_vector, rfl⟩ ⟨ml_vector, rfl⟩ hc44) (cwV 4 hts (mGV (mB 150 rfl) (mB 151 rfl) (mB 152 rfl) (mB 63 rfl) (mB 96 rfl)) rfl rfl rfl (by decide +kernel) ⟨Nat.le_of_ble_eq_true rfl, Nat.le_of_ble_eq_true rfl⟩) rfl hl.1 rfl (Nat.le_of_ble_eq_true rfl) dX11_isAlike_140 ⟨Nat.zero_le _, Nat.zero_le _⟩ (fun H locs Z => ?_)
              refine lv_if_eq (tgt := 150) hx hb dX11_isAlike_143 (by decide) (fun c46 => ?_) (fun c46 => ?_)
              · have h := if_t c46 h
                exact hJ150  _ _ _ Z (lv_sub hl [2, 1, 0] rfl) h
              · have h := if_f c46 h
                refine lv_iconst (v := (1 : Int32)) hx hb dX11_isAlike_146 (by decide) ?_
                refine lv_goto (tgt := 151) hx hb dX11_isAlike_147 (by decide) ?_
                exact hJ151 (1 : Int32) _ _ _ Z (lv_sub hl [2, 1, 0] rfl) h
      · have h := if_f c11 h
        refine lv_aload_n hx hb dX11_isAlike_68 rfl (lv_at hl 2 rfl) ?_
        refine lv_iload_n hx hb dX11_isAlike_69 rfl (lv_at hl 3 rfl) ?_
        refine lv_iload_n hx hb dX11_isAlike_70 rfl (lv_at hl 4 rfl) ?_
        refine lv_iload_n hx hb dX11_isAlike_71 rfl (lv_at hl 5 rfl) ?_
        obtain ⟨v48, hc47, h⟩ := o1_e h
        refine g_Vi (As := [.int a1, .int a2, .int a3]) (rest := []) S X Z mlv_o rfl rfl (t_X11_isLike l D dA A hJ  hc47) (cwV 3 hts (mGV (mB 311 rfl) (mB 312 rfl) (mB 313 rfl) (mB 63 rfl) (mB 309 rfl)) rfl rfl rfl (by decide +kernel) ⟨Nat.le_of_ble_eq_true rfl, Nat.le_of_ble_eq_true rfl⟩) rfl hl.1 rfl (Nat.le_of_ble_eq_true rfl) dX11_isAlike_72 ⟨Nat.zero_le _, Nat.zero_le _⟩ (fun H locs Z => ?_)
        obtain ⟨z49, h⟩ := gz_e h
        have hy := Option.some.inj h
        subst hy
        exact g_rz (z49) S Z hr hlocks dX11_isAlike_75
    · have h := if_t c9 h
      exact hJ36  _ _ _ Z (lv_sub hl [2, 1, 0] rfl) h
-- X11_areAlike ()Z: 53 instructions
theorem dX11_areAlike_0 : decode cX11_areAlike 0 = .ok (.iconst (-1), 1) := by decide +kernel
theorem dX11_areAlike_1 : decode cX11_areAlike 1 = .ok (.istore_n 1, 1) := by decide +kernel
theorem dX11_areAlike_2 : decode cX11_areAlike 2 = .ok (.aload_n 0, 1) := by decide +kernel
theorem dX11_areAlike_3 : decode cX11_areAlike 3 = .ok (.getfield 155, 3) := by decide +kernel
theorem dX11_areAlike_6 : decode cX11_areAlike 6 = .ok (.iconst 1, 1) := by decide +kernel
theorem dX11_areAlike_7 : decode cX11_areAlike 7 = .ok (.isub, 1) := by decide +kernel
theorem dX11_areAlike_8 : decode cX11_areAlike 8 = .ok (.istore_n 2, 1) := by decide +kernel
theorem dX11_areAlike_9 : decode cX11_areAlike 9 = .ok (.iload_n 2, 1) := by decide +kernel
theorem dX11_areAlike_10 : decode cX11_areAlike 10 = .ok (.ifCond .lt 24, 3) := by decide +kernel
theorem dX11_areAlike_13 : decode cX11_areAlike 13 = .ok (.aload_n 0, 1) := by decide +kernel
theorem dX11_areAlike_14 : decode cX11_areAlike 14 = .ok (.getfield 7, 3) := by decide +kernel
theorem dX11_areAlike_17 : decode cX11_areAlike 17 = .ok (.iload_n 2, 1) := by decide +kernel
theorem dX11_areAlike_18 : decode cX11_areAlike 18 = .ok (.baload, 1) := by decide +kernel
theorem dX11_areAlike_19 : decode cX11_areAlike 19 = .ok (.ifCond .eq 7, 3) := by decide +kernel
theorem dX11_areAlike_22 : decode cX11_areAlike 22 = .ok (.iload_n 2, 1) := by decide +kernel
theorem dX11_areAlike_23 : decode cX11_areAlike 23 = .ok (.goto 4, 3) := by decide +kernel
theorem dX11_areAlike_26 : decode cX11_areAlike 26 = .ok (.iload_n 1, 1) := by decide +kernel
theorem dX11_areAlike_27 : decode cX11_areAlike 27 = .ok (.istore_n 1, 1) := by decide +kernel
theorem dX11_areAlike_28 : decode cX11_areAlike 28 = .ok (.iinc 2 (-1), 3) := by decide +kernel
theorem dX11_areAlike_31 : decode cX11_areAlike 31 = .ok (.goto (-22), 3) := by decide +kernel
theorem dX11_areAlike_34 : decode cX11_areAlike 34 = .ok (.iconst 1, 1) := by decide +kernel
theorem dX11_areAlike_35 : decode cX11_areAlike 35 = .ok (.istore_n 2, 1) := by decide +kernel
theorem dX11_areAlike_36 : decode cX11_areAlike 36 = .ok (.iconst 0, 1) := by decide +kernel
theorem dX11_areAlike_37 : decode cX11_areAlike 37 = .ok (.istore_n 3, 1) := by decide +kernel
theorem dX11_areAlike_38 : decode cX11_areAlike 38 = .ok (.iload_n 3, 1) := by decide +kernel
theorem dX11_areAlike_39 : decode cX11_areAlike 39 = .ok (.aload_n 0, 1) := by decide +kernel
theorem dX11_areAlike_40 : decode cX11_areAlike 40 = .ok (.getfield 155, 3) := by decide +kernel
theorem dX11_areAlike_43 : decode cX11_areAlike 43 = .ok (.if_icmp .ge 49, 3) := by decide +kernel
theorem dX11_areAlike_46 : decode cX11_areAlike 46 = .ok (.iconst 0, 1) := by decide +kernel
theorem dX11_areAlike_47 : decode cX11_areAlike 47 = .ok (.istore 4, 2) := by decide +kernel
theorem dX11_areAlike_49 : decode cX11_areAlike 49 = .ok (.iload 4, 2) := by decide +kernel
theorem dX11_areAlike_51 : decode cX11_areAlike 51 = .ok (.aload_n 0, 1) := by decide +kernel
theorem dX11_areAlike_52 : decode cX11_areAlike 52 = .ok (.getfield 162, 3) := by decide +kernel
theorem dX11_areAlike_55 : decode cX11_areAlike 55 = .ok (.if_icmp .ge 31, 3) := by decide +kernel
theorem dX11_areAlike_58 : decode cX11_areAlike 58 = .ok (.aload_n 0, 1) := by decide +kernel
theorem dX11_areAlike_59 : decode cX11_areAlike 59 = .ok (.getfield 7, 3) := by decide +kernel
theorem dX11_areAlike_62 : decode cX11_areAlike 62 = .ok (.iload_n 3, 1) := by decide +kernel
theorem dX11_areAlike_63 : decode cX11_areAlike 63 = .ok (.baload, 1) := by decide +kernel
theorem dX11_areAlike_64 : decode cX11_areAlike 64 = .ok (.ifCond .eq 22, 3) := by decide +kernel
theorem dX11_areAlike_67 : decode cX11_areAlike 67 = .ok (.iload_n 2, 1) := by decide +kernel
theorem dX11_areAlike_68 : decode cX11_areAlike 68 = .ok (.ifCond .eq 18, 3) := by decide +kernel
theorem dX11_areAlike_71 : decode cX11_areAlike 71 = .ok (.aload_n 0, 1) := by decide +kernel
theorem dX11_areAlike_72 : decode cX11_areAlike 72 = .ok (.iload_n 1, 1) := by decide +kernel
theorem dX11_areAlike_73 : decode cX11_areAlike 73 = .ok (.iload_n 3, 1) := by decide +kernel
theorem dX11_areAlike_74 : decode cX11_areAlike 74 = .ok (.iload 4, 2) := by decide +kernel
theorem dX11_areAlike_76 : decode cX11_areAlike 76 = .ok (.invokevirtual 464, 3) := by decide +kernel
theorem dX11_areAlike_79 : decode cX11_areAlike 79 = .ok (.istore_n 2, 1) := by decide +kernel
theorem dX11_areAlike_80 : decode cX11_areAlike 80 = .ok (.iinc 4 1, 3) := by decide +kernel
theorem dX11_areAlike_83 : decode cX11_areAlike 83 = .ok (.goto (-34), 3) := by decide +kernel
theorem dX11_areAlike_86 : decode cX11_areAlike 86 = .ok (.iinc 3 1, 3) := by decide +kernel
theorem dX11_areAlike_89 : decode cX11_areAlike 89 = .ok (.goto (-51), 3) := by decide +kernel
theorem dX11_areAlike_92 : decode cX11_areAlike 92 = .ok (.iload_n 2, 1) := by decide +kernel
theorem dX11_areAlike_93 : decode cX11_areAlike 93 = .ok (.ireturn, 1) := by decide +kernel
abbrev wmX11_areAlike : List Cond := .code yX11_areAlike cX11_areAlike 5 (some .boolean) :: mBig
def f_X11_areAlike_L49 (M15 : gM) (b3 : Int32) (x5 : Int32) (J86 : Int32 → Option Int32) : Nat → Int32 → Int32 → Option Int32
  | 0, _, _ => none
  | n16 + 1, x13, x14 => lt (M15 m_o 6) (fun v17 => (if v17 ≤ x14 then J86 x13 else rd M15 m_up 4 x5 (fun v19 => (if v19 = 0 then J86 x13 else (if x13 = 0 then J86 x13 else o1 (f_X11_isAlike M15 b3 x5 x14) (fun v23 => lt (x14 + 1) (fun x24 => f_X11_areAlike_L49 M15 b3 x5 J86 n16 v23 x24)))))))
def f_X11_areAlike_L38 (M6 : gM) (b3 : Int32) : Nat → Int32 → Int32 → Option Int32
  | 0, _, _ => none
  | n7 + 1, x4, x5 => lt (M6 m_o 0) (fun v8 => (if v8 ≤ x5 then gz x4 (some x4) else jn (fun (b11 : Int32) => lt (x5 + 1) (fun x12 => f_X11_areAlike_L38 M6 b3 n7 b11 x12)) (fun J86 => f_X11_areAlike_L49 M6 b3 x5 J86 100 x4 (0 : Int32))))
def f_X11_areAlike_L9 (M27 : gM) (J34 : Int32 → Option Int32) : Nat → Int32 → Int32 → Option Int32
  | 0, _, _ => none
  | n28 + 1, x25, x26 => (if x26 < 0 then J34 x25 else rd M27 m_up 4 x26 (fun v30 => jn (fun (b31 : Int32) => lt (x26 + (-1)) (fun x32 => f_X11_areAlike_L9 M27 J34 n28 b31 x32)) (fun J27 => (if v30 = 0 then J27 x25 else J27 x26))))
def f_X11_areAlike (M : gM)  : Option Int32 :=
  lt (M m_o 0) (fun v1 => lt ((v1 - (1 : Int32))) (fun x2 => jn (fun (b3 : Int32) => f_X11_areAlike_L38 M b3 100 (1 : Int32) (0 : Int32)) (fun J34 => f_X11_areAlike_L9 M J34 100 (-1 : Int32) x2)))
set_option maxHeartbeats 4000000 in
set_option maxRecDepth 100000 in
theorem t_X11_areAlike (l : Launch) (D : va_G) (dA : Nat → ClassId) (A : gI → Nat) (hJ : gJ mLive A) {M : gM}   {y : Int32} (h : f_X11_areAlike M = some y) : mMi l yX11_areAlike wmX11_areAlike ({ frames := 3, cells := 0, slots := 0, locals := 83 } : Room) D dA A [.ref (A m_o)] M y M := by
  refine Met.ofW (cc := cX11_areAlike) (maxL := 5) (ret := (some .boolean)) (by decide) rfl ?_
  intro p e s m args below meth c s₁ B hml hv
  obtain ⟨rfl, hP, hK⟩ := hv
  generalize hargs : ([.ref (A m_o)] : List Value).toArray = args at B ⊢
  have S : CallFix p m c cX11_areAlike 5 s args wmX11_areAlike RX11 := ⟨B.exec, B.bytes, hml, findClass_of_methodNamed B.named, atoms_spec (ws := wmX11_areAlike) B.pre⟩
  obtain ⟨hx, hb, -, hown, hts⟩ := id S
  have hr := B.returns
  have hlocks := B.notSynchronized
  have X : gX D vwCl dA mLive A (gA mLive A) s := ⟨hK, hJ, fun i hi => ⟨i, hi, rfl⟩⟩
  have Z : gZ D mLay dA mLive A (gA mLive A) s.heap M s.heap [] := ⟨hP, va_S.rf⟩
  have hin : ∀ w ∈ wsX110, w ∈ wmX11_areAlike := m_in
  have hl_7 := hts (.fieldLink RX11 7 "ReplicaFilesModel" "up" "[Z") (mBc 4 rfl)
  have hl_155 := hts (.fieldLink RX11 155 "ReplicaFilesModel" "servers" "I") (mBc 53 rfl)
  have hl_162 := hts (.fieldLink RX11 162 "ReplicaFilesModel" "made" "I") (mBc 55 rfl)
  have hl := lv_entry ([.ref (A m_o)]) (n := 5) (Nat.le_of_ble_eq_true rfl)
  rw [← hargs, lg_entry_eq, hargs]
  generalize (lg_sl ([.ref (A m_o)]) ++ List.replicate (5 - (lg_sl ([.ref (A m_o)])).length) Slot.unset).toArray = ls at hl ⊢
  have hl : lv_has ls 5 [(0, .ref (A m_o))] := hl
  unfold f_X11_areAlike at h
  refine lv_iconst (v := (-1 : Int32)) hx hb dX11_areAlike_0 (by decide) ?_
  refine lv_istore_n (lv' := [(1, .int (-1 : Int32)), (0, .ref (A m_o))]) hx hb dX11_areAlike_1 rfl hl (by decide) rfl (fun ls hl => ?_)
  refine lv_aload_n hx hb dX11_areAlike_2 rfl (lv_at hl 1 rfl) ?_
  refine mr_servers S X Z hin hl_155 dX11_areAlike_3 h (fun v1 h => ?_)
  refine lv_iconst (v := (1 : Int32)) hx hb dX11_areAlike_6 (by decide) ?_
  refine lv_isub hx hb dX11_areAlike_7 ?_
  refine g_topi h (fun x2 h => ?_)
  refine lv_istore_n (lv' := [(2, .int x2), (1, .int (-1 : Int32)), (0, .ref (A m_o))]) hx hb dX11_areAlike_8 rfl hl (by decide) rfl (fun ls hl => ?_)
  obtain ⟨J34, eJ34, h⟩ := jn_e h
  have hJ34 : ∀ (b3 : Int32) (H : Heap) (locs : List Loc) (ls : Array Slot), gZ D mLay dA mLive A (gA mLive A) s.heap M H locs → lv_has ls 5 [(0, .ref (A m_o)), (1, .int b3)] → J34 b3 = some y → W p l e (headSpec wmX11_areAlike ({ frames := 3, cells := 0, slots := 0, locals := 83 } : Room)).room s m args below meth c H locs 0 0 (MQ below (mQi D dA A (y, M)) args s 0 0 (gA mLive A)) (F0 m 34 ls []) := by
    intro b3 H locs ls Z hl h
    rw [eJ34] at h
    try dsimp only at h
    refine lv_iconst (v := (1 : Int32)) hx hb dX11_areAlike_34 (by decide) ?_
    refine lv_istore_n (lv' := [(2, .int (1 : Int32)), (0, .ref (A m_o)), (1, .int b3)]) hx hb dX11_areAlike_35 rfl hl (by decide) rfl (fun ls hl => ?_)
    refine lv_iconst (v := (0 : Int32)) hx hb dX11_areAlike_36 (by decide) ?_
    refine lv_istore_n (lv' := [(3, .int (0 : Int32)), (2, .int (1 : Int32)), (0, .ref (A m_o)), (1, .int b3)]) hx hb dX11_areAlike_37 rfl hl (by decide) rfl (fun ls hl => ?_)
    have hL38 : ∀ (n : Nat) (x4 : Int32) (x5 : Int32) (H : Heap) (locs : List Loc) (ls : Array Slot), gZ D mLay dA mLive A (gA mLive A) s.heap M H locs → lv_has ls 5 [(0, .ref (A m_o)), (1, .int b3), (2, .int x4), (3, .int x5)] → f_X11_areAlike_L38 M b3 n x4 x5 = some y → W p l e (headSpec wmX11_areAlike ({ frames := 3, cells := 0, slots := 0, locals := 83 } : Room)).room s m args below meth c H locs 0 0 (MQ below (mQi D dA A (y, M)) args s 0 0 (gA mLive A)) (F0 m 38 ls []) := by
      intro n
      induction n with
      | zero =>
        intro x4 x5 H locs ls Z hl h
        rw [f_X11_areAlike_L38] at h
        cases h
      | succ n7 ih38 =>
        intro x4 x5 H locs ls Z hl h
        rw [f_X11_areAlike_L38] at h
        refine lv_iload_n hx hb dX11_areAlike_38 rfl (lv_at hl 3 rfl) ?_
        refine lv_aload_n hx hb dX11_areAlike_39 rfl (lv_at hl 0 rfl) ?_
        refine mr_servers S X Z hin hl_155 dX11_areAlike_40 h (fun v8 h => ?_)
        refine lv_icmp_ge (tgt := 92) hx hb dX11_areAlike_43 (by decide) (fun c9 => ?_) (fun c9 => ?_)
        · have h := if_t c9 h
          refine lv_iload_n hx hb dX11_areAlike_92 rfl (lv_at hl 2 rfl) ?_
          obtain ⟨z10, h⟩ := gz_e h
          have hy := Option.some.inj h
          subst hy
          exact g_rz (z10) S Z hr hlocks dX11_areAlike_93
        · have h := if_f c9 h
          refine lv_iconst (v := (0 : Int32)) hx hb dX11_areAlike_46 (by decide) ?_
          refine lv_istore (lv' := [(4, .int (0 : Int32)), (0, .ref (A m_o)), (1, .int b3), (2, .int x4), (3, .int x5)]) hx hb dX11_areAlike_47 hl (by decide) rfl (fun ls hl => ?_)
          obtain ⟨J86, eJ86, h⟩ := jn_e h
          have hJ86 : ∀ (b11 : Int32) (H : Heap) (locs : List Loc) (ls : Array Slot), gZ D mLay dA mLive A (gA mLive A) s.heap M H locs → lv_has ls 5 [(0, .ref (A m_o)), (1, .int b3), (2, .int b11), (3, .int x5)] → J86 b11 = some y → W p l e (headSpec wmX11_areAlike ({ frames := 3, cells := 0, slots := 0, locals := 83 } : Room)).room s m args below meth c H locs 0 0 (MQ below (mQi D dA A (y, M)) args s 0 0 (gA mLive A)) (F0 m 86 ls []) := by
            intro b11 H locs ls Z hl h
            rw [eJ86] at h
            try dsimp only at h
            obtain ⟨x12, ex12, h⟩ := lt_e h
            refine lv_iinc (v := x12) (lv' := [(3, .int x12), (0, .ref (A m_o)), (1, .int b3), (2, .int b11)]) hx hb dX11_areAlike_86 hl (k := 3) rfl (by rw [ex12]; rfl) (by decide) rfl (fun ls hl => ?_)
            refine lv_goto (tgt := 38) hx hb dX11_areAlike_89 (by decide) ?_
            exact ih38 b11 x12 _ _ _ Z (lv_sub hl [1, 2, 3, 0] rfl) h
          have hL49 : ∀ (n : Nat) (x13 : Int32) (x14 : Int32) (H : Heap) (locs : List Loc) (ls : Array Slot), gZ D mLay dA mLive A (gA mLive A) s.heap M H locs → lv_has ls 5 [(0, .ref (A m_o)), (1, .int b3), (2, .int x13), (3, .int x5), (4, .int x14)] → f_X11_areAlike_L49 M b3 x5 J86 n x13 x14 = some y → W p l e (headSpec wmX11_areAlike ({ frames := 3, cells := 0, slots := 0, locals := 83 } : Room)).room s m args below meth c H locs 0 0 (MQ below (mQi D dA A (y, M)) args s 0 0 (gA mLive A)) (F0 m 49 ls []) := by
            intro n
            induction n with
            | zero =>
              intro x13 x14 H locs ls Z hl h
              rw [f_X11_areAlike_L49] at h
              cases h
            | succ n16 ih49 =>
              intro x13 x14 H locs ls Z hl h
              rw [f_X11_areAlike_L49] at h
              refine lv_iload hx hb dX11_areAlike_49 (lv_at hl 4 rfl) ?_
              refine lv_aload_n hx hb dX11_areAlike_51 rfl (lv_at hl 0 rfl) ?_
              refine mr_made S X Z hin hl_162 dX11_areAlike_52 h (fun v17 h => ?_)
              refine lv_icmp_ge (tgt := 86) hx hb dX11_areAlike_55 (by decide) (fun c18 => ?_) (fun c18 => ?_)
              · have h := if_t c18 h
                exact hJ86 x13 _ _ _ Z (lv_sub hl [0, 1, 2, 3] rfl) h
              · have h := if_f c18 h
                refine lv_aload_n hx hb dX11_areAlike_58 rfl (lv_at hl 0 rfl) ?_
                refine mr_up S X Z hin hl_7 dX11_areAlike_59 ?_
                refine lv_iload_n hx hb dX11_areAlike_62 rfl (lv_at hl 3 rfl) ?_
                refine g_zald S X Z ml_up rfl dX11_areAlike_63 h (fun v19 h => ?_)
                refine lv_if_eq (tgt := 86) hx hb dX11_areAlike_64 (by decide) (fun c20 => ?_) (fun c20 => ?_)
                · have h := if_t c20 h
                  exact hJ86 x13 _ _ _ Z (lv_sub hl [0, 1, 2, 3] rfl) h
                · have h := if_f c20 h
                  refine lv_iload_n hx hb dX11_areAlike_67 rfl (lv_at hl 2 rfl) ?_
                  refine lv_if_eq (tgt := 86) hx hb dX11_areAlike_68 (by decide) (fun c21 => ?_) (fun c21 => ?_)
                  · have h := if_t c21 h
                    exact hJ86 x13 _ _ _ Z (lv_sub hl [0, 1, 2, 3] rfl) h
                  · have h := if_f c21 h
                    refine lv_aload_n hx hb dX11_areAlike_71 rfl (lv_at hl 0 rfl) ?_
                    refine lv_iload_n hx hb dX11_areAlike_72 rfl (lv_at hl 1 rfl) ?_
                    refine lv_iload_n hx hb dX11_areAlike_73 rfl (lv_at hl 3 rfl) ?_
                    refine lv_iload hx hb dX11_areAlike_74 (lv_at hl 4 rfl) ?_
                    obtain ⟨v23, hc22, h⟩ := o1_e h
                    refine g_Vi (As := [.int b3, .int x5, .int x14]) (rest := []) S X Z mlv_o rfl rfl (t_X11_isAlike l D dA A hJ  hc22) (cwV 3 hts (mGV (mB 379 rfl) (mB 380 rfl) (mB 381 rfl) (mB 63 rfl) (mB 378 rfl)) rfl rfl rfl (by decide +kernel) ⟨Nat.le_of_ble_eq_true rfl, Nat.le_of_ble_eq_true rfl⟩) rfl hl.1 rfl (Nat.le_of_ble_eq_true rfl) dX11_areAlike_76 ⟨Nat.zero_le _, Nat.zero_le _⟩ (fun H locs Z => ?_)
                    refine lv_istore_n (lv' := [(2, .int v23), (0, .ref (A m_o)), (1, .int b3), (3, .int x5), (4, .int x14)]) hx hb dX11_areAlike_79 rfl hl (by decide) rfl (fun ls hl => ?_)
                    obtain ⟨x24, ex24, h⟩ := lt_e h
                    refine lv_iinc (v := x24) (lv' := [(4, .int x24), (2, .int v23), (0, .ref (A m_o)), (1, .int b3), (3, .int x5)]) hx hb dX11_areAlike_80 hl (k := 4) rfl (by rw [ex24]; rfl) (by decide) rfl (fun ls hl => ?_)
                    refine lv_goto (tgt := 49) hx hb dX11_areAlike_83 (by decide) ?_
                    exact ih49 v23 x24 _ _ _ Z (lv_sub hl [2, 3, 1, 4, 0] rfl) h
          exact hL49 100 x4 (0 : Int32) _ _ _ Z (lv_sub hl [1, 2, 3, 4, 0] rfl) h
    exact hL38 100 (1 : Int32) (0 : Int32) _ _ _ Z (lv_sub hl [2, 3, 1, 0] rfl) h
  have hL9 : ∀ (n : Nat) (x25 : Int32) (x26 : Int32) (H : Heap) (locs : List Loc) (ls : Array Slot), gZ D mLay dA mLive A (gA mLive A) s.heap M H locs → lv_has ls 5 [(0, .ref (A m_o)), (1, .int x25), (2, .int x26)] → f_X11_areAlike_L9 M J34 n x25 x26 = some y → W p l e (headSpec wmX11_areAlike ({ frames := 3, cells := 0, slots := 0, locals := 83 } : Room)).room s m args below meth c H locs 0 0 (MQ below (mQi D dA A (y, M)) args s 0 0 (gA mLive A)) (F0 m 9 ls []) := by
    intro n
    induction n with
    | zero =>
      intro x25 x26 H locs ls Z hl h
      rw [f_X11_areAlike_L9] at h
      cases h
    | succ n28 ih9 =>
      intro x25 x26 H locs ls Z hl h
      rw [f_X11_areAlike_L9] at h
      refine lv_iload_n hx hb dX11_areAlike_9 rfl (lv_at hl 2 rfl) ?_
      refine lv_if_lt (tgt := 34) hx hb dX11_areAlike_10 (by decide) (fun c29 => ?_) (fun c29 => ?_)
      · have h := if_t c29 h
        exact hJ34 x25 _ _ _ Z (lv_sub hl [0, 1] rfl) h
      · have h := if_f c29 h
        refine lv_aload_n hx hb dX11_areAlike_13 rfl (lv_at hl 0 rfl) ?_
        refine mr_up S X Z hin hl_7 dX11_areAlike_14 ?_
        refine lv_iload_n hx hb dX11_areAlike_17 rfl (lv_at hl 2 rfl) ?_
        refine g_zald S X Z ml_up rfl dX11_areAlike_18 h (fun v30 h => ?_)
        obtain ⟨J27, eJ27, h⟩ := jn_e h
        have hJ27 : ∀ (b31 : Int32) (H : Heap) (locs : List Loc) (ls : Array Slot), gZ D mLay dA mLive A (gA mLive A) s.heap M H locs → lv_has ls 5 [(0, .ref (A m_o)), (2, .int x26)] → J27 b31 = some y → W p l e (headSpec wmX11_areAlike ({ frames := 3, cells := 0, slots := 0, locals := 83 } : Room)).room s m args below meth c H locs 0 0 (MQ below (mQi D dA A (y, M)) args s 0 0 (gA mLive A)) (F0 m 27 ls [.int b31]) := by
          intro b31 H locs ls Z hl h
          rw [eJ27] at h
          try dsimp only at h
          refine lv_istore_n (lv' := [(1, .int b31), (0, .ref (A m_o)), (2, .int x26)]) hx hb dX11_areAlike_27 rfl hl (by decide) rfl (fun ls hl => ?_)
          obtain ⟨x32, ex32, h⟩ := lt_e h
          refine lv_iinc (v := x32) (lv' := [(2, .int x32), (1, .int b31), (0, .ref (A m_o))]) hx hb dX11_areAlike_28 hl (k := 2) rfl (by rw [ex32]; rfl) (by decide) rfl (fun ls hl => ?_)
          refine lv_goto (tgt := 9) hx hb dX11_areAlike_31 (by decide) ?_
          exact ih9 b31 x32 _ _ _ Z (lv_sub hl [2, 1, 0] rfl) h
        refine lv_if_eq (tgt := 26) hx hb dX11_areAlike_19 (by decide) (fun c33 => ?_) (fun c33 => ?_)
        · have h := if_t c33 h
          refine lv_iload_n hx hb dX11_areAlike_26 rfl (lv_at hl 1 rfl) ?_
          exact hJ27 x25 _ _ _ Z (lv_sub hl [0, 2] rfl) h
        · have h := if_f c33 h
          refine lv_iload_n hx hb dX11_areAlike_22 rfl (lv_at hl 2 rfl) ?_
          refine lv_goto (tgt := 27) hx hb dX11_areAlike_23 (by decide) ?_
          exact hJ27 x26 _ _ _ Z (lv_sub hl [0, 2] rfl) h
  exact hL9 100 (-1 : Int32) x2 _ _ _ Z (lv_sub hl [2, 1, 0] rfl) h
-- X11_told (I)I: 47 instructions
theorem dX11_told_0 : decode cX11_told 0 = .ok (.aload_n 0, 1) := by decide +kernel
theorem dX11_told_1 : decode cX11_told 1 = .ok (.iload_n 1, 1) := by decide +kernel
theorem dX11_told_2 : decode cX11_told 2 = .ok (.iconst 0, 1) := by decide +kernel
theorem dX11_told_3 : decode cX11_told 3 = .ok (.bipush 7, 2) := by decide +kernel
theorem dX11_told_5 : decode cX11_told 5 = .ok (.invokestatic 168, 3) := by decide +kernel
theorem dX11_told_8 : decode cX11_told 8 = .ok (.ifCond .eq 7, 3) := by decide +kernel
theorem dX11_told_11 : decode cX11_told 11 = .ok (.iconst 0, 1) := by decide +kernel
theorem dX11_told_12 : decode cX11_told 12 = .ok (.goto 4, 3) := by decide +kernel
theorem dX11_told_15 : decode cX11_told 15 = .ok (.iconst 1, 1) := by decide +kernel
theorem dX11_told_16 : decode cX11_told 16 = .ok (.putfield 165, 3) := by decide +kernel
theorem dX11_told_19 : decode cX11_told 19 = .ok (.aload_n 0, 1) := by decide +kernel
theorem dX11_told_20 : decode cX11_told 20 = .ok (.getfield 165, 3) := by decide +kernel
theorem dX11_told_23 : decode cX11_told 23 = .ok (.ifCond .le 5, 3) := by decide +kernel
theorem dX11_told_26 : decode cX11_told 26 = .ok (.iconst 0, 1) := by decide +kernel
theorem dX11_told_27 : decode cX11_told 27 = .ok (.ireturn, 1) := by decide +kernel
theorem dX11_told_28 : decode cX11_told 28 = .ok (.iload_n 1, 1) := by decide +kernel
theorem dX11_told_29 : decode cX11_told 29 = .ok (.tableswitch 80 0 6 #[43, 50, 55, 60, 65, 70, 75], 43) := by decide +kernel
theorem dX11_told_72 : decode cX11_told 72 = .ok (.aload_n 0, 1) := by decide +kernel
theorem dX11_told_73 : decode cX11_told 73 = .ok (.getfield 162, 3) := by decide +kernel
theorem dX11_told_76 : decode cX11_told 76 = .ok (.iconst 1, 1) := by decide +kernel
theorem dX11_told_77 : decode cX11_told 77 = .ok (.isub, 1) := by decide +kernel
theorem dX11_told_78 : decode cX11_told 78 = .ok (.ireturn, 1) := by decide +kernel
theorem dX11_told_79 : decode cX11_told 79 = .ok (.aload_n 0, 1) := by decide +kernel
theorem dX11_told_80 : decode cX11_told 80 = .ok (.getfield 302, 3) := by decide +kernel
theorem dX11_told_83 : decode cX11_told 83 = .ok (.ireturn, 1) := by decide +kernel
theorem dX11_told_84 : decode cX11_told 84 = .ok (.aload_n 0, 1) := by decide +kernel
theorem dX11_told_85 : decode cX11_told 85 = .ok (.getfield 385, 3) := by decide +kernel
theorem dX11_told_88 : decode cX11_told 88 = .ok (.ireturn, 1) := by decide +kernel
theorem dX11_told_89 : decode cX11_told 89 = .ok (.aload_n 0, 1) := by decide +kernel
theorem dX11_told_90 : decode cX11_told 90 = .ok (.getfield 391, 3) := by decide +kernel
theorem dX11_told_93 : decode cX11_told 93 = .ok (.ireturn, 1) := by decide +kernel
theorem dX11_told_94 : decode cX11_told 94 = .ok (.aload_n 0, 1) := by decide +kernel
theorem dX11_told_95 : decode cX11_told 95 = .ok (.getfield 295, 3) := by decide +kernel
theorem dX11_told_98 : decode cX11_told 98 = .ok (.ireturn, 1) := by decide +kernel
theorem dX11_told_99 : decode cX11_told 99 = .ok (.aload_n 0, 1) := by decide +kernel
theorem dX11_told_100 : decode cX11_told 100 = .ok (.getfield 272, 3) := by decide +kernel
theorem dX11_told_103 : decode cX11_told 103 = .ok (.ireturn, 1) := by decide +kernel
theorem dX11_told_104 : decode cX11_told 104 = .ok (.aload_n 0, 1) := by decide +kernel
theorem dX11_told_105 : decode cX11_told 105 = .ok (.getfield 228, 3) := by decide +kernel
theorem dX11_told_108 : decode cX11_told 108 = .ok (.ireturn, 1) := by decide +kernel
theorem dX11_told_109 : decode cX11_told 109 = .ok (.aload_n 0, 1) := by decide +kernel
theorem dX11_told_110 : decode cX11_told 110 = .ok (.invokevirtual 467, 3) := by decide +kernel
theorem dX11_told_113 : decode cX11_told 113 = .ok (.ifCond .eq 7, 3) := by decide +kernel
theorem dX11_told_116 : decode cX11_told 116 = .ok (.iconst 1, 1) := by decide +kernel
theorem dX11_told_117 : decode cX11_told 117 = .ok (.goto 4, 3) := by decide +kernel
theorem dX11_told_120 : decode cX11_told 120 = .ok (.iconst 0, 1) := by decide +kernel
theorem dX11_told_121 : decode cX11_told 121 = .ok (.ireturn, 1) := by decide +kernel
abbrev wmX11_told : List Cond := .code yX11_told cX11_told 2 (some .int) :: mBig
def f_X11_told (M : gM) (a1 : Int32) : Option (Int32 × gM) :=
  o1 (f_X11_in M a1 (0 : Int32) (7 : Int32)) (fun v2 => jn (fun (q : (Int32 × gM)) => match q with | (b3, M4) => lt (gset M4 m_o 66 b3) (fun M5 => lt (M5 m_o 66) (fun v6 => (if v6 ≤ 0 then (if a1.toInt < 0 ∨ 6 < a1.toInt then o1 (f_X11_areAlike M5 ) (fun v10 => (if v10 = 0 then some ((0 : Int32), M5) else some ((1 : Int32), M5))) else (if a1 = 0 then lt (M5 m_o 6) (fun v13 => some ((v13 - (1 : Int32)), M5)) else (if a1 = 1 then lt (M5 m_o 45) (fun v15 => some (v15, M5)) else (if a1 = 2 then lt (M5 m_o 46) (fun v17 => some (v17, M5)) else (if a1 = 3 then lt (M5 m_o 47) (fun v19 => some (v19, M5)) else (if a1 = 4 then lt (M5 m_o 48) (fun v21 => some (v21, M5)) else (if a1 = 5 then lt (M5 m_o 49) (fun v23 => some (v23, M5)) else (if a1 = 6 then lt (M5 m_o 50) (fun v25 => some (v25, M5)) else none)))))))) else some ((0 : Int32), M5))))) (fun J16 => (if v2 = 0 then J16 ((1 : Int32), M) else J16 ((0 : Int32), M))))
set_option maxHeartbeats 4000000 in
set_option maxRecDepth 100000 in
theorem t_X11_told (l : Launch) (D : va_G) (dA : Nat → ClassId) (A : gI → Nat) (hJ : gJ mLive A) {M : gM} {a1 : Int32}  {y : (Int32 × gM)} (h : f_X11_told M a1 = some y) : mMi l yX11_told wmX11_told ({ frames := 4, cells := 0, slots := 0, locals := 107 } : Room) D dA A [.ref (A m_o), .int a1] M y.1 y.2 := by
  refine Met.ofW (cc := cX11_told) (maxL := 2) (ret := (some .int)) (by decide) rfl ?_
  intro p e s m args below meth c s₁ B hml hv
  obtain ⟨rfl, hP, hK⟩ := hv
  generalize hargs : ([.ref (A m_o), .int a1] : List Value).toArray = args at B ⊢
  have S : CallFix p m c cX11_told 2 s args wmX11_told RX11 := ⟨B.exec, B.bytes, hml, findClass_of_methodNamed B.named, atoms_spec (ws := wmX11_told) B.pre⟩
  obtain ⟨hx, hb, -, hown, hts⟩ := id S
  have hr := B.returns
  have hlocks := B.notSynchronized
  have X : gX D vwCl dA mLive A (gA mLive A) s := ⟨hK, hJ, fun i hi => ⟨i, hi, rfl⟩⟩
  have Z : gZ D mLay dA mLive A (gA mLive A) s.heap M s.heap [] := ⟨hP, va_S.rf⟩
  have hin : ∀ w ∈ wsX110, w ∈ wmX11_told := m_in
  have hl_162 := hts (.fieldLink RX11 162 "ReplicaFilesModel" "made" "I") (mBc 55 rfl)
  have hl_165 := hts (.fieldLink RX11 165 "ReplicaFilesModel" "thrown" "I") (mBc 58 rfl)
  have hl_228 := hts (.fieldLink RX11 228 "ReplicaFilesModel" "went" "I") (mBc 122 rfl)
  have hl_272 := hts (.fieldLink RX11 272 "ReplicaFilesModel" "came" "I") (mBc 146 rfl)
  have hl_295 := hts (.fieldLink RX11 295 "ReplicaFilesModel" "lostPhases" "I") (mBc 189 rfl)
  have hl_302 := hts (.fieldLink RX11 302 "ReplicaFilesModel" "acts" "I") (mBc 198 rfl)
  have hl_385 := hts (.fieldLink RX11 385 "ReplicaFilesModel" "lost" "I") (mBc 268 rfl)
  have hl_391 := hts (.fieldLink RX11 391 "ReplicaFilesModel" "refused" "I") (mBc 274 rfl)
  have hl := lv_entry ([.ref (A m_o), .int a1]) (n := 2) (Nat.le_of_ble_eq_true rfl)
  rw [← hargs, lg_entry_eq, hargs]
  generalize (lg_sl ([.ref (A m_o), .int a1]) ++ List.replicate (2 - (lg_sl ([.ref (A m_o), .int a1])).length) Slot.unset).toArray = ls at hl ⊢
  have hl : lv_has ls 2 [(0, .ref (A m_o)), (1, .int a1)] := hl
  unfold f_X11_told at h
  refine lv_aload_n hx hb dX11_told_0 rfl (lv_at hl 0 rfl) ?_
  refine lv_iload_n hx hb dX11_told_1 rfl (lv_at hl 1 rfl) ?_
  refine lv_iconst (v := (0 : Int32)) hx hb dX11_told_2 (by decide) ?_
  refine lv_bipush (v := (7 : Int32)) hx hb dX11_told_3 (by decide) ?_
  obtain ⟨v2, hc1, h⟩ := o1_e h
  refine g_Si (As := [.int a1, .int (0 : Int32), .int (7 : Int32)]) (rest := [.ref (A m_o)]) S X Z (t_X11_in l D dA A hJ  hc1) (va_cwS 3 hts (mGS (mB 61 rfl) (mB 62 rfl) (mB 63 rfl) (mB 59 rfl)) rfl rfl rfl (by decide +kernel) ⟨Nat.le_of_ble_eq_true rfl, Nat.le_of_ble_eq_true rfl⟩) rfl hl.1 rfl (Nat.le_of_ble_eq_true rfl) dX11_told_5 ⟨Nat.zero_le _, Nat.zero_le _⟩ (fun H locs Z => ?_)
  obtain ⟨J16, eJ16, h⟩ := jn_e h
  have hJ16 : ∀ (b3 : Int32) (M4 : gM) (H : Heap) (locs : List Loc) (ls : Array Slot), gZ D mLay dA mLive A (gA mLive A) s.heap M4 H locs → lv_has ls 2 [(0, .ref (A m_o)), (1, .int a1)] → J16 (b3, M4) = some y → W p l e (headSpec wmX11_told ({ frames := 4, cells := 0, slots := 0, locals := 107 } : Room)).room s m args below meth c H locs 0 0 (MQ below (mQi D dA A y) args s 0 0 (gA mLive A)) (F0 m 16 ls [.int b3, .ref (A m_o)]) := by
    intro b3 M4 H locs ls Z hl h
    rw [eJ16] at h
    try dsimp only at h
    refine mp_thrown S X Z hin hl_165 dX11_told_16 h (fun M5 H locs Z h => ?_)
    refine lv_aload_n hx hb dX11_told_19 rfl (lv_at hl 0 rfl) ?_
    refine mr_thrown S X Z hin hl_165 dX11_told_20 h (fun v6 h => ?_)
    refine lv_if_le (tgt := 28) hx hb dX11_told_23 (by decide) (fun c7 => ?_) (fun c7 => ?_)
    · have h := if_t c7 h
      refine lv_iload_n hx hb dX11_told_28 rfl (lv_at hl 1 rfl) ?_
      by_cases c8 : a1.toInt < 0 ∨ 6 < a1.toInt
      · have h := if_t c8 h
        refine lv_tableOut (tgt := 109) hx hb dX11_told_29 c8 (by decide) ?_
        refine lv_aload_n hx hb dX11_told_109 rfl (lv_at hl 0 rfl) ?_
        obtain ⟨v10, hc9, h⟩ := o1_e h
        refine g_Vi (As := []) (rest := []) S X Z mlv_o rfl rfl (t_X11_areAlike l D dA A hJ  hc9) (cwV 0 hts (mGV (mB 383 rfl) (mB 384 rfl) (mB 385 rfl) (mB 63 rfl) (mB 382 rfl)) rfl rfl rfl (by decide +kernel) ⟨Nat.le_of_ble_eq_true rfl, Nat.le_of_ble_eq_true rfl⟩) rfl hl.1 rfl (Nat.le_of_ble_eq_true rfl) dX11_told_110 ⟨Nat.zero_le _, Nat.zero_le _⟩ (fun H locs Z => ?_)
        refine lv_if_eq (tgt := 120) hx hb dX11_told_113 (by decide) (fun c11 => ?_) (fun c11 => ?_)
        · have h := if_t c11 h
          refine lv_iconst (v := (0 : Int32)) hx hb dX11_told_120 (by decide) ?_
          have hy := Option.some.inj h
          subst hy
          exact g_ri S Z hr hlocks dX11_told_121
        · have h := if_f c11 h
          refine lv_iconst (v := (1 : Int32)) hx hb dX11_told_116 (by decide) ?_
          refine lv_goto (tgt := 121) hx hb dX11_told_117 (by decide) ?_
          have hy := Option.some.inj h
          subst hy
          exact g_ri S Z hr hlocks dX11_told_121
      · have h := if_f c8 h
        by_cases c12 : a1 = 0
        · have h := if_t c12 h
          refine lv_tableIn (off := 43) (tgt := 72) hx hb dX11_told_29 (fun q => c8 (Or.inl q)) (fun q => c8 (Or.inr q)) (by rw [c12]; decide) (by decide) ?_
          refine lv_aload_n hx hb dX11_told_72 rfl (lv_at hl 0 rfl) ?_
          refine mr_made S X Z hin hl_162 dX11_told_73 h (fun v13 h => ?_)
          refine lv_iconst (v := (1 : Int32)) hx hb dX11_told_76 (by decide) ?_
          refine lv_isub hx hb dX11_told_77 ?_
          have hy := Option.some.inj h
          subst hy
          exact g_ri S Z hr hlocks dX11_told_78
        have h := if_f c12 h
        by_cases c14 : a1 = 1
        · have h := if_t c14 h
          refine lv_tableIn (off := 50) (tgt := 79) hx hb dX11_told_29 (fun q => c8 (Or.inl q)) (fun q => c8 (Or.inr q)) (by rw [c14]; decide) (by decide) ?_
          refine lv_aload_n hx hb dX11_told_79 rfl (lv_at hl 0 rfl) ?_
          refine mr_acts S X Z hin hl_302 dX11_told_80 h (fun v15 h => ?_)
          have hy := Option.some.inj h
          subst hy
          exact g_ri S Z hr hlocks dX11_told_83
        have h := if_f c14 h
        by_cases c16 : a1 = 2
        · have h := if_t c16 h
          refine lv_tableIn (off := 55) (tgt := 84) hx hb dX11_told_29 (fun q => c8 (Or.inl q)) (fun q => c8 (Or.inr q)) (by rw [c16]; decide) (by decide) ?_
          refine lv_aload_n hx hb dX11_told_84 rfl (lv_at hl 0 rfl) ?_
          refine mr_lost S X Z hin hl_385 dX11_told_85 h (fun v17 h => ?_)
          have hy := Option.some.inj h
          subst hy
          exact g_ri S Z hr hlocks dX11_told_88
        have h := if_f c16 h
        by_cases c18 : a1 = 3
        · have h := if_t c18 h
          refine lv_tableIn (off := 60) (tgt := 89) hx hb dX11_told_29 (fun q => c8 (Or.inl q)) (fun q => c8 (Or.inr q)) (by rw [c18]; decide) (by decide) ?_
          refine lv_aload_n hx hb dX11_told_89 rfl (lv_at hl 0 rfl) ?_
          refine mr_refused S X Z hin hl_391 dX11_told_90 h (fun v19 h => ?_)
          have hy := Option.some.inj h
          subst hy
          exact g_ri S Z hr hlocks dX11_told_93
        have h := if_f c18 h
        by_cases c20 : a1 = 4
        · have h := if_t c20 h
          refine lv_tableIn (off := 65) (tgt := 94) hx hb dX11_told_29 (fun q => c8 (Or.inl q)) (fun q => c8 (Or.inr q)) (by rw [c20]; decide) (by decide) ?_
          refine lv_aload_n hx hb dX11_told_94 rfl (lv_at hl 0 rfl) ?_
          refine mr_lostPhases S X Z hin hl_295 dX11_told_95 h (fun v21 h => ?_)
          have hy := Option.some.inj h
          subst hy
          exact g_ri S Z hr hlocks dX11_told_98
        have h := if_f c20 h
        by_cases c22 : a1 = 5
        · have h := if_t c22 h
          refine lv_tableIn (off := 70) (tgt := 99) hx hb dX11_told_29 (fun q => c8 (Or.inl q)) (fun q => c8 (Or.inr q)) (by rw [c22]; decide) (by decide) ?_
          refine lv_aload_n hx hb dX11_told_99 rfl (lv_at hl 0 rfl) ?_
          refine mr_came S X Z hin hl_272 dX11_told_100 h (fun v23 h => ?_)
          have hy := Option.some.inj h
          subst hy
          exact g_ri S Z hr hlocks dX11_told_103
        have h := if_f c22 h
        by_cases c24 : a1 = 6
        · have h := if_t c24 h
          refine lv_tableIn (off := 75) (tgt := 104) hx hb dX11_told_29 (fun q => c8 (Or.inl q)) (fun q => c8 (Or.inr q)) (by rw [c24]; decide) (by decide) ?_
          refine lv_aload_n hx hb dX11_told_104 rfl (lv_at hl 0 rfl) ?_
          refine mr_went S X Z hin hl_228 dX11_told_105 h (fun v25 h => ?_)
          have hy := Option.some.inj h
          subst hy
          exact g_ri S Z hr hlocks dX11_told_108
        have h := if_f c24 h
        cases h
    · have h := if_f c7 h
      refine lv_iconst (v := (0 : Int32)) hx hb dX11_told_26 (by decide) ?_
      have hy := Option.some.inj h
      subst hy
      exact g_ri S Z hr hlocks dX11_told_27
  refine lv_if_eq (tgt := 15) hx hb dX11_told_8 (by decide) (fun c26 => ?_) (fun c26 => ?_)
  · have h := if_t c26 h
    refine lv_iconst (v := (1 : Int32)) hx hb dX11_told_15 (by decide) ?_
    exact hJ16 (1 : Int32) M _ _ _ Z (lv_sub hl [0, 1] rfl) h
  · have h := if_f c26 h
    refine lv_iconst (v := (0 : Int32)) hx hb dX11_told_11 (by decide) ?_
    refine lv_goto (tgt := 16) hx hb dX11_told_12 (by decide) ?_
    exact hJ16 (0 : Int32) M _ _ _ Z (lv_sub hl [0, 1] rfl) h
