-- X11_make (IIIZ)J: 140 instructions
theorem dX11_make_0 : decode cX11_make 0 = .ok (.aload_n 0, 1) := by decide +kernel
theorem dX11_make_1 : decode cX11_make 1 = .ok (.iload_n 1, 1) := by decide +kernel
theorem dX11_make_2 : decode cX11_make 2 = .ok (.invokestatic 191, 3) := by decide +kernel
theorem dX11_make_5 : decode cX11_make 5 = .ok (.ifCond .eq 10, 3) := by decide +kernel
theorem dX11_make_8 : decode cX11_make 8 = .ok (.iload_n 2, 1) := by decide +kernel
theorem dX11_make_9 : decode cX11_make 9 = .ok (.invokestatic 194, 3) := by decide +kernel
theorem dX11_make_12 : decode cX11_make 12 = .ok (.ifCond .ne 7, 3) := by decide +kernel
theorem dX11_make_15 : decode cX11_make 15 = .ok (.iconst 1, 1) := by decide +kernel
theorem dX11_make_16 : decode cX11_make 16 = .ok (.goto 18, 3) := by decide +kernel
theorem dX11_make_19 : decode cX11_make 19 = .ok (.iload_n 3, 1) := by decide +kernel
theorem dX11_make_20 : decode cX11_make 20 = .ok (.iconst 0, 1) := by decide +kernel
theorem dX11_make_21 : decode cX11_make 21 = .ok (.bipush 15, 2) := by decide +kernel
theorem dX11_make_23 : decode cX11_make 23 = .ok (.invokestatic 168, 3) := by decide +kernel
theorem dX11_make_26 : decode cX11_make 26 = .ok (.ifCond .eq 7, 3) := by decide +kernel
theorem dX11_make_29 : decode cX11_make 29 = .ok (.iconst 0, 1) := by decide +kernel
theorem dX11_make_30 : decode cX11_make 30 = .ok (.goto 4, 3) := by decide +kernel
theorem dX11_make_33 : decode cX11_make 33 = .ok (.iconst 2, 1) := by decide +kernel
theorem dX11_make_34 : decode cX11_make 34 = .ok (.putfield 165, 3) := by decide +kernel
theorem dX11_make_37 : decode cX11_make 37 = .ok (.aload_n 0, 1) := by decide +kernel
theorem dX11_make_38 : decode cX11_make 38 = .ok (.getfield 165, 3) := by decide +kernel
theorem dX11_make_41 : decode cX11_make 41 = .ok (.ifCond .le 5, 3) := by decide +kernel
theorem dX11_make_44 : decode cX11_make 44 = .ok (.lconst 0, 1) := by decide +kernel
theorem dX11_make_45 : decode cX11_make 45 = .ok (.lreturn, 1) := by decide +kernel
theorem dX11_make_46 : decode cX11_make 46 = .ok (.aload_n 0, 1) := by decide +kernel
theorem dX11_make_47 : decode cX11_make 47 = .ok (.iload_n 2, 1) := by decide +kernel
theorem dX11_make_48 : decode cX11_make 48 = .ok (.iconst 1, 1) := by decide +kernel
theorem dX11_make_49 : decode cX11_make 49 = .ok (.invokevirtual 278, 3) := by decide +kernel
theorem dX11_make_52 : decode cX11_make 52 = .ok (.lstore 5, 2) := by decide +kernel
theorem dX11_make_54 : decode cX11_make 54 = .ok (.lload 5, 2) := by decide +kernel
theorem dX11_make_56 : decode cX11_make 56 = .ok (.lconst 0, 1) := by decide +kernel
theorem dX11_make_57 : decode cX11_make 57 = .ok (.lcmp, 1) := by decide +kernel
theorem dX11_make_58 : decode cX11_make 58 = .ok (.ifCond .eq 6, 3) := by decide +kernel
theorem dX11_make_61 : decode cX11_make 61 = .ok (.lload 5, 2) := by decide +kernel
theorem dX11_make_63 : decode cX11_make 63 = .ok (.lreturn, 1) := by decide +kernel
theorem dX11_make_64 : decode cX11_make 64 = .ok (.aload_n 0, 1) := by decide +kernel
theorem dX11_make_65 : decode cX11_make 65 = .ok (.dup, 1) := by decide +kernel
theorem dX11_make_66 : decode cX11_make 66 = .ok (.getfield 211, 3) := by decide +kernel
theorem dX11_make_69 : decode cX11_make 69 = .ok (.iconst 1, 1) := by decide +kernel
theorem dX11_make_70 : decode cX11_make 70 = .ok (.iadd, 1) := by decide +kernel
theorem dX11_make_71 : decode cX11_make 71 = .ok (.putfield 211, 3) := by decide +kernel
theorem dX11_make_74 : decode cX11_make 74 = .ok (.aload_n 0, 1) := by decide +kernel
theorem dX11_make_75 : decode cX11_make 75 = .ok (.iload_n 1, 1) := by decide +kernel
theorem dX11_make_76 : decode cX11_make 76 = .ok (.invokevirtual 238, 3) := by decide +kernel
theorem dX11_make_79 : decode cX11_make 79 = .ok (.istore 7, 2) := by decide +kernel
theorem dX11_make_81 : decode cX11_make 81 = .ok (.aload_n 0, 1) := by decide +kernel
theorem dX11_make_82 : decode cX11_make 82 = .ok (.iload_n 1, 1) := by decide +kernel
theorem dX11_make_83 : decode cX11_make 83 = .ok (.iload_n 2, 1) := by decide +kernel
theorem dX11_make_84 : decode cX11_make 84 = .ok (.bipush 10, 2) := by decide +kernel
theorem dX11_make_86 : decode cX11_make 86 = .ok (.invokevirtual 282, 3) := by decide +kernel
theorem dX11_make_89 : decode cX11_make 89 = .ok (.lstore 8, 2) := by decide +kernel
theorem dX11_make_91 : decode cX11_make 91 = .ok (.lload 8, 2) := by decide +kernel
theorem dX11_make_93 : decode cX11_make 93 = .ok (.lconst 0, 1) := by decide +kernel
theorem dX11_make_94 : decode cX11_make 94 = .ok (.lcmp, 1) := by decide +kernel
theorem dX11_make_95 : decode cX11_make 95 = .ok (.ifCond .eq 6, 3) := by decide +kernel
theorem dX11_make_98 : decode cX11_make 98 = .ok (.lload 8, 2) := by decide +kernel
theorem dX11_make_100 : decode cX11_make 100 = .ok (.lreturn, 1) := by decide +kernel
theorem dX11_make_101 : decode cX11_make 101 = .ok (.aload_n 0, 1) := by decide +kernel
theorem dX11_make_102 : decode cX11_make 102 = .ok (.getfield 162, 3) := by decide +kernel
theorem dX11_make_105 : decode cX11_make 105 = .ok (.bipush 48, 2) := by decide +kernel
theorem dX11_make_107 : decode cX11_make 107 = .ok (.if_icmp .ne 7, 3) := by decide +kernel
theorem dX11_make_110 : decode cX11_make 110 = .ok (.ldc2_w 336, 3) := by decide +kernel
theorem dX11_make_113 : decode cX11_make 113 = .ok (.lreturn, 1) := by decide +kernel
theorem dX11_make_114 : decode cX11_make 114 = .ok (.iload 7, 2) := by decide +kernel
theorem dX11_make_116 : decode cX11_make 116 = .ok (.ifCond .eq 13, 3) := by decide +kernel
theorem dX11_make_119 : decode cX11_make 119 = .ok (.aload_n 0, 1) := by decide +kernel
theorem dX11_make_120 : decode cX11_make 120 = .ok (.iload_n 1, 1) := by decide +kernel
theorem dX11_make_121 : decode cX11_make 121 = .ok (.iload_n 2, 1) := by decide +kernel
theorem dX11_make_122 : decode cX11_make 122 = .ok (.iload_n 3, 1) := by decide +kernel
theorem dX11_make_123 : decode cX11_make 123 = .ok (.iload 4, 2) := by decide +kernel
theorem dX11_make_125 : decode cX11_make 125 = .ok (.invokevirtual 338, 3) := by decide +kernel
theorem dX11_make_128 : decode cX11_make 128 = .ok (.lreturn, 1) := by decide +kernel
theorem dX11_make_129 : decode cX11_make 129 = .ok (.aload_n 0, 1) := by decide +kernel
theorem dX11_make_130 : decode cX11_make 130 = .ok (.aload_n 0, 1) := by decide +kernel
theorem dX11_make_131 : decode cX11_make 131 = .ok (.aload_n 0, 1) := by decide +kernel
theorem dX11_make_132 : decode cX11_make 132 = .ok (.iload_n 1, 1) := by decide +kernel
theorem dX11_make_133 : decode cX11_make 133 = .ok (.invokevirtual 180, 3) := by decide +kernel
theorem dX11_make_136 : decode cX11_make 136 = .ok (.iload_n 2, 1) := by decide +kernel
theorem dX11_make_137 : decode cX11_make 137 = .ok (.aload_n 0, 1) := by decide +kernel
theorem dX11_make_138 : decode cX11_make 138 = .ok (.getfield 116, 3) := by decide +kernel
theorem dX11_make_141 : decode cX11_make 141 = .ok (.invokevirtual 323, 3) := by decide +kernel
theorem dX11_make_144 : decode cX11_make 144 = .ok (.putfield 289, 3) := by decide +kernel
theorem dX11_make_147 : decode cX11_make 147 = .ok (.aload_n 0, 1) := by decide +kernel
theorem dX11_make_148 : decode cX11_make 148 = .ok (.iload_n 2, 1) := by decide +kernel
theorem dX11_make_149 : decode cX11_make 149 = .ok (.iload_n 3, 1) := by decide +kernel
theorem dX11_make_150 : decode cX11_make 150 = .ok (.iload 4, 2) := by decide +kernel
theorem dX11_make_152 : decode cX11_make 152 = .ok (.invokevirtual 342, 3) := by decide +kernel
theorem dX11_make_155 : decode cX11_make 155 = .ok (.istore 10, 2) := by decide +kernel
theorem dX11_make_157 : decode cX11_make 157 = .ok (.aload_n 0, 1) := by decide +kernel
theorem dX11_make_158 : decode cX11_make 158 = .ok (.iload_n 2, 1) := by decide +kernel
theorem dX11_make_159 : decode cX11_make 159 = .ok (.iload 10, 2) := by decide +kernel
theorem dX11_make_161 : decode cX11_make 161 = .ok (.invokevirtual 346, 3) := by decide +kernel
theorem dX11_make_164 : decode cX11_make 164 = .ok (.aload_n 0, 1) := by decide +kernel
theorem dX11_make_165 : decode cX11_make 165 = .ok (.getfield 65, 3) := by decide +kernel
theorem dX11_make_168 : decode cX11_make 168 = .ok (.bipush 48, 2) := by decide +kernel
theorem dX11_make_170 : decode cX11_make 170 = .ok (.iload_n 1, 1) := by decide +kernel
theorem dX11_make_171 : decode cX11_make 171 = .ok (.imul, 1) := by decide +kernel
theorem dX11_make_172 : decode cX11_make 172 = .ok (.iload_n 2, 1) := by decide +kernel
theorem dX11_make_173 : decode cX11_make 173 = .ok (.iadd, 1) := by decide +kernel
theorem dX11_make_174 : decode cX11_make 174 = .ok (.baload, 1) := by decide +kernel
theorem dX11_make_175 : decode cX11_make 175 = .ok (.ifCond .eq 16, 3) := by decide +kernel
theorem dX11_make_178 : decode cX11_make 178 = .ok (.aload_n 0, 1) := by decide +kernel
theorem dX11_make_179 : decode cX11_make 179 = .ok (.getfield 89, 3) := by decide +kernel
theorem dX11_make_182 : decode cX11_make 182 = .ok (.bipush 48, 2) := by decide +kernel
theorem dX11_make_184 : decode cX11_make 184 = .ok (.iload_n 1, 1) := by decide +kernel
theorem dX11_make_185 : decode cX11_make 185 = .ok (.imul, 1) := by decide +kernel
theorem dX11_make_186 : decode cX11_make 186 = .ok (.iload 10, 2) := by decide +kernel
theorem dX11_make_188 : decode cX11_make 188 = .ok (.iadd, 1) := by decide +kernel
theorem dX11_make_189 : decode cX11_make 189 = .ok (.iconst 1, 1) := by decide +kernel
theorem dX11_make_190 : decode cX11_make 190 = .ok (.iastore, 1) := by decide +kernel
theorem dX11_make_191 : decode cX11_make 191 = .ok (.aload_n 0, 1) := by decide +kernel
theorem dX11_make_192 : decode cX11_make 192 = .ok (.iload_n 1, 1) := by decide +kernel
theorem dX11_make_193 : decode cX11_make 193 = .ok (.iload_n 2, 1) := by decide +kernel
theorem dX11_make_194 : decode cX11_make 194 = .ok (.invokevirtual 330, 3) := by decide +kernel
theorem dX11_make_197 : decode cX11_make 197 = .ok (.aload_n 0, 1) := by decide +kernel
theorem dX11_make_198 : decode cX11_make 198 = .ok (.iload_n 1, 1) := by decide +kernel
theorem dX11_make_199 : decode cX11_make 199 = .ok (.aload_n 0, 1) := by decide +kernel
theorem dX11_make_200 : decode cX11_make 200 = .ok (.iload 10, 2) := by decide +kernel
theorem dX11_make_202 : decode cX11_make 202 = .ok (.iconst 0, 1) := by decide +kernel
theorem dX11_make_203 : decode cX11_make 203 = .ok (.invokevirtual 204, 3) := by decide +kernel
theorem dX11_make_206 : decode cX11_make 206 = .ok (.iload 10, 2) := by decide +kernel
theorem dX11_make_208 : decode cX11_make 208 = .ok (.bipush 10, 2) := by decide +kernel
theorem dX11_make_210 : decode cX11_make 210 = .ok (.invokevirtual 269, 3) := by decide +kernel
theorem dX11_make_213 : decode cX11_make 213 = .ok (.ifCond .eq 26, 3) := by decide +kernel
theorem dX11_make_216 : decode cX11_make 216 = .ok (.aload_n 0, 1) := by decide +kernel
theorem dX11_make_217 : decode cX11_make 217 = .ok (.iload_n 1, 1) := by decide +kernel
theorem dX11_make_218 : decode cX11_make 218 = .ok (.iload 10, 2) := by decide +kernel
theorem dX11_make_220 : decode cX11_make 220 = .ok (.invokevirtual 349, 3) := by decide +kernel
theorem dX11_make_223 : decode cX11_make 223 = .ok (.aload_n 0, 1) := by decide +kernel
theorem dX11_make_224 : decode cX11_make 224 = .ok (.getfield 77, 3) := by decide +kernel
theorem dX11_make_227 : decode cX11_make 227 = .ok (.bipush 48, 2) := by decide +kernel
theorem dX11_make_229 : decode cX11_make 229 = .ok (.iload_n 1, 1) := by decide +kernel
theorem dX11_make_230 : decode cX11_make 230 = .ok (.imul, 1) := by decide +kernel
theorem dX11_make_231 : decode cX11_make 231 = .ok (.iload 10, 2) := by decide +kernel
theorem dX11_make_233 : decode cX11_make 233 = .ok (.iadd, 1) := by decide +kernel
theorem dX11_make_234 : decode cX11_make 234 = .ok (.aload_n 0, 1) := by decide +kernel
theorem dX11_make_235 : decode cX11_make 235 = .ok (.getfield 289, 3) := by decide +kernel
theorem dX11_make_238 : decode cX11_make 238 = .ok (.iastore, 1) := by decide +kernel
theorem dX11_make_239 : decode cX11_make 239 = .ok (.iload 10, 2) := by decide +kernel
theorem dX11_make_241 : decode cX11_make 241 = .ok (.i2l, 1) := by decide +kernel
theorem dX11_make_242 : decode cX11_make 242 = .ok (.lreturn, 1) := by decide +kernel
abbrev wmX11_make : List Cond := .code yX11_make cX11_make 11 (some .long) :: mBig
def f_X11_make (M : gM) (a1 : Int32) (a2 : Int32) (a3 : Int32) (a4 : Int32) : Option (Int64 × gM) :=
  o1 (f_X11_isClient M a1) (fun v2 => jn (fun (q : (Int32 × gM)) => match q with | (b3, M4) => lt (gset M4 m_o 66 b3) (fun M5 => lt (M5 m_o 66) (fun v6 => (if v6 ≤ 0 then o1 (f_X11_kindOf M5 a2 (1 : Int32)) (fun v9 => (if (lg_cmp v9 (0 : Int64)) = 0 then lt (M5 m_o 33) (fun v11 => lt (gset M5 m_o 33 (v11 + (1 : Int32))) (fun M12 => o1 (f_X11_isAlone M12 a1) (fun v14 => ob (f_X11_get M12 a1 a2 (10 : Int32)) (fun v17 M16 => (if (lg_cmp v17 (0 : Int64)) = 0 then lt (M16 m_o 6) (fun v19 => (if v19 = (48 : Int32) then some ((-2199023255557 : Int64), M16) else (if v14 = 0 then o1 (f_X11_nearSet M16 a1) (fun v23 => o1 (f_X11_setOf M16 v23 a2 m_gotVector) (fun v25 => lt (gset M16 m_o 51 v25) (fun M26 => ob (f_X11_newObject M26 a2 a3 a4) (fun v29 M28 => o1 (f_X11_putEntry M28 a2 v29) (fun M31 => rd M31 m_kept 192 (((48 : Int32) * a1) + a2) (fun v32 => jn (fun (M33 : gM) => o1 (f_X11_follow M33 a1 a2) (fun M35 => o1 (f_X11_weight M35 v29 (0 : Int32)) (fun v37 => ob (f_X11_makeRoom M35 a1 v37 v29 (10 : Int32)) (fun v40 M39 => (if v40 = 0 then some (v29.toInt64, M39) else o1 (f_X11_keepNew M39 a1 v29) (fun M43 => lt (M43 m_o 51) (fun v44 => wr M43 m_promised 192 (((48 : Int32) * a1) + v29) v44 (fun M45 => some (v29.toInt64, M45))))))))) (fun J191 => (if v32 = 0 then J191 M31 else wr M31 m_keptEntry 192 (((48 : Int32) * a1) + v29) (1 : Int32) (fun M47 => J191 M47))))))))) else ob (f_X11_makeAlone M16 a1 a2 a3 a4) (fun v50 M49 => some (v50, M49))))) else some (v17, M16)))))) else some (v9, M5))) else some ((0 : Int64), M5))))) (fun J34 => jn (fun (M51 : gM) => J34 ((1 : Int32), M51)) (fun J15 => (if v2 = 0 then J15 M else o1 (f_X11_isObject M a2) (fun v54 => (if v54 = 0 then J15 M else o1 (f_X11_in M a3 (0 : Int32) (15 : Int32)) (fun v57 => (if v57 = 0 then J34 ((2 : Int32), M) else J34 ((0 : Int32), M)))))))))
set_option maxHeartbeats 4000000 in
set_option maxRecDepth 100000 in
theorem t_X11_make (l : Launch) (D : va_G) (dA : Nat → ClassId) (A : gI → Nat) (hJ : gJ mLive A) {M : gM} {a1 : Int32} {a2 : Int32} {a3 : Int32} {a4 : Int32}  {y : (Int64 × gM)} (h : f_X11_make M a1 a2 a3 a4 = some y) : mMl l yX11_make wmX11_make ({ frames := 5, cells := 0, slots := 0, locals := 129 } : Room) D dA A [.ref (A m_o), .int a1, .int a2, .int a3, .int a4] M y.1 y.2 := by
  refine Met.ofW (cc := cX11_make) (maxL := 11) (ret := (some .long)) (by decide) rfl ?_
  intro p e s m args below meth c s₁ B hml hv
  obtain ⟨rfl, hP, hK⟩ := hv
  generalize hargs : ([.ref (A m_o), .int a1, .int a2, .int a3, .int a4] : List Value).toArray = args at B ⊢
  have S : CallFix p m c cX11_make 11 s args wmX11_make RX11 := ⟨B.exec, B.bytes, hml, findClass_of_methodNamed B.named, atoms_spec (ws := wmX11_make) B.pre⟩
  obtain ⟨hx, hb, -, hown, hts⟩ := id S
  have hr := B.returns
  have hlocks := B.notSynchronized
  have X : gX D vwCl dA mLive A (gA mLive A) s := ⟨hK, hJ, fun i hi => ⟨i, hi, rfl⟩⟩
  have Z : gZ D mLay dA mLive A (gA mLive A) s.heap M s.heap [] := ⟨hP, va_S.rf⟩
  have hin : ∀ w ∈ wsX110, w ∈ wmX11_make := m_in
  have hl_65 := hts (.fieldLink RX11 65 "ReplicaFilesModel" "kept" "[Z") (mBc 23 rfl)
  have hl_77 := hts (.fieldLink RX11 77 "ReplicaFilesModel" "promised" "[I") (mBc 27 rfl)
  have hl_89 := hts (.fieldLink RX11 89 "ReplicaFilesModel" "keptEntry" "[I") (mBc 31 rfl)
  have hl_116 := hts (.fieldLink RX11 116 "ReplicaFilesModel" "gotVector" "[I") (mBc 40 rfl)
  have hl_162 := hts (.fieldLink RX11 162 "ReplicaFilesModel" "made" "I") (mBc 55 rfl)
  have hl_165 := hts (.fieldLink RX11 165 "ReplicaFilesModel" "thrown" "I") (mBc 58 rfl)
  have hl_211 := hts (.fieldLink RX11 211 "ReplicaFilesModel" "call" "I") (mBc 119 rfl)
  have hl_289 := hts (.fieldLink RX11 289 "ReplicaFilesModel" "set" "I") (mBc 188 rfl)
  have hc_336 := hts (.constantLong RX11 336 (-2199023255557)) (mBc 216 rfl)
  have hl := lv_entry ([.ref (A m_o), .int a1, .int a2, .int a3, .int a4]) (n := 11) (Nat.le_of_ble_eq_true rfl)
  rw [← hargs, lg_entry_eq, hargs]
  generalize (lg_sl ([.ref (A m_o), .int a1, .int a2, .int a3, .int a4]) ++ List.replicate (11 - (lg_sl ([.ref (A m_o), .int a1, .int a2, .int a3, .int a4])).length) Slot.unset).toArray = ls at hl ⊢
  have hl : lv_has ls 11 [(0, .ref (A m_o)), (1, .int a1), (2, .int a2), (3, .int a3), (4, .int a4)] := hl
  unfold f_X11_make at h
  refine lv_aload_n hx hb dX11_make_0 rfl (lv_at hl 0 rfl) ?_
  refine lv_iload_n hx hb dX11_make_1 rfl (lv_at hl 1 rfl) ?_
  obtain ⟨v2, hc1, h⟩ := o1_e h
  refine g_Si (As := [.int a1]) (rest := [.ref (A m_o)]) S X Z (t_X11_isClient l D dA A hJ  hc1) (va_cwS 1 hts (mGS (mB 91 rfl) (mB 92 rfl) (mB 63 rfl) (mB 64 rfl)) rfl rfl rfl (by decide +kernel) ⟨Nat.le_of_ble_eq_true rfl, Nat.le_of_ble_eq_true rfl⟩) rfl hl.1 rfl (Nat.le_of_ble_eq_true rfl) dX11_make_2 ⟨Nat.zero_le _, Nat.zero_le _⟩ (fun H locs Z => ?_)
  obtain ⟨J34, eJ34, h⟩ := jn_e h
  have hJ34 : ∀ (b3 : Int32) (M4 : gM) (H : Heap) (locs : List Loc) (ls : Array Slot), gZ D mLay dA mLive A (gA mLive A) s.heap M4 H locs → lv_has ls 11 [(0, .ref (A m_o)), (1, .int a1), (2, .int a2), (3, .int a3), (4, .int a4)] → J34 (b3, M4) = some y → W p l e (headSpec wmX11_make ({ frames := 5, cells := 0, slots := 0, locals := 129 } : Room)).room s m args below meth c H locs 0 0 (MQ below (mQl D dA A y) args s 0 0 (gA mLive A)) (F0 m 34 ls [.int b3, .ref (A m_o)]) := by
    intro b3 M4 H locs ls Z hl h
    rw [eJ34] at h
    try dsimp only at h
    refine mp_thrown S X Z hin hl_165 dX11_make_34 h (fun M5 H locs Z h => ?_)
    refine lv_aload_n hx hb dX11_make_37 rfl (lv_at hl 0 rfl) ?_
    refine mr_thrown S X Z hin hl_165 dX11_make_38 h (fun v6 h => ?_)
    refine lv_if_le (tgt := 46) hx hb dX11_make_41 (by decide) (fun c7 => ?_) (fun c7 => ?_)
    · have h := if_t c7 h
      refine lv_aload_n hx hb dX11_make_46 rfl (lv_at hl 0 rfl) ?_
      refine lv_iload_n hx hb dX11_make_47 rfl (lv_at hl 2 rfl) ?_
      refine lv_iconst (v := (1 : Int32)) hx hb dX11_make_48 (by decide) ?_
      obtain ⟨v9, hc8, h⟩ := o1_e h
      refine g_Vl (As := [.int a2, .int (1 : Int32)]) (rest := []) S X Z mlv_o rfl rfl (t_X11_kindOf l D dA A hJ  hc8) (cwV 2 hts (mGV (mB 177 rfl) (mB 178 rfl) (mB 179 rfl) (mB 63 rfl) (mB 66 rfl)) rfl rfl rfl (by decide +kernel) ⟨Nat.le_of_ble_eq_true rfl, Nat.le_of_ble_eq_true rfl⟩) rfl hl.1 rfl (Nat.le_of_ble_eq_true rfl) dX11_make_49 ⟨Nat.zero_le _, Nat.zero_le _⟩ (fun H locs Z => ?_)
      refine lv_lstore (lv' := [(5, .long v9), (0, .ref (A m_o)), (1, .int a1), (2, .int a2), (3, .int a3), (4, .int a4)]) hx hb dX11_make_52 hl (by decide) rfl (fun ls hl => ?_)
      refine lv_lload hx hb dX11_make_54 (lv_at hl 0 rfl) ?_
      refine lv_lconst (v := (0 : Int64)) hx hb dX11_make_56 (by decide) ?_
      refine W.lcmp hx hb dX11_make_57 ?_
      refine lv_if_eq (tgt := 64) hx hb dX11_make_58 (by decide) (fun c10 => ?_) (fun c10 => ?_)
      · have h := if_t c10 h
        refine lv_aload_n hx hb dX11_make_64 rfl (lv_at hl 1 rfl) ?_
        refine lv_dup hx hb dX11_make_65 rfl ?_
        refine mr_call S X Z hin hl_211 dX11_make_66 h (fun v11 h => ?_)
        refine lv_iconst (v := (1 : Int32)) hx hb dX11_make_69 (by decide) ?_
        refine lv_iadd hx hb dX11_make_70 ?_
        refine mp_call S X Z hin hl_211 dX11_make_71 h (fun M12 H locs Z h => ?_)
        refine lv_aload_n hx hb dX11_make_74 rfl (lv_at hl 1 rfl) ?_
        refine lv_iload_n hx hb dX11_make_75 rfl (lv_at hl 2 rfl) ?_
        obtain ⟨v14, hc13, h⟩ := o1_e h
        refine g_Vi (As := [.int a1]) (rest := []) S X Z mlv_o rfl rfl (t_X11_isAlone l D dA A hJ  hc13) (cwV 1 hts (mGV (mB 161 rfl) (mB 162 rfl) (mB 163 rfl) (mB 63 rfl) (mB 74 rfl)) rfl rfl rfl (by decide +kernel) ⟨Nat.le_of_ble_eq_true rfl, Nat.le_of_ble_eq_true rfl⟩) rfl hl.1 rfl (Nat.le_of_ble_eq_true rfl) dX11_make_76 ⟨Nat.zero_le _, Nat.zero_le _⟩ (fun H locs Z => ?_)
        refine lv_istore (lv' := [(7, .int v14), (5, .long v9), (0, .ref (A m_o)), (1, .int a1), (2, .int a2), (3, .int a3), (4, .int a4)]) hx hb dX11_make_79 hl (by decide) rfl (fun ls hl => ?_)
        refine lv_aload_n hx hb dX11_make_81 rfl (lv_at hl 2 rfl) ?_
        refine lv_iload_n hx hb dX11_make_82 rfl (lv_at hl 3 rfl) ?_
        refine lv_iload_n hx hb dX11_make_83 rfl (lv_at hl 4 rfl) ?_
        refine lv_bipush (v := (10 : Int32)) hx hb dX11_make_84 (by decide) ?_
        obtain ⟨v17, M16, hc15, h⟩ := ob_e h
        refine g_Vl (As := [.int a1, .int a2, .int (10 : Int32)]) (rest := []) S X Z mlv_o rfl rfl (t_X11_get l D dA A hJ  hc15) (cwV 3 hts (mGV (mB 180 rfl) (mB 181 rfl) (mB 182 rfl) (mB 63 rfl) (mB 176 rfl)) rfl rfl rfl (by decide +kernel) ⟨Nat.le_of_ble_eq_true rfl, Nat.le_of_ble_eq_true rfl⟩) rfl hl.1 rfl (Nat.le_of_ble_eq_true rfl) dX11_make_86 ⟨Nat.zero_le _, Nat.zero_le _⟩ (fun H locs Z => ?_)
        refine lv_lstore (lv' := [(8, .long v17), (7, .int v14), (5, .long v9), (0, .ref (A m_o)), (1, .int a1), (2, .int a2), (3, .int a3), (4, .int a4)]) hx hb dX11_make_89 hl (by decide) rfl (fun ls hl => ?_)
        refine lv_lload hx hb dX11_make_91 (lv_at hl 0 rfl) ?_
        refine lv_lconst (v := (0 : Int64)) hx hb dX11_make_93 (by decide) ?_
        refine W.lcmp hx hb dX11_make_94 ?_
        refine lv_if_eq (tgt := 101) hx hb dX11_make_95 (by decide) (fun c18 => ?_) (fun c18 => ?_)
        · have h := if_t c18 h
          refine lv_aload_n hx hb dX11_make_101 rfl (lv_at hl 3 rfl) ?_
          refine mr_made S X Z hin hl_162 dX11_make_102 h (fun v19 h => ?_)
          refine lv_bipush (v := (48 : Int32)) hx hb dX11_make_105 (by decide) ?_
          refine lv_icmp_ne (tgt := 114) hx hb dX11_make_107 (by decide) (fun c20 => ?_) (fun c20 => ?_)
          · have h := if_f c20 h
            refine lv_iload hx hb dX11_make_114 (lv_at hl 1 rfl) ?_
            refine lv_if_eq (tgt := 129) hx hb dX11_make_116 (by decide) (fun c21 => ?_) (fun c21 => ?_)
            · have h := if_t c21 h
              refine lv_aload_n hx hb dX11_make_129 rfl (lv_at hl 3 rfl) ?_
              refine lv_aload_n hx hb dX11_make_130 rfl (lv_at hl 3 rfl) ?_
              refine lv_aload_n hx hb dX11_make_131 rfl (lv_at hl 3 rfl) ?_
              refine lv_iload_n hx hb dX11_make_132 rfl (lv_at hl 4 rfl) ?_
              obtain ⟨v23, hc22, h⟩ := o1_e h
              refine g_Vi (As := [.int a1]) (rest := [.ref (A m_o), .ref (A m_o)]) S X Z mlv_o rfl rfl (t_X11_nearSet l D dA A hJ  hc22) (cwV 1 hts (mGV (mB 75 rfl) (mB 76 rfl) (mB 77 rfl) (mB 63 rfl) (mB 70 rfl)) rfl rfl rfl (by decide +kernel) ⟨Nat.le_of_ble_eq_true rfl, Nat.le_of_ble_eq_true rfl⟩) rfl hl.1 rfl (Nat.le_of_ble_eq_true rfl) dX11_make_133 ⟨Nat.zero_le _, Nat.zero_le _⟩ (fun H locs Z => ?_)
              refine lv_iload_n hx hb dX11_make_136 rfl (lv_at hl 5 rfl) ?_
              refine lv_aload_n hx hb dX11_make_137 rfl (lv_at hl 3 rfl) ?_
              refine mr_gotVector S X Z hin hl_116 dX11_make_138 ?_
              obtain ⟨v25, hc24, h⟩ := o1_e h
              refine g_Vi (As := [.int v23, .int a2, .ref (A m_gotVector)]) (rest := [.ref (A m_o)]) S X Z mlv_o rfl rfl (t_X11_setOf l D dA A hJ ⟨ml_gotVector, rfl⟩ hc24) (cwV 3 hts (mGV (mB 228 rfl) (mB 229 rfl) (mB 230 rfl) (mB 63 rfl) (mB 185 rfl)) rfl rfl rfl (by decide +kernel) ⟨Nat.le_of_ble_eq_true rfl, Nat.le_of_ble_eq_true rfl⟩) rfl hl.1 rfl (Nat.le_of_ble_eq_true rfl) dX11_make_141 ⟨Nat.zero_le _, Nat.zero_le _⟩ (fun H locs Z => ?_)
              refine mp_set S X Z hin hl_289 dX11_make_144 h (fun M26 H locs Z h => ?_)
              refine lv_aload_n hx hb dX11_make_147 rfl (lv_at hl 3 rfl) ?_
              refine lv_iload_n hx hb dX11_make_148 rfl (lv_at hl 5 rfl) ?_
              refine lv_iload_n hx hb dX11_make_149 rfl (lv_at hl 6 rfl) ?_
              refine lv_iload hx hb dX11_make_150 (lv_at hl 7 rfl) ?_
              obtain ⟨v29, M28, hc27, h⟩ := ob_e h
              refine g_Vi (As := [.int a2, .int a3, .int a4]) (rest := []) S X Z mlv_o rfl rfl (t_X11_newObject l D dA A hJ  hc27) (cwV 3 hts (mGV (mB 242 rfl) (mB 243 rfl) (mB 244 rfl) (mB 63 rfl) (mB 240 rfl)) rfl rfl rfl (by decide +kernel) ⟨Nat.le_of_ble_eq_true rfl, Nat.le_of_ble_eq_true rfl⟩) rfl hl.1 rfl (Nat.le_of_ble_eq_true rfl) dX11_make_152 ⟨Nat.zero_le _, Nat.zero_le _⟩ (fun H locs Z => ?_)
              refine lv_istore (lv' := [(10, .int v29), (8, .long v17), (7, .int v14), (5, .long v9), (0, .ref (A m_o)), (1, .int a1), (2, .int a2), (3, .int a3), (4, .int a4)]) hx hb dX11_make_155 hl (by decide) rfl (fun ls hl => ?_)
              refine lv_aload_n hx hb dX11_make_157 rfl (lv_at hl 4 rfl) ?_
              refine lv_iload_n hx hb dX11_make_158 rfl (lv_at hl 6 rfl) ?_
              refine lv_iload hx hb dX11_make_159 (lv_at hl 0 rfl) ?_
              obtain ⟨M31, hc30, h⟩ := o1_e h
              refine g_Vv (As := [.int a2, .int v29]) (rest := []) S X Z mlv_o rfl rfl (t_X11_putEntry l D dA A hJ  hc30) (cwV 2 hts (mGV (mB 252 rfl) (mB 253 rfl) (mB 254 rfl) (mB 63 rfl) (mB 205 rfl)) rfl rfl rfl (by decide +kernel) ⟨Nat.le_of_ble_eq_true rfl, Nat.le_of_ble_eq_true rfl⟩) rfl hl.1 rfl (Nat.le_of_ble_eq_true rfl) dX11_make_161 ⟨Nat.zero_le _, Nat.zero_le _⟩ (fun H locs Z => ?_)
              refine lv_aload_n hx hb dX11_make_164 rfl (lv_at hl 4 rfl) ?_
              refine mr_kept S X Z hin hl_65 dX11_make_165 ?_
              refine lv_bipush (v := (48 : Int32)) hx hb dX11_make_168 (by decide) ?_
              refine lv_iload_n hx hb dX11_make_170 rfl (lv_at hl 5 rfl) ?_
              refine lv_imul hx hb dX11_make_171 ?_
              refine lv_iload_n hx hb dX11_make_172 rfl (lv_at hl 6 rfl) ?_
              refine lv_iadd hx hb dX11_make_173 ?_
              refine g_zald S X Z ml_kept rfl dX11_make_174 h (fun v32 h => ?_)
              obtain ⟨J191, eJ191, h⟩ := jn_e h
              have hJ191 : ∀ (M33 : gM) (H : Heap) (locs : List Loc) (ls : Array Slot), gZ D mLay dA mLive A (gA mLive A) s.heap M33 H locs → lv_has ls 11 [(0, .ref (A m_o)), (1, .int a1), (2, .int a2), (10, .int v29)] → J191 M33 = some y → W p l e (headSpec wmX11_make ({ frames := 5, cells := 0, slots := 0, locals := 129 } : Room)).room s m args below meth c H locs 0 0 (MQ below (mQl D dA A y) args s 0 0 (gA mLive A)) (F0 m 191 ls []) := by
                intro M33 H locs ls Z hl h
                rw [eJ191] at h
                try dsimp only at h
                refine lv_aload_n hx hb dX11_make_191 rfl (lv_at hl 0 rfl) ?_
                refine lv_iload_n hx hb dX11_make_192 rfl (lv_at hl 1 rfl) ?_
                refine lv_iload_n hx hb dX11_make_193 rfl (lv_at hl 2 rfl) ?_
                obtain ⟨M35, hc34, h⟩ := o1_e h
                refine g_Vv (As := [.int a1, .int a2]) (rest := []) S X Z mlv_o rfl rfl (t_X11_follow l D dA A hJ  hc34) (cwV 2 hts (mGV (mB 234 rfl) (mB 235 rfl) (mB 236 rfl) (mB 63 rfl) (mB 210 rfl)) rfl rfl rfl (by decide +kernel) ⟨Nat.le_of_ble_eq_true rfl, Nat.le_of_ble_eq_true rfl⟩) rfl hl.1 rfl (Nat.le_of_ble_eq_true rfl) dX11_make_194 ⟨Nat.zero_le _, Nat.zero_le _⟩ (fun H locs Z => ?_)
                refine lv_aload_n hx hb dX11_make_197 rfl (lv_at hl 0 rfl) ?_
                refine lv_iload_n hx hb dX11_make_198 rfl (lv_at hl 1 rfl) ?_
                refine lv_aload_n hx hb dX11_make_199 rfl (lv_at hl 0 rfl) ?_
                refine lv_iload hx hb dX11_make_200 (lv_at hl 3 rfl) ?_
                refine lv_iconst (v := (0 : Int32)) hx hb dX11_make_202 (by decide) ?_
                obtain ⟨v37, hc36, h⟩ := o1_e h
                refine g_Vi (As := [.int v29, .int (0 : Int32)]) (rest := [.int a1, .ref (A m_o)]) S X Z mlv_o rfl rfl (t_X11_weight l D dA A hJ  hc36) (cwV 2 hts (mGV (mB 114 rfl) (mB 115 rfl) (mB 116 rfl) (mB 63 rfl) (mB 112 rfl)) rfl rfl rfl (by decide +kernel) ⟨Nat.le_of_ble_eq_true rfl, Nat.le_of_ble_eq_true rfl⟩) rfl hl.1 rfl (Nat.le_of_ble_eq_true rfl) dX11_make_203 ⟨Nat.zero_le _, Nat.zero_le _⟩ (fun H locs Z => ?_)
                refine lv_iload hx hb dX11_make_206 (lv_at hl 3 rfl) ?_
                refine lv_bipush (v := (10 : Int32)) hx hb dX11_make_208 (by decide) ?_
                obtain ⟨v40, M39, hc38, h⟩ := ob_e h
                refine g_Vi (As := [.int a1, .int v37, .int v29, .int (10 : Int32)]) (rest := []) S X Z mlv_o rfl rfl (t_X11_makeRoom l D dA A hJ  hc38) (cwV 4 hts (mGV (mB 147 rfl) (mB 148 rfl) (mB 149 rfl) (mB 63 rfl) (mB 135 rfl)) rfl rfl rfl (by decide +kernel) ⟨Nat.le_of_ble_eq_true rfl, Nat.le_of_ble_eq_true rfl⟩) rfl hl.1 rfl (Nat.le_of_ble_eq_true rfl) dX11_make_210 ⟨Nat.zero_le _, Nat.zero_le _⟩ (fun H locs Z => ?_)
                refine lv_if_eq (tgt := 239) hx hb dX11_make_213 (by decide) (fun c41 => ?_) (fun c41 => ?_)
                · have h := if_t c41 h
                  refine lv_iload hx hb dX11_make_239 (lv_at hl 3 rfl) ?_
                  refine lv_i2l hx hb dX11_make_241 rfl ?_
                  have hy := Option.some.inj h
                  subst hy
                  exact g_rl S Z hr hlocks dX11_make_242
                · have h := if_f c41 h
                  refine lv_aload_n hx hb dX11_make_216 rfl (lv_at hl 0 rfl) ?_
                  refine lv_iload_n hx hb dX11_make_217 rfl (lv_at hl 1 rfl) ?_
                  refine lv_iload hx hb dX11_make_218 (lv_at hl 3 rfl) ?_
                  obtain ⟨M43, hc42, h⟩ := o1_e h
                  refine g_Vv (As := [.int a1, .int v29]) (rest := []) S X Z mlv_o rfl rfl (t_X11_keepNew l D dA A hJ  hc42) (cwV 2 hts (mGV (mB 245 rfl) (mB 246 rfl) (mB 247 rfl) (mB 63 rfl) (mB 241 rfl)) rfl rfl rfl (by decide +kernel) ⟨Nat.le_of_ble_eq_true rfl, Nat.le_of_ble_eq_true rfl⟩) rfl hl.1 rfl (Nat.le_of_ble_eq_true rfl) dX11_make_220 ⟨Nat.zero_le _, Nat.zero_le _⟩ (fun H locs Z => ?_)
                  refine lv_aload_n hx hb dX11_make_223 rfl (lv_at hl 0 rfl) ?_
                  refine mr_promised S X Z hin hl_77 dX11_make_224 ?_
                  refine lv_bipush (v := (48 : Int32)) hx hb dX11_make_227 (by decide) ?_
                  refine lv_iload_n hx hb dX11_make_229 rfl (lv_at hl 1 rfl) ?_
                  refine lv_imul hx hb dX11_make_230 ?_
                  refine lv_iload hx hb dX11_make_231 (lv_at hl 3 rfl) ?_
                  refine lv_iadd hx hb dX11_make_233 ?_
                  refine lv_aload_n hx hb dX11_make_234 rfl (lv_at hl 0 rfl) ?_
                  refine mr_set S X Z hin hl_289 dX11_make_235 h (fun v44 h => ?_)
                  refine g_iast S X Z ml_promised rfl dX11_make_238 h (fun M45 H locs Z h => ?_)
                  refine lv_iload hx hb dX11_make_239 (lv_at hl 3 rfl) ?_
                  refine lv_i2l hx hb dX11_make_241 rfl ?_
                  have hy := Option.some.inj h
                  subst hy
                  exact g_rl S Z hr hlocks dX11_make_242
              refine lv_if_eq (tgt := 191) hx hb dX11_make_175 (by decide) (fun c46 => ?_) (fun c46 => ?_)
              · have h := if_t c46 h
                exact hJ191 M31 _ _ _ Z (lv_sub hl [4, 5, 6, 0] rfl) h
              · have h := if_f c46 h
                refine lv_aload_n hx hb dX11_make_178 rfl (lv_at hl 4 rfl) ?_
                refine mr_keptEntry S X Z hin hl_89 dX11_make_179 ?_
                refine lv_bipush (v := (48 : Int32)) hx hb dX11_make_182 (by decide) ?_
                refine lv_iload_n hx hb dX11_make_184 rfl (lv_at hl 5 rfl) ?_
                refine lv_imul hx hb dX11_make_185 ?_
                refine lv_iload hx hb dX11_make_186 (lv_at hl 0 rfl) ?_
                refine lv_iadd hx hb dX11_make_188 ?_
                refine lv_iconst (v := (1 : Int32)) hx hb dX11_make_189 (by decide) ?_
                refine g_iast S X Z ml_keptEntry rfl dX11_make_190 h (fun M47 H locs Z h => ?_)
                exact hJ191 M47 _ _ _ Z (lv_sub hl [4, 5, 6, 0] rfl) h
            · have h := if_f c21 h
              refine lv_aload_n hx hb dX11_make_119 rfl (lv_at hl 3 rfl) ?_
              refine lv_iload_n hx hb dX11_make_120 rfl (lv_at hl 4 rfl) ?_
              refine lv_iload_n hx hb dX11_make_121 rfl (lv_at hl 5 rfl) ?_
              refine lv_iload_n hx hb dX11_make_122 rfl (lv_at hl 6 rfl) ?_
              refine lv_iload hx hb dX11_make_123 (lv_at hl 7 rfl) ?_
              obtain ⟨v50, M49, hc48, h⟩ := ob_e h
              refine g_Vl (As := [.int a1, .int a2, .int a3, .int a4]) (rest := []) S X Z mlv_o rfl rfl (t_X11_makeAlone l D dA A hJ  hc48) (cwV 4 hts (mGV (mB 249 rfl) (mB 250 rfl) (mB 251 rfl) (mB 63 rfl) (mB 248 rfl)) rfl rfl rfl (by decide +kernel) ⟨Nat.le_of_ble_eq_true rfl, Nat.le_of_ble_eq_true rfl⟩) rfl hl.1 rfl (Nat.le_of_ble_eq_true rfl) dX11_make_125 ⟨Nat.zero_le _, Nat.zero_le _⟩ (fun H locs Z => ?_)
              have hy := Option.some.inj h
              subst hy
              exact g_rl S Z hr hlocks dX11_make_128
          · have h := if_t c20 h
            refine lv_ldc2 hx hb hown hc_336 dX11_make_110 ?_
            have hy := Option.some.inj h
            subst hy
            exact g_rl S Z hr hlocks dX11_make_113
        · have h := if_f c18 h
          refine lv_lload hx hb dX11_make_98 (lv_at hl 0 rfl) ?_
          have hy := Option.some.inj h
          subst hy
          exact g_rl S Z hr hlocks dX11_make_100
      · have h := if_f c10 h
        refine lv_lload hx hb dX11_make_61 (lv_at hl 0 rfl) ?_
        have hy := Option.some.inj h
        subst hy
        exact g_rl S Z hr hlocks dX11_make_63
    · have h := if_f c7 h
      refine lv_lconst (v := (0 : Int64)) hx hb dX11_make_44 (by decide) ?_
      have hy := Option.some.inj h
      subst hy
      exact g_rl S Z hr hlocks dX11_make_45
  obtain ⟨J15, eJ15, h⟩ := jn_e h
  have hJ15 : ∀ (M51 : gM) (H : Heap) (locs : List Loc) (ls : Array Slot), gZ D mLay dA mLive A (gA mLive A) s.heap M51 H locs → lv_has ls 11 [(0, .ref (A m_o)), (1, .int a1), (2, .int a2), (3, .int a3), (4, .int a4)] → J15 M51 = some y → W p l e (headSpec wmX11_make ({ frames := 5, cells := 0, slots := 0, locals := 129 } : Room)).room s m args below meth c H locs 0 0 (MQ below (mQl D dA A y) args s 0 0 (gA mLive A)) (F0 m 15 ls [.ref (A m_o)]) := by
    intro M51 H locs ls Z hl h
    rw [eJ15] at h
    try dsimp only at h
    refine lv_iconst (v := (1 : Int32)) hx hb dX11_make_15 (by decide) ?_
    refine lv_goto (tgt := 34) hx hb dX11_make_16 (by decide) ?_
    exact hJ34 (1 : Int32) M51 _ _ _ Z (lv_sub hl [0, 1, 2, 3, 4] rfl) h
  refine lv_if_eq (tgt := 15) hx hb dX11_make_5 (by decide) (fun c52 => ?_) (fun c52 => ?_)
  · have h := if_t c52 h
    exact hJ15 M _ _ _ Z (lv_sub hl [0, 1, 2, 3, 4] rfl) h
  · have h := if_f c52 h
    refine lv_iload_n hx hb dX11_make_8 rfl (lv_at hl 2 rfl) ?_
    obtain ⟨v54, hc53, h⟩ := o1_e h
    refine g_Si (As := [.int a2]) (rest := [.ref (A m_o)]) S X Z (t_X11_isObject l D dA A hJ  hc53) (va_cwS 1 hts (mGS (mB 93 rfl) (mB 94 rfl) (mB 63 rfl) (mB 65 rfl)) rfl rfl rfl (by decide +kernel) ⟨Nat.le_of_ble_eq_true rfl, Nat.le_of_ble_eq_true rfl⟩) rfl hl.1 rfl (Nat.le_of_ble_eq_true rfl) dX11_make_9 ⟨Nat.zero_le _, Nat.zero_le _⟩ (fun H locs Z => ?_)
    refine lv_if_ne (tgt := 19) hx hb dX11_make_12 (by decide) (fun c55 => ?_) (fun c55 => ?_)
    · have h := if_f c55 h
      refine lv_iload_n hx hb dX11_make_19 rfl (lv_at hl 3 rfl) ?_
      refine lv_iconst (v := (0 : Int32)) hx hb dX11_make_20 (by decide) ?_
      refine lv_bipush (v := (15 : Int32)) hx hb dX11_make_21 (by decide) ?_
      obtain ⟨v57, hc56, h⟩ := o1_e h
      refine g_Si (As := [.int a3, .int (0 : Int32), .int (15 : Int32)]) (rest := [.ref (A m_o)]) S X Z (t_X11_in l D dA A hJ  hc56) (va_cwS 3 hts (mGS (mB 61 rfl) (mB 62 rfl) (mB 63 rfl) (mB 59 rfl)) rfl rfl rfl (by decide +kernel) ⟨Nat.le_of_ble_eq_true rfl, Nat.le_of_ble_eq_true rfl⟩) rfl hl.1 rfl (Nat.le_of_ble_eq_true rfl) dX11_make_23 ⟨Nat.zero_le _, Nat.zero_le _⟩ (fun H locs Z => ?_)
      refine lv_if_eq (tgt := 33) hx hb dX11_make_26 (by decide) (fun c58 => ?_) (fun c58 => ?_)
      · have h := if_t c58 h
        refine lv_iconst (v := (2 : Int32)) hx hb dX11_make_33 (by decide) ?_
        exact hJ34 (2 : Int32) M _ _ _ Z (lv_sub hl [0, 1, 2, 3, 4] rfl) h
      · have h := if_f c58 h
        refine lv_iconst (v := (0 : Int32)) hx hb dX11_make_29 (by decide) ?_
        refine lv_goto (tgt := 34) hx hb dX11_make_30 (by decide) ?_
        exact hJ34 (0 : Int32) M _ _ _ Z (lv_sub hl [0, 1, 2, 3, 4] rfl) h
    · have h := if_t c55 h
      exact hJ15 M _ _ _ Z (lv_sub hl [0, 1, 2, 3, 4] rfl) h
-- X11_takeOut (II)V: 71 instructions
theorem dX11_takeOut_0 : decode cX11_takeOut 0 = .ok (.iload_n 2, 1) := by decide +kernel
theorem dX11_takeOut_1 : decode cX11_takeOut 1 = .ok (.iconst (-1), 1) := by decide +kernel
theorem dX11_takeOut_2 : decode cX11_takeOut 2 = .ok (.if_icmp .ne 4, 3) := by decide +kernel
theorem dX11_takeOut_5 : decode cX11_takeOut 5 = .ok (.return_, 1) := by decide +kernel
theorem dX11_takeOut_6 : decode cX11_takeOut 6 = .ok (.iload_n 2, 1) := by decide +kernel
theorem dX11_takeOut_7 : decode cX11_takeOut 7 = .ok (.istore_n 3, 1) := by decide +kernel
theorem dX11_takeOut_8 : decode cX11_takeOut 8 = .ok (.iload_n 3, 1) := by decide +kernel
theorem dX11_takeOut_9 : decode cX11_takeOut 9 = .ok (.aload_n 0, 1) := by decide +kernel
theorem dX11_takeOut_10 : decode cX11_takeOut 10 = .ok (.getfield 98, 3) := by decide +kernel
theorem dX11_takeOut_13 : decode cX11_takeOut 13 = .ok (.iload_n 1, 1) := by decide +kernel
theorem dX11_takeOut_14 : decode cX11_takeOut 14 = .ok (.iaload, 1) := by decide +kernel
theorem dX11_takeOut_15 : decode cX11_takeOut 15 = .ok (.iconst 1, 1) := by decide +kernel
theorem dX11_takeOut_16 : decode cX11_takeOut 16 = .ok (.isub, 1) := by decide +kernel
theorem dX11_takeOut_17 : decode cX11_takeOut 17 = .ok (.if_icmp .ge 83, 3) := by decide +kernel
theorem dX11_takeOut_20 : decode cX11_takeOut 20 = .ok (.bipush 12, 2) := by decide +kernel
theorem dX11_takeOut_22 : decode cX11_takeOut 22 = .ok (.iload_n 1, 1) := by decide +kernel
theorem dX11_takeOut_23 : decode cX11_takeOut 23 = .ok (.imul, 1) := by decide +kernel
theorem dX11_takeOut_24 : decode cX11_takeOut 24 = .ok (.iload_n 3, 1) := by decide +kernel
theorem dX11_takeOut_25 : decode cX11_takeOut 25 = .ok (.iadd, 1) := by decide +kernel
theorem dX11_takeOut_26 : decode cX11_takeOut 26 = .ok (.istore 4, 2) := by decide +kernel
theorem dX11_takeOut_28 : decode cX11_takeOut 28 = .ok (.aload_n 0, 1) := by decide +kernel
theorem dX11_takeOut_29 : decode cX11_takeOut 29 = .ok (.getfield 101, 3) := by decide +kernel
theorem dX11_takeOut_32 : decode cX11_takeOut 32 = .ok (.iload 4, 2) := by decide +kernel
theorem dX11_takeOut_34 : decode cX11_takeOut 34 = .ok (.aload_n 0, 1) := by decide +kernel
theorem dX11_takeOut_35 : decode cX11_takeOut 35 = .ok (.getfield 101, 3) := by decide +kernel
theorem dX11_takeOut_38 : decode cX11_takeOut 38 = .ok (.iload 4, 2) := by decide +kernel
theorem dX11_takeOut_40 : decode cX11_takeOut 40 = .ok (.iconst 1, 1) := by decide +kernel
theorem dX11_takeOut_41 : decode cX11_takeOut 41 = .ok (.iadd, 1) := by decide +kernel
theorem dX11_takeOut_42 : decode cX11_takeOut 42 = .ok (.iaload, 1) := by decide +kernel
theorem dX11_takeOut_43 : decode cX11_takeOut 43 = .ok (.iastore, 1) := by decide +kernel
theorem dX11_takeOut_44 : decode cX11_takeOut 44 = .ok (.aload_n 0, 1) := by decide +kernel
theorem dX11_takeOut_45 : decode cX11_takeOut 45 = .ok (.getfield 104, 3) := by decide +kernel
theorem dX11_takeOut_48 : decode cX11_takeOut 48 = .ok (.iload 4, 2) := by decide +kernel
theorem dX11_takeOut_50 : decode cX11_takeOut 50 = .ok (.aload_n 0, 1) := by decide +kernel
theorem dX11_takeOut_51 : decode cX11_takeOut 51 = .ok (.getfield 104, 3) := by decide +kernel
theorem dX11_takeOut_54 : decode cX11_takeOut 54 = .ok (.iload 4, 2) := by decide +kernel
theorem dX11_takeOut_56 : decode cX11_takeOut 56 = .ok (.iconst 1, 1) := by decide +kernel
theorem dX11_takeOut_57 : decode cX11_takeOut 57 = .ok (.iadd, 1) := by decide +kernel
theorem dX11_takeOut_58 : decode cX11_takeOut 58 = .ok (.iaload, 1) := by decide +kernel
theorem dX11_takeOut_59 : decode cX11_takeOut 59 = .ok (.iastore, 1) := by decide +kernel
theorem dX11_takeOut_60 : decode cX11_takeOut 60 = .ok (.aload_n 0, 1) := by decide +kernel
theorem dX11_takeOut_61 : decode cX11_takeOut 61 = .ok (.getfield 107, 3) := by decide +kernel
theorem dX11_takeOut_64 : decode cX11_takeOut 64 = .ok (.iload 4, 2) := by decide +kernel
theorem dX11_takeOut_66 : decode cX11_takeOut 66 = .ok (.aload_n 0, 1) := by decide +kernel
theorem dX11_takeOut_67 : decode cX11_takeOut 67 = .ok (.getfield 107, 3) := by decide +kernel
theorem dX11_takeOut_70 : decode cX11_takeOut 70 = .ok (.iload 4, 2) := by decide +kernel
theorem dX11_takeOut_72 : decode cX11_takeOut 72 = .ok (.iconst 1, 1) := by decide +kernel
theorem dX11_takeOut_73 : decode cX11_takeOut 73 = .ok (.iadd, 1) := by decide +kernel
theorem dX11_takeOut_74 : decode cX11_takeOut 74 = .ok (.iaload, 1) := by decide +kernel
theorem dX11_takeOut_75 : decode cX11_takeOut 75 = .ok (.iastore, 1) := by decide +kernel
theorem dX11_takeOut_76 : decode cX11_takeOut 76 = .ok (.aload_n 0, 1) := by decide +kernel
theorem dX11_takeOut_77 : decode cX11_takeOut 77 = .ok (.aload_n 0, 1) := by decide +kernel
theorem dX11_takeOut_78 : decode cX11_takeOut 78 = .ok (.getfield 110, 3) := by decide +kernel
theorem dX11_takeOut_81 : decode cX11_takeOut 81 = .ok (.iload 4, 2) := by decide +kernel
theorem dX11_takeOut_83 : decode cX11_takeOut 83 = .ok (.iconst 1, 1) := by decide +kernel
theorem dX11_takeOut_84 : decode cX11_takeOut 84 = .ok (.iadd, 1) := by decide +kernel
theorem dX11_takeOut_85 : decode cX11_takeOut 85 = .ok (.aload_n 0, 1) := by decide +kernel
theorem dX11_takeOut_86 : decode cX11_takeOut 86 = .ok (.getfield 110, 3) := by decide +kernel
theorem dX11_takeOut_89 : decode cX11_takeOut 89 = .ok (.iload 4, 2) := by decide +kernel
theorem dX11_takeOut_91 : decode cX11_takeOut 91 = .ok (.invokevirtual 234, 3) := by decide +kernel
theorem dX11_takeOut_94 : decode cX11_takeOut 94 = .ok (.iinc 3 1, 3) := by decide +kernel
theorem dX11_takeOut_97 : decode cX11_takeOut 97 = .ok (.goto (-89), 3) := by decide +kernel
theorem dX11_takeOut_100 : decode cX11_takeOut 100 = .ok (.aload_n 0, 1) := by decide +kernel
theorem dX11_takeOut_101 : decode cX11_takeOut 101 = .ok (.getfield 98, 3) := by decide +kernel
theorem dX11_takeOut_104 : decode cX11_takeOut 104 = .ok (.iload_n 1, 1) := by decide +kernel
theorem dX11_takeOut_105 : decode cX11_takeOut 105 = .ok (.dup2, 1) := by decide +kernel
theorem dX11_takeOut_106 : decode cX11_takeOut 106 = .ok (.iaload, 1) := by decide +kernel
theorem dX11_takeOut_107 : decode cX11_takeOut 107 = .ok (.iconst 1, 1) := by decide +kernel
theorem dX11_takeOut_108 : decode cX11_takeOut 108 = .ok (.isub, 1) := by decide +kernel
theorem dX11_takeOut_109 : decode cX11_takeOut 109 = .ok (.iastore, 1) := by decide +kernel
theorem dX11_takeOut_110 : decode cX11_takeOut 110 = .ok (.return_, 1) := by decide +kernel
abbrev wmX11_takeOut : List Cond := .code yX11_takeOut cX11_takeOut 5 none :: mBig
def f_X11_takeOut_L8 (a1 : Int32) (J100 : gM → Option gM) : Nat → Int32 → gM → Option gM
  | 0, _, _ => none
  | n7 + 1, x5, M6 => rd M6 m_records 4 a1 (fun v8 => (if (v8 - (1 : Int32)) ≤ x5 then J100 M6 else lt ((((12 : Int32) * a1) + x5)) (fun x10 => rd M6 m_recordKind 48 (x10 + (1 : Int32)) (fun v11 => wr M6 m_recordKind 48 x10 v11 (fun M12 => rd M12 m_recordObject 48 (x10 + (1 : Int32)) (fun v13 => wr M12 m_recordObject 48 x10 v13 (fun M14 => rd M14 m_recordDirectory 48 (x10 + (1 : Int32)) (fun v15 => wr M14 m_recordDirectory 48 x10 v15 (fun M16 => o1 (f_X11_copyTo M16 m_recordVector (x10 + (1 : Int32)) m_recordVector x10) (fun M18 => lt (x5 + 1) (fun x19 => f_X11_takeOut_L8 a1 J100 n7 x19 M18)))))))))))
def f_X11_takeOut (M : gM) (a1 : Int32) (a2 : Int32) : Option gM :=
  (if a2 = (-1 : Int32) then some M else jn (fun (M2 : gM) => rd M2 m_records 4 a1 (fun v3 => wr M2 m_records 4 a1 (v3 - (1 : Int32)) (fun M4 => some M4))) (fun J100 => f_X11_takeOut_L8 a1 J100 100 a2 M))
set_option maxHeartbeats 4000000 in
set_option maxRecDepth 100000 in
theorem t_X11_takeOut (l : Launch) (D : va_G) (dA : Nat → ClassId) (A : gI → Nat) (hJ : gJ mLive A) {M : gM} {a1 : Int32} {a2 : Int32}  {y : gM} (h : f_X11_takeOut M a1 a2 = some y) : mMv l yX11_takeOut wmX11_takeOut ({ frames := 1, cells := 0, slots := 0, locals := 25 } : Room) D dA A [.ref (A m_o), .int a1, .int a2] M y := by
  refine Met.ofW (cc := cX11_takeOut) (maxL := 5) (ret := none) (by decide) rfl ?_
  intro p e s m args below meth c s₁ B hml hv
  obtain ⟨rfl, hP, hK⟩ := hv
  generalize hargs : ([.ref (A m_o), .int a1, .int a2] : List Value).toArray = args at B ⊢
  have S : CallFix p m c cX11_takeOut 5 s args wmX11_takeOut RX11 := ⟨B.exec, B.bytes, hml, findClass_of_methodNamed B.named, atoms_spec (ws := wmX11_takeOut) B.pre⟩
  obtain ⟨hx, hb, -, hown, hts⟩ := id S
  have hr := B.returns
  have hlocks := B.notSynchronized
  have X : gX D vwCl dA mLive A (gA mLive A) s := ⟨hK, hJ, fun i hi => ⟨i, hi, rfl⟩⟩
  have Z : gZ D mLay dA mLive A (gA mLive A) s.heap M s.heap [] := ⟨hP, va_S.rf⟩
  have hin : ∀ w ∈ wsX110, w ∈ wmX11_takeOut := m_in
  have hl_98 := hts (.fieldLink RX11 98 "ReplicaFilesModel" "records" "[I") (mBc 34 rfl)
  have hl_101 := hts (.fieldLink RX11 101 "ReplicaFilesModel" "recordKind" "[I") (mBc 35 rfl)
  have hl_104 := hts (.fieldLink RX11 104 "ReplicaFilesModel" "recordObject" "[I") (mBc 36 rfl)
  have hl_107 := hts (.fieldLink RX11 107 "ReplicaFilesModel" "recordDirectory" "[I") (mBc 37 rfl)
  have hl_110 := hts (.fieldLink RX11 110 "ReplicaFilesModel" "recordVector" "[I") (mBc 38 rfl)
  have hl := lv_entry ([.ref (A m_o), .int a1, .int a2]) (n := 5) (Nat.le_of_ble_eq_true rfl)
  rw [← hargs, lg_entry_eq, hargs]
  generalize (lg_sl ([.ref (A m_o), .int a1, .int a2]) ++ List.replicate (5 - (lg_sl ([.ref (A m_o), .int a1, .int a2])).length) Slot.unset).toArray = ls at hl ⊢
  have hl : lv_has ls 5 [(0, .ref (A m_o)), (1, .int a1), (2, .int a2)] := hl
  unfold f_X11_takeOut at h
  refine lv_iload_n hx hb dX11_takeOut_0 rfl (lv_at hl 2 rfl) ?_
  refine lv_iconst (v := (-1 : Int32)) hx hb dX11_takeOut_1 (by decide) ?_
  refine lv_icmp_ne (tgt := 6) hx hb dX11_takeOut_2 (by decide) (fun c1 => ?_) (fun c1 => ?_)
  · have h := if_f c1 h
    refine lv_iload_n hx hb dX11_takeOut_6 rfl (lv_at hl 2 rfl) ?_
    refine lv_istore_n (lv' := [(3, .int a2), (0, .ref (A m_o)), (1, .int a1), (2, .int a2)]) hx hb dX11_takeOut_7 rfl hl (by decide) rfl (fun ls hl => ?_)
    obtain ⟨J100, eJ100, h⟩ := jn_e h
    have hJ100 : ∀ (M2 : gM) (H : Heap) (locs : List Loc) (ls : Array Slot), gZ D mLay dA mLive A (gA mLive A) s.heap M2 H locs → lv_has ls 5 [(0, .ref (A m_o)), (1, .int a1)] → J100 M2 = some y → W p l e (headSpec wmX11_takeOut ({ frames := 1, cells := 0, slots := 0, locals := 25 } : Room)).room s m args below meth c H locs 0 0 (MQ below (mQv D dA A y) args s 0 0 (gA mLive A)) (F0 m 100 ls []) := by
      intro M2 H locs ls Z hl h
      rw [eJ100] at h
      try dsimp only at h
      refine lv_aload_n hx hb dX11_takeOut_100 rfl (lv_at hl 0 rfl) ?_
      refine mr_records S X Z hin hl_98 dX11_takeOut_101 ?_
      refine lv_iload_n hx hb dX11_takeOut_104 rfl (lv_at hl 1 rfl) ?_
      refine lv_dup2_11 hx hb dX11_takeOut_105 rfl rfl ?_
      refine g_iald S X Z ml_records rfl dX11_takeOut_106 h (fun v3 h => ?_)
      refine lv_iconst (v := (1 : Int32)) hx hb dX11_takeOut_107 (by decide) ?_
      refine lv_isub hx hb dX11_takeOut_108 ?_
      refine g_iast S X Z ml_records rfl dX11_takeOut_109 h (fun M4 H locs Z h => ?_)
      have hy := Option.some.inj h
      subst hy
      exact g_rv S Z hr hlocks dX11_takeOut_110
    have hL8 : ∀ (n : Nat) (x5 : Int32) (M6 : gM) (H : Heap) (locs : List Loc) (ls : Array Slot), gZ D mLay dA mLive A (gA mLive A) s.heap M6 H locs → lv_has ls 5 [(0, .ref (A m_o)), (1, .int a1), (3, .int x5)] → f_X11_takeOut_L8 a1 J100 n x5 M6 = some y → W p l e (headSpec wmX11_takeOut ({ frames := 1, cells := 0, slots := 0, locals := 25 } : Room)).room s m args below meth c H locs 0 0 (MQ below (mQv D dA A y) args s 0 0 (gA mLive A)) (F0 m 8 ls []) := by
      intro n
      induction n with
      | zero =>
        intro x5 M6 H locs ls Z hl h
        rw [f_X11_takeOut_L8] at h
        cases h
      | succ n7 ih8 =>
        intro x5 M6 H locs ls Z hl h
        rw [f_X11_takeOut_L8] at h
        refine lv_iload_n hx hb dX11_takeOut_8 rfl (lv_at hl 2 rfl) ?_
        refine lv_aload_n hx hb dX11_takeOut_9 rfl (lv_at hl 0 rfl) ?_
        refine mr_records S X Z hin hl_98 dX11_takeOut_10 ?_
        refine lv_iload_n hx hb dX11_takeOut_13 rfl (lv_at hl 1 rfl) ?_
        refine g_iald S X Z ml_records rfl dX11_takeOut_14 h (fun v8 h => ?_)
        refine lv_iconst (v := (1 : Int32)) hx hb dX11_takeOut_15 (by decide) ?_
        refine lv_isub hx hb dX11_takeOut_16 ?_
        refine lv_icmp_ge (tgt := 100) hx hb dX11_takeOut_17 (by decide) (fun c9 => ?_) (fun c9 => ?_)
        · have h := if_t c9 h
          exact hJ100 M6 _ _ _ Z (lv_sub hl [0, 1] rfl) h
        · have h := if_f c9 h
          refine lv_bipush (v := (12 : Int32)) hx hb dX11_takeOut_20 (by decide) ?_
          refine lv_iload_n hx hb dX11_takeOut_22 rfl (lv_at hl 1 rfl) ?_
          refine lv_imul hx hb dX11_takeOut_23 ?_
          refine lv_iload_n hx hb dX11_takeOut_24 rfl (lv_at hl 2 rfl) ?_
          refine lv_iadd hx hb dX11_takeOut_25 ?_
          refine g_topi h (fun x10 h => ?_)
          refine lv_istore (lv' := [(4, .int x10), (0, .ref (A m_o)), (1, .int a1), (3, .int x5)]) hx hb dX11_takeOut_26 hl (by decide) rfl (fun ls hl => ?_)
          refine lv_aload_n hx hb dX11_takeOut_28 rfl (lv_at hl 1 rfl) ?_
          refine mr_recordKind S X Z hin hl_101 dX11_takeOut_29 ?_
          refine lv_iload hx hb dX11_takeOut_32 (lv_at hl 0 rfl) ?_
          refine lv_aload_n hx hb dX11_takeOut_34 rfl (lv_at hl 1 rfl) ?_
          refine mr_recordKind S X Z hin hl_101 dX11_takeOut_35 ?_
          refine lv_iload hx hb dX11_takeOut_38 (lv_at hl 0 rfl) ?_
          refine lv_iconst (v := (1 : Int32)) hx hb dX11_takeOut_40 (by decide) ?_
          refine lv_iadd hx hb dX11_takeOut_41 ?_
          refine g_iald S X Z ml_recordKind rfl dX11_takeOut_42 h (fun v11 h => ?_)
          refine g_iast S X Z ml_recordKind rfl dX11_takeOut_43 h (fun M12 H locs Z h => ?_)
          refine lv_aload_n hx hb dX11_takeOut_44 rfl (lv_at hl 1 rfl) ?_
          refine mr_recordObject S X Z hin hl_104 dX11_takeOut_45 ?_
          refine lv_iload hx hb dX11_takeOut_48 (lv_at hl 0 rfl) ?_
          refine lv_aload_n hx hb dX11_takeOut_50 rfl (lv_at hl 1 rfl) ?_
          refine mr_recordObject S X Z hin hl_104 dX11_takeOut_51 ?_
          refine lv_iload hx hb dX11_takeOut_54 (lv_at hl 0 rfl) ?_
          refine lv_iconst (v := (1 : Int32)) hx hb dX11_takeOut_56 (by decide) ?_
          refine lv_iadd hx hb dX11_takeOut_57 ?_
          refine g_iald S X Z ml_recordObject rfl dX11_takeOut_58 h (fun v13 h => ?_)
          refine g_iast S X Z ml_recordObject rfl dX11_takeOut_59 h (fun M14 H locs Z h => ?_)
          refine lv_aload_n hx hb dX11_takeOut_60 rfl (lv_at hl 1 rfl) ?_
          refine mr_recordDirectory S X Z hin hl_107 dX11_takeOut_61 ?_
          refine lv_iload hx hb dX11_takeOut_64 (lv_at hl 0 rfl) ?_
          refine lv_aload_n hx hb dX11_takeOut_66 rfl (lv_at hl 1 rfl) ?_
          refine mr_recordDirectory S X Z hin hl_107 dX11_takeOut_67 ?_
          refine lv_iload hx hb dX11_takeOut_70 (lv_at hl 0 rfl) ?_
          refine lv_iconst (v := (1 : Int32)) hx hb dX11_takeOut_72 (by decide) ?_
          refine lv_iadd hx hb dX11_takeOut_73 ?_
          refine g_iald S X Z ml_recordDirectory rfl dX11_takeOut_74 h (fun v15 h => ?_)
          refine g_iast S X Z ml_recordDirectory rfl dX11_takeOut_75 h (fun M16 H locs Z h => ?_)
          refine lv_aload_n hx hb dX11_takeOut_76 rfl (lv_at hl 1 rfl) ?_
          refine lv_aload_n hx hb dX11_takeOut_77 rfl (lv_at hl 1 rfl) ?_
          refine mr_recordVector S X Z hin hl_110 dX11_takeOut_78 ?_
          refine lv_iload hx hb dX11_takeOut_81 (lv_at hl 0 rfl) ?_
          refine lv_iconst (v := (1 : Int32)) hx hb dX11_takeOut_83 (by decide) ?_
          refine lv_iadd hx hb dX11_takeOut_84 ?_
          refine lv_aload_n hx hb dX11_takeOut_85 rfl (lv_at hl 1 rfl) ?_
          refine mr_recordVector S X Z hin hl_110 dX11_takeOut_86 ?_
          refine lv_iload hx hb dX11_takeOut_89 (lv_at hl 0 rfl) ?_
          obtain ⟨M18, hc17, h⟩ := o1_e h
          refine g_Vv (As := [.ref (A m_recordVector), .int (x10 + (1 : Int32)), .ref (A m_recordVector), .int x10]) (rest := []) S X Z mlv_o rfl rfl (t_X11_copyTo l D dA A hJ ⟨ml_recordVector, rfl⟩ ⟨ml_recordVector, rfl⟩ hc17) (cwV 4 hts (mGV (mB 139 rfl) (mB 140 rfl) (mB 141 rfl) (mB 63 rfl) (mB 97 rfl)) rfl rfl rfl (by decide +kernel) ⟨Nat.le_of_ble_eq_true rfl, Nat.le_of_ble_eq_true rfl⟩) rfl hl.1 rfl (Nat.le_of_ble_eq_true rfl) dX11_takeOut_91 ⟨Nat.zero_le _, Nat.zero_le _⟩ (fun H locs Z => ?_)
          obtain ⟨x19, ex19, h⟩ := lt_e h
          refine lv_iinc (v := x19) (lv' := [(3, .int x19), (4, .int x10), (0, .ref (A m_o)), (1, .int a1)]) hx hb dX11_takeOut_94 hl (k := 3) rfl (by rw [ex19]; rfl) (by decide) rfl (fun ls hl => ?_)
          refine lv_goto (tgt := 8) hx hb dX11_takeOut_97 (by decide) ?_
          exact ih8 x19 M18 _ _ _ Z (lv_sub hl [2, 3, 0] rfl) h
    exact hL8 100 a2 M _ _ _ Z (lv_sub hl [1, 2, 0] rfl) h
  · have h := if_t c1 h
    have hy := Option.some.inj h
    subst hy
    exact g_rv S Z hr hlocks dX11_takeOut_5
-- X11_removeAlone (III)J: 120 instructions
theorem dX11_removeAlone_0 : decode cX11_removeAlone 0 = .ok (.aload_n 0, 1) := by decide +kernel
theorem dX11_removeAlone_1 : decode cX11_removeAlone 1 = .ok (.iload_n 1, 1) := by decide +kernel
theorem dX11_removeAlone_2 : decode cX11_removeAlone 2 = .ok (.iconst 1, 1) := by decide +kernel
theorem dX11_removeAlone_3 : decode cX11_removeAlone 3 = .ok (.iload_n 3, 1) := by decide +kernel
theorem dX11_removeAlone_4 : decode cX11_removeAlone 4 = .ok (.invokevirtual 358, 3) := by decide +kernel
theorem dX11_removeAlone_7 : decode cX11_removeAlone 7 = .ok (.istore 4, 2) := by decide +kernel
theorem dX11_removeAlone_9 : decode cX11_removeAlone 9 = .ok (.aload_n 0, 1) := by decide +kernel
theorem dX11_removeAlone_10 : decode cX11_removeAlone 10 = .ok (.iload_n 1, 1) := by decide +kernel
theorem dX11_removeAlone_11 : decode cX11_removeAlone 11 = .ok (.iconst 0, 1) := by decide +kernel
theorem dX11_removeAlone_12 : decode cX11_removeAlone 12 = .ok (.iload_n 3, 1) := by decide +kernel
theorem dX11_removeAlone_13 : decode cX11_removeAlone 13 = .ok (.invokevirtual 358, 3) := by decide +kernel
theorem dX11_removeAlone_16 : decode cX11_removeAlone 16 = .ok (.istore 5, 2) := by decide +kernel
theorem dX11_removeAlone_18 : decode cX11_removeAlone 18 = .ok (.iload 4, 2) := by decide +kernel
theorem dX11_removeAlone_20 : decode cX11_removeAlone 20 = .ok (.iconst (-1), 1) := by decide +kernel
theorem dX11_removeAlone_21 : decode cX11_removeAlone 21 = .ok (.if_icmp .eq 75, 3) := by decide +kernel
theorem dX11_removeAlone_24 : decode cX11_removeAlone 24 = .ok (.aload_n 0, 1) := by decide +kernel
theorem dX11_removeAlone_25 : decode cX11_removeAlone 25 = .ok (.iload_n 1, 1) := by decide +kernel
theorem dX11_removeAlone_26 : decode cX11_removeAlone 26 = .ok (.iload 5, 2) := by decide +kernel
theorem dX11_removeAlone_28 : decode cX11_removeAlone 28 = .ok (.invokevirtual 368, 3) := by decide +kernel
theorem dX11_removeAlone_31 : decode cX11_removeAlone 31 = .ok (.aload_n 0, 1) := by decide +kernel
theorem dX11_removeAlone_32 : decode cX11_removeAlone 32 = .ok (.iload_n 1, 1) := by decide +kernel
theorem dX11_removeAlone_33 : decode cX11_removeAlone 33 = .ok (.iload 4, 2) := by decide +kernel
theorem dX11_removeAlone_35 : decode cX11_removeAlone 35 = .ok (.invokevirtual 368, 3) := by decide +kernel
theorem dX11_removeAlone_38 : decode cX11_removeAlone 38 = .ok (.aload_n 0, 1) := by decide +kernel
theorem dX11_removeAlone_39 : decode cX11_removeAlone 39 = .ok (.getfield 89, 3) := by decide +kernel
theorem dX11_removeAlone_42 : decode cX11_removeAlone 42 = .ok (.bipush 48, 2) := by decide +kernel
theorem dX11_removeAlone_44 : decode cX11_removeAlone 44 = .ok (.iload_n 1, 1) := by decide +kernel
theorem dX11_removeAlone_45 : decode cX11_removeAlone 45 = .ok (.imul, 1) := by decide +kernel
theorem dX11_removeAlone_46 : decode cX11_removeAlone 46 = .ok (.iload_n 3, 1) := by decide +kernel
theorem dX11_removeAlone_47 : decode cX11_removeAlone 47 = .ok (.iadd, 1) := by decide +kernel
theorem dX11_removeAlone_48 : decode cX11_removeAlone 48 = .ok (.iconst 0, 1) := by decide +kernel
theorem dX11_removeAlone_49 : decode cX11_removeAlone 49 = .ok (.iastore, 1) := by decide +kernel
theorem dX11_removeAlone_50 : decode cX11_removeAlone 50 = .ok (.aload_n 0, 1) := by decide +kernel
theorem dX11_removeAlone_51 : decode cX11_removeAlone 51 = .ok (.iload_n 1, 1) := by decide +kernel
theorem dX11_removeAlone_52 : decode cX11_removeAlone 52 = .ok (.iload_n 3, 1) := by decide +kernel
theorem dX11_removeAlone_53 : decode cX11_removeAlone 53 = .ok (.invokevirtual 224, 3) := by decide +kernel
theorem dX11_removeAlone_56 : decode cX11_removeAlone 56 = .ok (.iconst 0, 1) := by decide +kernel
theorem dX11_removeAlone_57 : decode cX11_removeAlone 57 = .ok (.istore 6, 2) := by decide +kernel
theorem dX11_removeAlone_59 : decode cX11_removeAlone 59 = .ok (.iload 6, 2) := by decide +kernel
theorem dX11_removeAlone_61 : decode cX11_removeAlone 61 = .ok (.bipush 48, 2) := by decide +kernel
theorem dX11_removeAlone_63 : decode cX11_removeAlone 63 = .ok (.if_icmp .ge 31, 3) := by decide +kernel
theorem dX11_removeAlone_66 : decode cX11_removeAlone 66 = .ok (.aload_n 0, 1) := by decide +kernel
theorem dX11_removeAlone_67 : decode cX11_removeAlone 67 = .ok (.getfield 98, 3) := by decide +kernel
theorem dX11_removeAlone_70 : decode cX11_removeAlone 70 = .ok (.iload_n 1, 1) := by decide +kernel
theorem dX11_removeAlone_71 : decode cX11_removeAlone 71 = .ok (.iaload, 1) := by decide +kernel
theorem dX11_removeAlone_72 : decode cX11_removeAlone 72 = .ok (.ifCond .ne 22, 3) := by decide +kernel
theorem dX11_removeAlone_75 : decode cX11_removeAlone 75 = .ok (.aload_n 0, 1) := by decide +kernel
theorem dX11_removeAlone_76 : decode cX11_removeAlone 76 = .ok (.getfield 80, 3) := by decide +kernel
theorem dX11_removeAlone_79 : decode cX11_removeAlone 79 = .ok (.bipush 48, 2) := by decide +kernel
theorem dX11_removeAlone_81 : decode cX11_removeAlone 81 = .ok (.iload_n 1, 1) := by decide +kernel
theorem dX11_removeAlone_82 : decode cX11_removeAlone 82 = .ok (.imul, 1) := by decide +kernel
theorem dX11_removeAlone_83 : decode cX11_removeAlone 83 = .ok (.iload 6, 2) := by decide +kernel
theorem dX11_removeAlone_85 : decode cX11_removeAlone 85 = .ok (.iadd, 1) := by decide +kernel
theorem dX11_removeAlone_86 : decode cX11_removeAlone 86 = .ok (.iconst 0, 1) := by decide +kernel
theorem dX11_removeAlone_87 : decode cX11_removeAlone 87 = .ok (.bastore, 1) := by decide +kernel
theorem dX11_removeAlone_88 : decode cX11_removeAlone 88 = .ok (.iinc 6 1, 3) := by decide +kernel
theorem dX11_removeAlone_91 : decode cX11_removeAlone 91 = .ok (.goto (-32), 3) := by decide +kernel
theorem dX11_removeAlone_94 : decode cX11_removeAlone 94 = .ok (.lconst 0, 1) := by decide +kernel
theorem dX11_removeAlone_95 : decode cX11_removeAlone 95 = .ok (.lreturn, 1) := by decide +kernel
theorem dX11_removeAlone_96 : decode cX11_removeAlone 96 = .ok (.aload_n 0, 1) := by decide +kernel
theorem dX11_removeAlone_97 : decode cX11_removeAlone 97 = .ok (.getfield 98, 3) := by decide +kernel
theorem dX11_removeAlone_100 : decode cX11_removeAlone 100 = .ok (.iload_n 1, 1) := by decide +kernel
theorem dX11_removeAlone_101 : decode cX11_removeAlone 101 = .ok (.iaload, 1) := by decide +kernel
theorem dX11_removeAlone_102 : decode cX11_removeAlone 102 = .ok (.bipush 12, 2) := by decide +kernel
theorem dX11_removeAlone_104 : decode cX11_removeAlone 104 = .ok (.if_icmp .ne 13, 3) := by decide +kernel
theorem dX11_removeAlone_107 : decode cX11_removeAlone 107 = .ok (.iload 5, 2) := by decide +kernel
theorem dX11_removeAlone_109 : decode cX11_removeAlone 109 = .ok (.iconst (-1), 1) := by decide +kernel
theorem dX11_removeAlone_110 : decode cX11_removeAlone 110 = .ok (.if_icmp .ne 7, 3) := by decide +kernel
theorem dX11_removeAlone_113 : decode cX11_removeAlone 113 = .ok (.ldc2_w 336, 3) := by decide +kernel
theorem dX11_removeAlone_116 : decode cX11_removeAlone 116 = .ok (.lreturn, 1) := by decide +kernel
theorem dX11_removeAlone_117 : decode cX11_removeAlone 117 = .ok (.aload_n 0, 1) := by decide +kernel
theorem dX11_removeAlone_118 : decode cX11_removeAlone 118 = .ok (.iload_n 1, 1) := by decide +kernel
theorem dX11_removeAlone_119 : decode cX11_removeAlone 119 = .ok (.iload 5, 2) := by decide +kernel
theorem dX11_removeAlone_121 : decode cX11_removeAlone 121 = .ok (.invokevirtual 368, 3) := by decide +kernel
theorem dX11_removeAlone_124 : decode cX11_removeAlone 124 = .ok (.aload_n 0, 1) := by decide +kernel
theorem dX11_removeAlone_125 : decode cX11_removeAlone 125 = .ok (.iload_n 1, 1) := by decide +kernel
theorem dX11_removeAlone_126 : decode cX11_removeAlone 126 = .ok (.iconst 2, 1) := by decide +kernel
theorem dX11_removeAlone_127 : decode cX11_removeAlone 127 = .ok (.iload_n 3, 1) := by decide +kernel
theorem dX11_removeAlone_128 : decode cX11_removeAlone 128 = .ok (.iload_n 2, 1) := by decide +kernel
theorem dX11_removeAlone_129 : decode cX11_removeAlone 129 = .ok (.invokevirtual 364, 3) := by decide +kernel
theorem dX11_removeAlone_132 : decode cX11_removeAlone 132 = .ok (.aload_n 0, 1) := by decide +kernel
theorem dX11_removeAlone_133 : decode cX11_removeAlone 133 = .ok (.getfield 89, 3) := by decide +kernel
theorem dX11_removeAlone_136 : decode cX11_removeAlone 136 = .ok (.bipush 48, 2) := by decide +kernel
theorem dX11_removeAlone_138 : decode cX11_removeAlone 138 = .ok (.iload_n 1, 1) := by decide +kernel
theorem dX11_removeAlone_139 : decode cX11_removeAlone 139 = .ok (.imul, 1) := by decide +kernel
theorem dX11_removeAlone_140 : decode cX11_removeAlone 140 = .ok (.iload_n 3, 1) := by decide +kernel
theorem dX11_removeAlone_141 : decode cX11_removeAlone 141 = .ok (.iadd, 1) := by decide +kernel
theorem dX11_removeAlone_142 : decode cX11_removeAlone 142 = .ok (.iconst 2, 1) := by decide +kernel
theorem dX11_removeAlone_143 : decode cX11_removeAlone 143 = .ok (.iastore, 1) := by decide +kernel
theorem dX11_removeAlone_144 : decode cX11_removeAlone 144 = .ok (.aload_n 0, 1) := by decide +kernel
theorem dX11_removeAlone_145 : decode cX11_removeAlone 145 = .ok (.aload_n 0, 1) := by decide +kernel
theorem dX11_removeAlone_146 : decode cX11_removeAlone 146 = .ok (.getfield 74, 3) := by decide +kernel
theorem dX11_removeAlone_149 : decode cX11_removeAlone 149 = .ok (.bipush 48, 2) := by decide +kernel
theorem dX11_removeAlone_151 : decode cX11_removeAlone 151 = .ok (.iload_n 1, 1) := by decide +kernel
theorem dX11_removeAlone_152 : decode cX11_removeAlone 152 = .ok (.imul, 1) := by decide +kernel
theorem dX11_removeAlone_153 : decode cX11_removeAlone 153 = .ok (.iload_n 3, 1) := by decide +kernel
theorem dX11_removeAlone_154 : decode cX11_removeAlone 154 = .ok (.iadd, 1) := by decide +kernel
theorem dX11_removeAlone_155 : decode cX11_removeAlone 155 = .ok (.aload_n 0, 1) := by decide +kernel
theorem dX11_removeAlone_156 : decode cX11_removeAlone 156 = .ok (.getfield 92, 3) := by decide +kernel
theorem dX11_removeAlone_159 : decode cX11_removeAlone 159 = .ok (.bipush 48, 2) := by decide +kernel
theorem dX11_removeAlone_161 : decode cX11_removeAlone 161 = .ok (.iload_n 1, 1) := by decide +kernel
theorem dX11_removeAlone_162 : decode cX11_removeAlone 162 = .ok (.imul, 1) := by decide +kernel
theorem dX11_removeAlone_163 : decode cX11_removeAlone 163 = .ok (.iload_n 3, 1) := by decide +kernel
theorem dX11_removeAlone_164 : decode cX11_removeAlone 164 = .ok (.iadd, 1) := by decide +kernel
theorem dX11_removeAlone_165 : decode cX11_removeAlone 165 = .ok (.invokevirtual 234, 3) := by decide +kernel
theorem dX11_removeAlone_168 : decode cX11_removeAlone 168 = .ok (.aload_n 0, 1) := by decide +kernel
theorem dX11_removeAlone_169 : decode cX11_removeAlone 169 = .ok (.getfield 80, 3) := by decide +kernel
theorem dX11_removeAlone_172 : decode cX11_removeAlone 172 = .ok (.bipush 48, 2) := by decide +kernel
theorem dX11_removeAlone_174 : decode cX11_removeAlone 174 = .ok (.iload_n 1, 1) := by decide +kernel
theorem dX11_removeAlone_175 : decode cX11_removeAlone 175 = .ok (.imul, 1) := by decide +kernel
theorem dX11_removeAlone_176 : decode cX11_removeAlone 176 = .ok (.iload_n 2, 1) := by decide +kernel
theorem dX11_removeAlone_177 : decode cX11_removeAlone 177 = .ok (.iadd, 1) := by decide +kernel
theorem dX11_removeAlone_178 : decode cX11_removeAlone 178 = .ok (.iconst 1, 1) := by decide +kernel
theorem dX11_removeAlone_179 : decode cX11_removeAlone 179 = .ok (.bastore, 1) := by decide +kernel
theorem dX11_removeAlone_180 : decode cX11_removeAlone 180 = .ok (.aload_n 0, 1) := by decide +kernel
theorem dX11_removeAlone_181 : decode cX11_removeAlone 181 = .ok (.iload_n 1, 1) := by decide +kernel
theorem dX11_removeAlone_182 : decode cX11_removeAlone 182 = .ok (.iload_n 3, 1) := by decide +kernel
theorem dX11_removeAlone_183 : decode cX11_removeAlone 183 = .ok (.invokevirtual 224, 3) := by decide +kernel
theorem dX11_removeAlone_186 : decode cX11_removeAlone 186 = .ok (.lconst 0, 1) := by decide +kernel
theorem dX11_removeAlone_187 : decode cX11_removeAlone 187 = .ok (.lreturn, 1) := by decide +kernel
abbrev wmX11_removeAlone : List Cond := .code yX11_removeAlone cX11_removeAlone 7 (some .long) :: mBig
def f_X11_removeAlone_L59 (a1 : Int32) : Nat → Int32 → gM → Option (Int64 × gM)
  | 0, _, _ => none
  | n29 + 1, x27, M28 => (if (48 : Int32) ≤ x27 then some ((0 : Int64), M28) else rd M28 m_records 4 a1 (fun v31 => (if v31 = 0 then wz M28 m_dirty 192 (((48 : Int32) * a1) + x27) (0 : Int32) (fun M33 => lt (x27 + 1) (fun x34 => f_X11_removeAlone_L59 a1 n29 x34 M33)) else some ((0 : Int64), M28))))
def f_X11_removeAlone (M : gM) (a1 : Int32) (a2 : Int32) (a3 : Int32) : Option (Int64 × gM) :=
  o1 (f_X11_recordOf M a1 (1 : Int32) a3) (fun v2 => o1 (f_X11_recordOf M a1 (0 : Int32) a3) (fun v4 => (if v2 = (-1 : Int32) then rd M m_records 4 a1 (fun v6 => jn (fun (M7 : gM) => o1 (f_X11_takeOut M7 a1 v4) (fun M9 => o1 (f_X11_addRecord M9 a1 (2 : Int32) a3 a2) (fun M11 => wr M11 m_keptEntry 192 (((48 : Int32) * a1) + a3) (2 : Int32) (fun M12 => o1 (f_X11_copyTo M12 m_keptVector (((48 : Int32) * a1) + a3) m_keptGone (((48 : Int32) * a1) + a3)) (fun M14 => wz M14 m_dirty 192 (((48 : Int32) * a1) + a2) (1 : Int32) (fun M15 => o1 (f_X11_forget M15 a1 a3) (fun M17 => some ((0 : Int64), M17)))))))) (fun J117 => (if v6 = (12 : Int32) then (if v4 = (-1 : Int32) then some ((-2199023255557 : Int64), M) else J117 M) else J117 M))) else o1 (f_X11_takeOut M a1 v4) (fun M21 => o1 (f_X11_takeOut M21 a1 v2) (fun M23 => wr M23 m_keptEntry 192 (((48 : Int32) * a1) + a3) (0 : Int32) (fun M24 => o1 (f_X11_forget M24 a1 a3) (fun M26 => f_X11_removeAlone_L59 a1 100 (0 : Int32) M26)))))))
set_option maxHeartbeats 4000000 in
set_option maxRecDepth 100000 in
theorem t_X11_removeAlone (l : Launch) (D : va_G) (dA : Nat → ClassId) (A : gI → Nat) (hJ : gJ mLive A) {M : gM} {a1 : Int32} {a2 : Int32} {a3 : Int32}  {y : (Int64 × gM)} (h : f_X11_removeAlone M a1 a2 a3 = some y) : mMl l yX11_removeAlone wmX11_removeAlone ({ frames := 2, cells := 0, slots := 0, locals := 50 } : Room) D dA A [.ref (A m_o), .int a1, .int a2, .int a3] M y.1 y.2 := by
  refine Met.ofW (cc := cX11_removeAlone) (maxL := 7) (ret := (some .long)) (by decide) rfl ?_
  intro p e s m args below meth c s₁ B hml hv
  obtain ⟨rfl, hP, hK⟩ := hv
  generalize hargs : ([.ref (A m_o), .int a1, .int a2, .int a3] : List Value).toArray = args at B ⊢
  have S : CallFix p m c cX11_removeAlone 7 s args wmX11_removeAlone RX11 := ⟨B.exec, B.bytes, hml, findClass_of_methodNamed B.named, atoms_spec (ws := wmX11_removeAlone) B.pre⟩
  obtain ⟨hx, hb, -, hown, hts⟩ := id S
  have hr := B.returns
  have hlocks := B.notSynchronized
  have X : gX D vwCl dA mLive A (gA mLive A) s := ⟨hK, hJ, fun i hi => ⟨i, hi, rfl⟩⟩
  have Z : gZ D mLay dA mLive A (gA mLive A) s.heap M s.heap [] := ⟨hP, va_S.rf⟩
  have hin : ∀ w ∈ wsX110, w ∈ wmX11_removeAlone := m_in
  have hl_74 := hts (.fieldLink RX11 74 "ReplicaFilesModel" "keptVector" "[I") (mBc 26 rfl)
  have hl_80 := hts (.fieldLink RX11 80 "ReplicaFilesModel" "dirty" "[Z") (mBc 28 rfl)
  have hl_89 := hts (.fieldLink RX11 89 "ReplicaFilesModel" "keptEntry" "[I") (mBc 31 rfl)
  have hl_92 := hts (.fieldLink RX11 92 "ReplicaFilesModel" "keptGone" "[I") (mBc 32 rfl)
  have hl_98 := hts (.fieldLink RX11 98 "ReplicaFilesModel" "records" "[I") (mBc 34 rfl)
  have hc_336 := hts (.constantLong RX11 336 (-2199023255557)) (mBc 216 rfl)
  have hl := lv_entry ([.ref (A m_o), .int a1, .int a2, .int a3]) (n := 7) (Nat.le_of_ble_eq_true rfl)
  rw [← hargs, lg_entry_eq, hargs]
  generalize (lg_sl ([.ref (A m_o), .int a1, .int a2, .int a3]) ++ List.replicate (7 - (lg_sl ([.ref (A m_o), .int a1, .int a2, .int a3])).length) Slot.unset).toArray = ls at hl ⊢
  have hl : lv_has ls 7 [(0, .ref (A m_o)), (1, .int a1), (2, .int a2), (3, .int a3)] := hl
  unfold f_X11_removeAlone at h
  refine lv_aload_n hx hb dX11_removeAlone_0 rfl (lv_at hl 0 rfl) ?_
  refine lv_iload_n hx hb dX11_removeAlone_1 rfl (lv_at hl 1 rfl) ?_
  refine lv_iconst (v := (1 : Int32)) hx hb dX11_removeAlone_2 (by decide) ?_
  refine lv_iload_n hx hb dX11_removeAlone_3 rfl (lv_at hl 3 rfl) ?_
  obtain ⟨v2, hc1, h⟩ := o1_e h
  refine g_Vi (As := [.int a1, .int (1 : Int32), .int a3]) (rest := []) S X Z mlv_o rfl rfl (t_X11_recordOf l D dA A hJ  hc1) (cwV 3 hts (mGV (mB 218 rfl) (mB 219 rfl) (mB 220 rfl) (mB 63 rfl) (mB 214 rfl)) rfl rfl rfl (by decide +kernel) ⟨Nat.le_of_ble_eq_true rfl, Nat.le_of_ble_eq_true rfl⟩) rfl hl.1 rfl (Nat.le_of_ble_eq_true rfl) dX11_removeAlone_4 ⟨Nat.zero_le _, Nat.zero_le _⟩ (fun H locs Z => ?_)
  refine lv_istore (lv' := [(4, .int v2), (0, .ref (A m_o)), (1, .int a1), (2, .int a2), (3, .int a3)]) hx hb dX11_removeAlone_7 hl (by decide) rfl (fun ls hl => ?_)
  refine lv_aload_n hx hb dX11_removeAlone_9 rfl (lv_at hl 1 rfl) ?_
  refine lv_iload_n hx hb dX11_removeAlone_10 rfl (lv_at hl 2 rfl) ?_
  refine lv_iconst (v := (0 : Int32)) hx hb dX11_removeAlone_11 (by decide) ?_
  refine lv_iload_n hx hb dX11_removeAlone_12 rfl (lv_at hl 4 rfl) ?_
  obtain ⟨v4, hc3, h⟩ := o1_e h
  refine g_Vi (As := [.int a1, .int (0 : Int32), .int a3]) (rest := []) S X Z mlv_o rfl rfl (t_X11_recordOf l D dA A hJ  hc3) (cwV 3 hts (mGV (mB 218 rfl) (mB 219 rfl) (mB 220 rfl) (mB 63 rfl) (mB 214 rfl)) rfl rfl rfl (by decide +kernel) ⟨Nat.le_of_ble_eq_true rfl, Nat.le_of_ble_eq_true rfl⟩) rfl hl.1 rfl (Nat.le_of_ble_eq_true rfl) dX11_removeAlone_13 ⟨Nat.zero_le _, Nat.zero_le _⟩ (fun H locs Z => ?_)
  refine lv_istore (lv' := [(5, .int v4), (4, .int v2), (0, .ref (A m_o)), (1, .int a1), (2, .int a2), (3, .int a3)]) hx hb dX11_removeAlone_16 hl (by decide) rfl (fun ls hl => ?_)
  refine lv_iload hx hb dX11_removeAlone_18 (lv_at hl 1 rfl) ?_
  refine lv_iconst (v := (-1 : Int32)) hx hb dX11_removeAlone_20 (by decide) ?_
  refine lv_icmp_eq (tgt := 96) hx hb dX11_removeAlone_21 (by decide) (fun c5 => ?_) (fun c5 => ?_)
  · have h := if_t c5 h
    refine lv_aload_n hx hb dX11_removeAlone_96 rfl (lv_at hl 2 rfl) ?_
    refine mr_records S X Z hin hl_98 dX11_removeAlone_97 ?_
    refine lv_iload_n hx hb dX11_removeAlone_100 rfl (lv_at hl 3 rfl) ?_
    refine g_iald S X Z ml_records rfl dX11_removeAlone_101 h (fun v6 h => ?_)
    refine lv_bipush (v := (12 : Int32)) hx hb dX11_removeAlone_102 (by decide) ?_
    obtain ⟨J117, eJ117, h⟩ := jn_e h
    have hJ117 : ∀ (M7 : gM) (H : Heap) (locs : List Loc) (ls : Array Slot), gZ D mLay dA mLive A (gA mLive A) s.heap M7 H locs → lv_has ls 7 [(0, .ref (A m_o)), (1, .int a1), (2, .int a2), (3, .int a3), (5, .int v4)] → J117 M7 = some y → W p l e (headSpec wmX11_removeAlone ({ frames := 2, cells := 0, slots := 0, locals := 50 } : Room)).room s m args below meth c H locs 0 0 (MQ below (mQl D dA A y) args s 0 0 (gA mLive A)) (F0 m 117 ls []) := by
      intro M7 H locs ls Z hl h
      rw [eJ117] at h
      try dsimp only at h
      refine lv_aload_n hx hb dX11_removeAlone_117 rfl (lv_at hl 0 rfl) ?_
      refine lv_iload_n hx hb dX11_removeAlone_118 rfl (lv_at hl 1 rfl) ?_
      refine lv_iload hx hb dX11_removeAlone_119 (lv_at hl 4 rfl) ?_
      obtain ⟨M9, hc8, h⟩ := o1_e h
      refine g_Vv (As := [.int a1, .int v4]) (rest := []) S X Z mlv_o rfl rfl (t_X11_takeOut l D dA A hJ  hc8) (cwV 2 hts (mGV (mB 257 rfl) (mB 258 rfl) (mB 259 rfl) (mB 63 rfl) (mB 256 rfl)) rfl rfl rfl (by decide +kernel) ⟨Nat.le_of_ble_eq_true rfl, Nat.le_of_ble_eq_true rfl⟩) rfl hl.1 rfl (Nat.le_of_ble_eq_true rfl) dX11_removeAlone_121 ⟨Nat.zero_le _, Nat.zero_le _⟩ (fun H locs Z => ?_)
      refine lv_aload_n hx hb dX11_removeAlone_124 rfl (lv_at hl 0 rfl) ?_
      refine lv_iload_n hx hb dX11_removeAlone_125 rfl (lv_at hl 1 rfl) ?_
      refine lv_iconst (v := (2 : Int32)) hx hb dX11_removeAlone_126 (by decide) ?_
      refine lv_iload_n hx hb dX11_removeAlone_127 rfl (lv_at hl 3 rfl) ?_
      refine lv_iload_n hx hb dX11_removeAlone_128 rfl (lv_at hl 2 rfl) ?_
      obtain ⟨M11, hc10, h⟩ := o1_e h
      refine g_Vv (As := [.int a1, .int (2 : Int32), .int a3, .int a2]) (rest := []) S X Z mlv_o rfl rfl (t_X11_addRecord l D dA A hJ  hc10) (cwV 4 hts (mGV (mB 221 rfl) (mB 222 rfl) (mB 223 rfl) (mB 63 rfl) (mB 215 rfl)) rfl rfl rfl (by decide +kernel) ⟨Nat.le_of_ble_eq_true rfl, Nat.le_of_ble_eq_true rfl⟩) rfl hl.1 rfl (Nat.le_of_ble_eq_true rfl) dX11_removeAlone_129 ⟨Nat.zero_le _, Nat.zero_le _⟩ (fun H locs Z => ?_)
      refine lv_aload_n hx hb dX11_removeAlone_132 rfl (lv_at hl 0 rfl) ?_
      refine mr_keptEntry S X Z hin hl_89 dX11_removeAlone_133 ?_
      refine lv_bipush (v := (48 : Int32)) hx hb dX11_removeAlone_136 (by decide) ?_
      refine lv_iload_n hx hb dX11_removeAlone_138 rfl (lv_at hl 1 rfl) ?_
      refine lv_imul hx hb dX11_removeAlone_139 ?_
      refine lv_iload_n hx hb dX11_removeAlone_140 rfl (lv_at hl 3 rfl) ?_
      refine lv_iadd hx hb dX11_removeAlone_141 ?_
      refine lv_iconst (v := (2 : Int32)) hx hb dX11_removeAlone_142 (by decide) ?_
      refine g_iast S X Z ml_keptEntry rfl dX11_removeAlone_143 h (fun M12 H locs Z h => ?_)
      refine lv_aload_n hx hb dX11_removeAlone_144 rfl (lv_at hl 0 rfl) ?_
      refine lv_aload_n hx hb dX11_removeAlone_145 rfl (lv_at hl 0 rfl) ?_
      refine mr_keptVector S X Z hin hl_74 dX11_removeAlone_146 ?_
      refine lv_bipush (v := (48 : Int32)) hx hb dX11_removeAlone_149 (by decide) ?_
      refine lv_iload_n hx hb dX11_removeAlone_151 rfl (lv_at hl 1 rfl) ?_
      refine lv_imul hx hb dX11_removeAlone_152 ?_
      refine lv_iload_n hx hb dX11_removeAlone_153 rfl (lv_at hl 3 rfl) ?_
      refine lv_iadd hx hb dX11_removeAlone_154 ?_
      refine lv_aload_n hx hb dX11_removeAlone_155 rfl (lv_at hl 0 rfl) ?_
      refine mr_keptGone S X Z hin hl_92 dX11_removeAlone_156 ?_
      refine lv_bipush (v := (48 : Int32)) hx hb dX11_removeAlone_159 (by decide) ?_
      refine lv_iload_n hx hb dX11_removeAlone_161 rfl (lv_at hl 1 rfl) ?_
      refine lv_imul hx hb dX11_removeAlone_162 ?_
      refine lv_iload_n hx hb dX11_removeAlone_163 rfl (lv_at hl 3 rfl) ?_
      refine lv_iadd hx hb dX11_removeAlone_164 ?_
      obtain ⟨M14, hc13, h⟩ := o1_e h
      refine g_Vv (As := [.ref (A m_keptVector), .int (((48 : Int32) * a1) + a3), .ref (A m_keptGone), .int (((48 : Int32) * a1) + a3)]) (rest := []) S X Z mlv_o rfl rfl (t_X11_copyTo l D dA A hJ ⟨ml_keptVector, rfl⟩ ⟨ml_keptGone, rfl⟩ hc13) (cwV 4 hts (mGV (mB 139 rfl) (mB 140 rfl) (mB 141 rfl) (mB 63 rfl) (mB 97 rfl)) rfl rfl rfl (by decide +kernel) ⟨Nat.le_of_ble_eq_true rfl, Nat.le_of_ble_eq_true rfl⟩) rfl hl.1 rfl (Nat.le_of_ble_eq_true rfl) dX11_removeAlone_165 ⟨Nat.zero_le _, Nat.zero_le _⟩ (fun H locs Z => ?_)
      refine lv_aload_n hx hb dX11_removeAlone_168 rfl (lv_at hl 0 rfl) ?_
      refine mr_dirty S X Z hin hl_80 dX11_removeAlone_169 ?_
      refine lv_bipush (v := (48 : Int32)) hx hb dX11_removeAlone_172 (by decide) ?_
      refine lv_iload_n hx hb dX11_removeAlone_174 rfl (lv_at hl 1 rfl) ?_
      refine lv_imul hx hb dX11_removeAlone_175 ?_
      refine lv_iload_n hx hb dX11_removeAlone_176 rfl (lv_at hl 2 rfl) ?_
      refine lv_iadd hx hb dX11_removeAlone_177 ?_
      refine lv_iconst (v := (1 : Int32)) hx hb dX11_removeAlone_178 (by decide) ?_
      refine g_zast S X Z ml_dirty rfl dX11_removeAlone_179 h (fun M15 H locs Z h => ?_)
      refine lv_aload_n hx hb dX11_removeAlone_180 rfl (lv_at hl 0 rfl) ?_
      refine lv_iload_n hx hb dX11_removeAlone_181 rfl (lv_at hl 1 rfl) ?_
      refine lv_iload_n hx hb dX11_removeAlone_182 rfl (lv_at hl 3 rfl) ?_
      obtain ⟨M17, hc16, h⟩ := o1_e h
      refine g_Vv (As := [.int a1, .int a3]) (rest := []) S X Z mlv_o rfl rfl (t_X11_forget l D dA A hJ  hc16) (cwV 2 hts (mGV (mB 132 rfl) (mB 133 rfl) (mB 134 rfl) (mB 63 rfl) (mB 111 rfl)) rfl rfl rfl (by decide +kernel) ⟨Nat.le_of_ble_eq_true rfl, Nat.le_of_ble_eq_true rfl⟩) rfl hl.1 rfl (Nat.le_of_ble_eq_true rfl) dX11_removeAlone_183 ⟨Nat.zero_le _, Nat.zero_le _⟩ (fun H locs Z => ?_)
      refine lv_lconst (v := (0 : Int64)) hx hb dX11_removeAlone_186 (by decide) ?_
      have hy := Option.some.inj h
      subst hy
      exact g_rl S Z hr hlocks dX11_removeAlone_187
    refine lv_icmp_ne (tgt := 117) hx hb dX11_removeAlone_104 (by decide) (fun c18 => ?_) (fun c18 => ?_)
    · have h := if_f c18 h
      exact hJ117 M _ _ _ Z (lv_sub hl [2, 3, 4, 5, 0] rfl) h
    · have h := if_t c18 h
      refine lv_iload hx hb dX11_removeAlone_107 (lv_at hl 0 rfl) ?_
      refine lv_iconst (v := (-1 : Int32)) hx hb dX11_removeAlone_109 (by decide) ?_
      refine lv_icmp_ne (tgt := 117) hx hb dX11_removeAlone_110 (by decide) (fun c19 => ?_) (fun c19 => ?_)
      · have h := if_f c19 h
        exact hJ117 M _ _ _ Z (lv_sub hl [2, 3, 4, 5, 0] rfl) h
      · have h := if_t c19 h
        refine lv_ldc2 hx hb hown hc_336 dX11_removeAlone_113 ?_
        have hy := Option.some.inj h
        subst hy
        exact g_rl S Z hr hlocks dX11_removeAlone_116
  · have h := if_f c5 h
    refine lv_aload_n hx hb dX11_removeAlone_24 rfl (lv_at hl 2 rfl) ?_
    refine lv_iload_n hx hb dX11_removeAlone_25 rfl (lv_at hl 3 rfl) ?_
    refine lv_iload hx hb dX11_removeAlone_26 (lv_at hl 0 rfl) ?_
    obtain ⟨M21, hc20, h⟩ := o1_e h
    refine g_Vv (As := [.int a1, .int v4]) (rest := []) S X Z mlv_o rfl rfl (t_X11_takeOut l D dA A hJ  hc20) (cwV 2 hts (mGV (mB 257 rfl) (mB 258 rfl) (mB 259 rfl) (mB 63 rfl) (mB 256 rfl)) rfl rfl rfl (by decide +kernel) ⟨Nat.le_of_ble_eq_true rfl, Nat.le_of_ble_eq_true rfl⟩) rfl hl.1 rfl (Nat.le_of_ble_eq_true rfl) dX11_removeAlone_28 ⟨Nat.zero_le _, Nat.zero_le _⟩ (fun H locs Z => ?_)
    refine lv_aload_n hx hb dX11_removeAlone_31 rfl (lv_at hl 2 rfl) ?_
    refine lv_iload_n hx hb dX11_removeAlone_32 rfl (lv_at hl 3 rfl) ?_
    refine lv_iload hx hb dX11_removeAlone_33 (lv_at hl 1 rfl) ?_
    obtain ⟨M23, hc22, h⟩ := o1_e h
    refine g_Vv (As := [.int a1, .int v2]) (rest := []) S X Z mlv_o rfl rfl (t_X11_takeOut l D dA A hJ  hc22) (cwV 2 hts (mGV (mB 257 rfl) (mB 258 rfl) (mB 259 rfl) (mB 63 rfl) (mB 256 rfl)) rfl rfl rfl (by decide +kernel) ⟨Nat.le_of_ble_eq_true rfl, Nat.le_of_ble_eq_true rfl⟩) rfl hl.1 rfl (Nat.le_of_ble_eq_true rfl) dX11_removeAlone_35 ⟨Nat.zero_le _, Nat.zero_le _⟩ (fun H locs Z => ?_)
    refine lv_aload_n hx hb dX11_removeAlone_38 rfl (lv_at hl 2 rfl) ?_
    refine mr_keptEntry S X Z hin hl_89 dX11_removeAlone_39 ?_
    refine lv_bipush (v := (48 : Int32)) hx hb dX11_removeAlone_42 (by decide) ?_
    refine lv_iload_n hx hb dX11_removeAlone_44 rfl (lv_at hl 3 rfl) ?_
    refine lv_imul hx hb dX11_removeAlone_45 ?_
    refine lv_iload_n hx hb dX11_removeAlone_46 rfl (lv_at hl 5 rfl) ?_
    refine lv_iadd hx hb dX11_removeAlone_47 ?_
    refine lv_iconst (v := (0 : Int32)) hx hb dX11_removeAlone_48 (by decide) ?_
    refine g_iast S X Z ml_keptEntry rfl dX11_removeAlone_49 h (fun M24 H locs Z h => ?_)
    refine lv_aload_n hx hb dX11_removeAlone_50 rfl (lv_at hl 2 rfl) ?_
    refine lv_iload_n hx hb dX11_removeAlone_51 rfl (lv_at hl 3 rfl) ?_
    refine lv_iload_n hx hb dX11_removeAlone_52 rfl (lv_at hl 5 rfl) ?_
    obtain ⟨M26, hc25, h⟩ := o1_e h
    refine g_Vv (As := [.int a1, .int a3]) (rest := []) S X Z mlv_o rfl rfl (t_X11_forget l D dA A hJ  hc25) (cwV 2 hts (mGV (mB 132 rfl) (mB 133 rfl) (mB 134 rfl) (mB 63 rfl) (mB 111 rfl)) rfl rfl rfl (by decide +kernel) ⟨Nat.le_of_ble_eq_true rfl, Nat.le_of_ble_eq_true rfl⟩) rfl hl.1 rfl (Nat.le_of_ble_eq_true rfl) dX11_removeAlone_53 ⟨Nat.zero_le _, Nat.zero_le _⟩ (fun H locs Z => ?_)
    refine lv_iconst (v := (0 : Int32)) hx hb dX11_removeAlone_56 (by decide) ?_
    refine lv_istore (lv' := [(6, .int (0 : Int32)), (5, .int v4), (4, .int v2), (0, .ref (A m_o)), (1, .int a1), (2, .int a2), (3, .int a3)]) hx hb dX11_removeAlone_57 hl (by decide) rfl (fun ls hl => ?_)
    have hL59 : ∀ (n : Nat) (x27 : Int32) (M28 : gM) (H : Heap) (locs : List Loc) (ls : Array Slot), gZ D mLay dA mLive A (gA mLive A) s.heap M28 H locs → lv_has ls 7 [(0, .ref (A m_o)), (1, .int a1), (6, .int x27)] → f_X11_removeAlone_L59 a1 n x27 M28 = some y → W p l e (headSpec wmX11_removeAlone ({ frames := 2, cells := 0, slots := 0, locals := 50 } : Room)).room s m args below meth c H locs 0 0 (MQ below (mQl D dA A y) args s 0 0 (gA mLive A)) (F0 m 59 ls []) := by
      intro n
      induction n with
      | zero =>
        intro x27 M28 H locs ls Z hl h
        rw [f_X11_removeAlone_L59] at h
        cases h
      | succ n29 ih59 =>
        intro x27 M28 H locs ls Z hl h
        rw [f_X11_removeAlone_L59] at h
        refine lv_iload hx hb dX11_removeAlone_59 (lv_at hl 2 rfl) ?_
        refine lv_bipush (v := (48 : Int32)) hx hb dX11_removeAlone_61 (by decide) ?_
        refine lv_icmp_ge (tgt := 94) hx hb dX11_removeAlone_63 (by decide) (fun c30 => ?_) (fun c30 => ?_)
        · have h := if_t c30 h
          refine lv_lconst (v := (0 : Int64)) hx hb dX11_removeAlone_94 (by decide) ?_
          have hy := Option.some.inj h
          subst hy
          exact g_rl S Z hr hlocks dX11_removeAlone_95
        · have h := if_f c30 h
          refine lv_aload_n hx hb dX11_removeAlone_66 rfl (lv_at hl 0 rfl) ?_
          refine mr_records S X Z hin hl_98 dX11_removeAlone_67 ?_
          refine lv_iload_n hx hb dX11_removeAlone_70 rfl (lv_at hl 1 rfl) ?_
          refine g_iald S X Z ml_records rfl dX11_removeAlone_71 h (fun v31 h => ?_)
          refine lv_if_ne (tgt := 94) hx hb dX11_removeAlone_72 (by decide) (fun c32 => ?_) (fun c32 => ?_)
          · have h := if_f c32 h
            refine lv_lconst (v := (0 : Int64)) hx hb dX11_removeAlone_94 (by decide) ?_
            have hy := Option.some.inj h
            subst hy
            exact g_rl S Z hr hlocks dX11_removeAlone_95
          · have h := if_t c32 h
            refine lv_aload_n hx hb dX11_removeAlone_75 rfl (lv_at hl 0 rfl) ?_
            refine mr_dirty S X Z hin hl_80 dX11_removeAlone_76 ?_
            refine lv_bipush (v := (48 : Int32)) hx hb dX11_removeAlone_79 (by decide) ?_
            refine lv_iload_n hx hb dX11_removeAlone_81 rfl (lv_at hl 1 rfl) ?_
            refine lv_imul hx hb dX11_removeAlone_82 ?_
            refine lv_iload hx hb dX11_removeAlone_83 (lv_at hl 2 rfl) ?_
            refine lv_iadd hx hb dX11_removeAlone_85 ?_
            refine lv_iconst (v := (0 : Int32)) hx hb dX11_removeAlone_86 (by decide) ?_
            refine g_zast S X Z ml_dirty rfl dX11_removeAlone_87 h (fun M33 H locs Z h => ?_)
            obtain ⟨x34, ex34, h⟩ := lt_e h
            refine lv_iinc (v := x34) (lv' := [(6, .int x34), (0, .ref (A m_o)), (1, .int a1)]) hx hb dX11_removeAlone_88 hl (k := 2) rfl (by rw [ex34]; rfl) (by decide) rfl (fun ls hl => ?_)
            refine lv_goto (tgt := 59) hx hb dX11_removeAlone_91 (by decide) ?_
            exact ih59 x34 M33 _ _ _ Z (lv_sub hl [1, 2, 0] rfl) h
    exact hL59 100 (0 : Int32) M26 _ _ _ Z (lv_sub hl [3, 4, 0] rfl) h
