-- X11_handRemove (IIIII)V: 128 instructions
theorem dX11_handRemove_0 : decode cX11_handRemove 0 = .ok (.bipush 48, 2) := by decide +kernel
theorem dX11_handRemove_2 : decode cX11_handRemove 2 = .ok (.iload 4, 2) := by decide +kernel
theorem dX11_handRemove_4 : decode cX11_handRemove 4 = .ok (.imul, 1) := by decide +kernel
theorem dX11_handRemove_5 : decode cX11_handRemove 5 = .ok (.iload_n 3, 1) := by decide +kernel
theorem dX11_handRemove_6 : decode cX11_handRemove 6 = .ok (.iadd, 1) := by decide +kernel
theorem dX11_handRemove_7 : decode cX11_handRemove 7 = .ok (.istore 6, 2) := by decide +kernel
theorem dX11_handRemove_9 : decode cX11_handRemove 9 = .ok (.aload_n 0, 1) := by decide +kernel
theorem dX11_handRemove_10 : decode cX11_handRemove 10 = .ok (.getfield 32, 3) := by decide +kernel
theorem dX11_handRemove_13 : decode cX11_handRemove 13 = .ok (.iload 6, 2) := by decide +kernel
theorem dX11_handRemove_15 : decode cX11_handRemove 15 = .ok (.baload, 1) := by decide +kernel
theorem dX11_handRemove_16 : decode cX11_handRemove 16 = .ok (.ifCond .eq 29, 3) := by decide +kernel
theorem dX11_handRemove_19 : decode cX11_handRemove 19 = .ok (.aload_n 0, 1) := by decide +kernel
theorem dX11_handRemove_20 : decode cX11_handRemove 20 = .ok (.getfield 32, 3) := by decide +kernel
theorem dX11_handRemove_23 : decode cX11_handRemove 23 = .ok (.bipush 48, 2) := by decide +kernel
theorem dX11_handRemove_25 : decode cX11_handRemove 25 = .ok (.iload 4, 2) := by decide +kernel
theorem dX11_handRemove_27 : decode cX11_handRemove 27 = .ok (.imul, 1) := by decide +kernel
theorem dX11_handRemove_28 : decode cX11_handRemove 28 = .ok (.iload_n 2, 1) := by decide +kernel
theorem dX11_handRemove_29 : decode cX11_handRemove 29 = .ok (.iadd, 1) := by decide +kernel
theorem dX11_handRemove_30 : decode cX11_handRemove 30 = .ok (.baload, 1) := by decide +kernel
theorem dX11_handRemove_31 : decode cX11_handRemove 31 = .ok (.ifCond .eq 14, 3) := by decide +kernel
theorem dX11_handRemove_34 : decode cX11_handRemove 34 = .ok (.aload_n 0, 1) := by decide +kernel
theorem dX11_handRemove_35 : decode cX11_handRemove 35 = .ok (.getfield 56, 3) := by decide +kernel
theorem dX11_handRemove_38 : decode cX11_handRemove 38 = .ok (.iload 6, 2) := by decide +kernel
theorem dX11_handRemove_40 : decode cX11_handRemove 40 = .ok (.iaload, 1) := by decide +kernel
theorem dX11_handRemove_41 : decode cX11_handRemove 41 = .ok (.iconst 1, 1) := by decide +kernel
theorem dX11_handRemove_42 : decode cX11_handRemove 42 = .ok (.if_icmp .eq 4, 3) := by decide +kernel
theorem dX11_handRemove_45 : decode cX11_handRemove 45 = .ok (.return_, 1) := by decide +kernel
theorem dX11_handRemove_46 : decode cX11_handRemove 46 = .ok (.aload_n 0, 1) := by decide +kernel
theorem dX11_handRemove_47 : decode cX11_handRemove 47 = .ok (.aload_n 0, 1) := by decide +kernel
theorem dX11_handRemove_48 : decode cX11_handRemove 48 = .ok (.getfield 110, 3) := by decide +kernel
theorem dX11_handRemove_51 : decode cX11_handRemove 51 = .ok (.iload_n 1, 1) := by decide +kernel
theorem dX11_handRemove_52 : decode cX11_handRemove 52 = .ok (.aload_n 0, 1) := by decide +kernel
theorem dX11_handRemove_53 : decode cX11_handRemove 53 = .ok (.getfield 125, 3) := by decide +kernel
theorem dX11_handRemove_56 : decode cX11_handRemove 56 = .ok (.iconst 0, 1) := by decide +kernel
theorem dX11_handRemove_57 : decode cX11_handRemove 57 = .ok (.invokevirtual 234, 3) := by decide +kernel
theorem dX11_handRemove_60 : decode cX11_handRemove 60 = .ok (.aload_n 0, 1) := by decide +kernel
theorem dX11_handRemove_61 : decode cX11_handRemove 61 = .ok (.getfield 44, 3) := by decide +kernel
theorem dX11_handRemove_64 : decode cX11_handRemove 64 = .ok (.iload 6, 2) := by decide +kernel
theorem dX11_handRemove_66 : decode cX11_handRemove 66 = .ok (.iaload, 1) := by decide +kernel
theorem dX11_handRemove_67 : decode cX11_handRemove 67 = .ok (.ifCond .ne 25, 3) := by decide +kernel
theorem dX11_handRemove_70 : decode cX11_handRemove 70 = .ok (.aload_n 0, 1) := by decide +kernel
theorem dX11_handRemove_71 : decode cX11_handRemove 71 = .ok (.aload_n 0, 1) := by decide +kernel
theorem dX11_handRemove_72 : decode cX11_handRemove 72 = .ok (.getfield 41, 3) := by decide +kernel
theorem dX11_handRemove_75 : decode cX11_handRemove 75 = .ok (.iload 6, 2) := by decide +kernel
theorem dX11_handRemove_77 : decode cX11_handRemove 77 = .ok (.aload_n 0, 1) := by decide +kernel
theorem dX11_handRemove_78 : decode cX11_handRemove 78 = .ok (.getfield 125, 3) := by decide +kernel
theorem dX11_handRemove_81 : decode cX11_handRemove 81 = .ok (.iconst 0, 1) := by decide +kernel
theorem dX11_handRemove_82 : decode cX11_handRemove 82 = .ok (.invokevirtual 265, 3) := by decide +kernel
theorem dX11_handRemove_85 : decode cX11_handRemove 85 = .ok (.ifCond .eq 7, 3) := by decide +kernel
theorem dX11_handRemove_88 : decode cX11_handRemove 88 = .ok (.iconst 1, 1) := by decide +kernel
theorem dX11_handRemove_89 : decode cX11_handRemove 89 = .ok (.goto 4, 3) := by decide +kernel
theorem dX11_handRemove_92 : decode cX11_handRemove 92 = .ok (.iconst 0, 1) := by decide +kernel
theorem dX11_handRemove_93 : decode cX11_handRemove 93 = .ok (.istore 7, 2) := by decide +kernel
theorem dX11_handRemove_95 : decode cX11_handRemove 95 = .ok (.iconst 1, 1) := by decide +kernel
theorem dX11_handRemove_96 : decode cX11_handRemove 96 = .ok (.istore 8, 2) := by decide +kernel
theorem dX11_handRemove_98 : decode cX11_handRemove 98 = .ok (.iload 8, 2) := by decide +kernel
theorem dX11_handRemove_100 : decode cX11_handRemove 100 = .ok (.aload_n 0, 1) := by decide +kernel
theorem dX11_handRemove_101 : decode cX11_handRemove 101 = .ok (.getfield 162, 3) := by decide +kernel
theorem dX11_handRemove_104 : decode cX11_handRemove 104 = .ok (.if_icmp .ge 48, 3) := by decide +kernel
theorem dX11_handRemove_107 : decode cX11_handRemove 107 = .ok (.iload 7, 2) := by decide +kernel
theorem dX11_handRemove_109 : decode cX11_handRemove 109 = .ok (.ifCond .eq 34, 3) := by decide +kernel
theorem dX11_handRemove_112 : decode cX11_handRemove 112 = .ok (.aload_n 0, 1) := by decide +kernel
theorem dX11_handRemove_113 : decode cX11_handRemove 113 = .ok (.iload 8, 2) := by decide +kernel
theorem dX11_handRemove_115 : decode cX11_handRemove 115 = .ok (.iload_n 3, 1) := by decide +kernel
theorem dX11_handRemove_116 : decode cX11_handRemove 116 = .ok (.invokevirtual 197, 3) := by decide +kernel
theorem dX11_handRemove_119 : decode cX11_handRemove 119 = .ok (.ifCond .eq 20, 3) := by decide +kernel
theorem dX11_handRemove_122 : decode cX11_handRemove 122 = .ok (.aload_n 0, 1) := by decide +kernel
theorem dX11_handRemove_123 : decode cX11_handRemove 123 = .ok (.getfield 56, 3) := by decide +kernel
theorem dX11_handRemove_126 : decode cX11_handRemove 126 = .ok (.bipush 48, 2) := by decide +kernel
theorem dX11_handRemove_128 : decode cX11_handRemove 128 = .ok (.iload 4, 2) := by decide +kernel
theorem dX11_handRemove_130 : decode cX11_handRemove 130 = .ok (.imul, 1) := by decide +kernel
theorem dX11_handRemove_131 : decode cX11_handRemove 131 = .ok (.iload 8, 2) := by decide +kernel
theorem dX11_handRemove_133 : decode cX11_handRemove 133 = .ok (.iadd, 1) := by decide +kernel
theorem dX11_handRemove_134 : decode cX11_handRemove 134 = .ok (.iaload, 1) := by decide +kernel
theorem dX11_handRemove_135 : decode cX11_handRemove 135 = .ok (.iconst 1, 1) := by decide +kernel
theorem dX11_handRemove_136 : decode cX11_handRemove 136 = .ok (.if_icmp .eq 7, 3) := by decide +kernel
theorem dX11_handRemove_139 : decode cX11_handRemove 139 = .ok (.iconst 1, 1) := by decide +kernel
theorem dX11_handRemove_140 : decode cX11_handRemove 140 = .ok (.goto 4, 3) := by decide +kernel
theorem dX11_handRemove_143 : decode cX11_handRemove 143 = .ok (.iconst 0, 1) := by decide +kernel
theorem dX11_handRemove_144 : decode cX11_handRemove 144 = .ok (.istore 7, 2) := by decide +kernel
theorem dX11_handRemove_146 : decode cX11_handRemove 146 = .ok (.iinc 8 1, 3) := by decide +kernel
theorem dX11_handRemove_149 : decode cX11_handRemove 149 = .ok (.goto (-51), 3) := by decide +kernel
theorem dX11_handRemove_152 : decode cX11_handRemove 152 = .ok (.iload 7, 2) := by decide +kernel
theorem dX11_handRemove_154 : decode cX11_handRemove 154 = .ok (.ifCond .ne 14, 3) := by decide +kernel
theorem dX11_handRemove_157 : decode cX11_handRemove 157 = .ok (.aload_n 0, 1) := by decide +kernel
theorem dX11_handRemove_158 : decode cX11_handRemove 158 = .ok (.dup, 1) := by decide +kernel
theorem dX11_handRemove_159 : decode cX11_handRemove 159 = .ok (.getfield 391, 3) := by decide +kernel
theorem dX11_handRemove_162 : decode cX11_handRemove 162 = .ok (.iconst 1, 1) := by decide +kernel
theorem dX11_handRemove_163 : decode cX11_handRemove 163 = .ok (.iadd, 1) := by decide +kernel
theorem dX11_handRemove_164 : decode cX11_handRemove 164 = .ok (.putfield 391, 3) := by decide +kernel
theorem dX11_handRemove_167 : decode cX11_handRemove 167 = .ok (.return_, 1) := by decide +kernel
theorem dX11_handRemove_168 : decode cX11_handRemove 168 = .ok (.aload_n 0, 1) := by decide +kernel
theorem dX11_handRemove_169 : decode cX11_handRemove 169 = .ok (.aload_n 0, 1) := by decide +kernel
theorem dX11_handRemove_170 : decode cX11_handRemove 170 = .ok (.getfield 41, 3) := by decide +kernel
theorem dX11_handRemove_173 : decode cX11_handRemove 173 = .ok (.bipush 48, 2) := by decide +kernel
theorem dX11_handRemove_175 : decode cX11_handRemove 175 = .ok (.iload 4, 2) := by decide +kernel
theorem dX11_handRemove_177 : decode cX11_handRemove 177 = .ok (.imul, 1) := by decide +kernel
theorem dX11_handRemove_178 : decode cX11_handRemove 178 = .ok (.iload_n 2, 1) := by decide +kernel
theorem dX11_handRemove_179 : decode cX11_handRemove 179 = .ok (.iadd, 1) := by decide +kernel
theorem dX11_handRemove_180 : decode cX11_handRemove 180 = .ok (.aload_n 0, 1) := by decide +kernel
theorem dX11_handRemove_181 : decode cX11_handRemove 181 = .ok (.getfield 122, 3) := by decide +kernel
theorem dX11_handRemove_184 : decode cX11_handRemove 184 = .ok (.iconst 0, 1) := by decide +kernel
theorem dX11_handRemove_185 : decode cX11_handRemove 185 = .ok (.invokevirtual 234, 3) := by decide +kernel
theorem dX11_handRemove_188 : decode cX11_handRemove 188 = .ok (.aload_n 0, 1) := by decide +kernel
theorem dX11_handRemove_189 : decode cX11_handRemove 189 = .ok (.aload_n 0, 1) := by decide +kernel
theorem dX11_handRemove_190 : decode cX11_handRemove 190 = .ok (.iload 5, 2) := by decide +kernel
theorem dX11_handRemove_192 : decode cX11_handRemove 192 = .ok (.iload_n 2, 1) := by decide +kernel
theorem dX11_handRemove_193 : decode cX11_handRemove 193 = .ok (.aload_n 0, 1) := by decide +kernel
theorem dX11_handRemove_194 : decode cX11_handRemove 194 = .ok (.getfield 122, 3) := by decide +kernel
theorem dX11_handRemove_197 : decode cX11_handRemove 197 = .ok (.invokevirtual 323, 3) := by decide +kernel
theorem dX11_handRemove_200 : decode cX11_handRemove 200 = .ok (.putfield 289, 3) := by decide +kernel
theorem dX11_handRemove_203 : decode cX11_handRemove 203 = .ok (.aload_n 0, 1) := by decide +kernel
theorem dX11_handRemove_204 : decode cX11_handRemove 204 = .ok (.iload_n 2, 1) := by decide +kernel
theorem dX11_handRemove_205 : decode cX11_handRemove 205 = .ok (.iload_n 3, 1) := by decide +kernel
theorem dX11_handRemove_206 : decode cX11_handRemove 206 = .ok (.invokevirtual 355, 3) := by decide +kernel
theorem dX11_handRemove_209 : decode cX11_handRemove 209 = .ok (.aload_n 0, 1) := by decide +kernel
theorem dX11_handRemove_210 : decode cX11_handRemove 210 = .ok (.iload_n 2, 1) := by decide +kernel
theorem dX11_handRemove_211 : decode cX11_handRemove 211 = .ok (.aload_n 0, 1) := by decide +kernel
theorem dX11_handRemove_212 : decode cX11_handRemove 212 = .ok (.getfield 289, 3) := by decide +kernel
theorem dX11_handRemove_215 : decode cX11_handRemove 215 = .ok (.iconst (-1), 1) := by decide +kernel
theorem dX11_handRemove_216 : decode cX11_handRemove 216 = .ok (.invokevirtual 315, 3) := by decide +kernel
theorem dX11_handRemove_219 : decode cX11_handRemove 219 = .ok (.aload_n 0, 1) := by decide +kernel
theorem dX11_handRemove_220 : decode cX11_handRemove 220 = .ok (.iload_n 3, 1) := by decide +kernel
theorem dX11_handRemove_221 : decode cX11_handRemove 221 = .ok (.aload_n 0, 1) := by decide +kernel
theorem dX11_handRemove_222 : decode cX11_handRemove 222 = .ok (.getfield 289, 3) := by decide +kernel
theorem dX11_handRemove_225 : decode cX11_handRemove 225 = .ok (.iconst (-1), 1) := by decide +kernel
theorem dX11_handRemove_226 : decode cX11_handRemove 226 = .ok (.invokevirtual 315, 3) := by decide +kernel
theorem dX11_handRemove_229 : decode cX11_handRemove 229 = .ok (.return_, 1) := by decide +kernel
abbrev wmX11_handRemove : List Cond := .code yX11_handRemove cX11_handRemove 9 none :: mBig
def f_X11_handRemove_L98 (a2 : Int32) (a3 : Int32) (a4 : Int32) (a5 : Int32) (J152 : (Int32 × gM) → Option gM) : Nat → Int32 → Int32 → gM → Option gM
  | 0, _, _, _ => none
  | n34 + 1, x31, x32, M33 => lt (M33 m_o 6) (fun v35 => (if v35 ≤ x32 then J152 (x31, M33) else jn (fun (q : (Int32 × gM)) => match q with | (b37, M38) => lt (x32 + 1) (fun x39 => f_X11_handRemove_L98 a2 a3 a4 a5 J152 n34 b37 x39 M38)) (fun J144 => jn (fun (M40 : gM) => J144 ((0 : Int32), M40)) (fun J143 => (if x31 = 0 then J143 M33 else o1 (f_X11_isChild M33 x32 a3) (fun v43 => jn (fun (M44 : gM) => J144 ((1 : Int32), M44)) (fun J139 => (if v43 = 0 then J139 M33 else rd M33 m_entry 192 (((48 : Int32) * a4) + x32) (fun v46 => (if v46 = (1 : Int32) then J143 M33 else J139 M33))))))))))
def f_X11_handRemove (M : gM) (a1 : Int32) (a2 : Int32) (a3 : Int32) (a4 : Int32) (a5 : Int32) : Option gM :=
  lt ((((48 : Int32) * a4) + a3)) (fun x1 => rd M m_has 192 x1 (fun v2 => (if v2 = 0 then some M else rd M m_has 192 (((48 : Int32) * a4) + a2) (fun v4 => (if v4 = 0 then some M else rd M m_entry 192 x1 (fun v6 => (if v6 = (1 : Int32) then o1 (f_X11_copyTo M m_recordVector a1 m_row (0 : Int32)) (fun M9 => rd M9 m_versions 192 x1 (fun v10 => jn (fun (q : (Int32 × gM)) => match q with | (b11, M12) => jn (fun (q : (Int32 × gM)) => match q with | (b13, M14) => (if b13 = 0 then lt (M14 m_o 47) (fun v29 => lt (gset M14 m_o 47 (v29 + (1 : Int32))) (fun M30 => some M30)) else o1 (f_X11_copyTo M14 m_vector (((48 : Int32) * a4) + a2) m_directoryVector (0 : Int32)) (fun M17 => o1 (f_X11_setOf M17 a5 a2 m_directoryVector) (fun v19 => lt (gset M17 m_o 51 v19) (fun M20 => o1 (f_X11_putGone M20 a2 a3) (fun M22 => lt (M22 m_o 51) (fun v23 => o1 (f_X11_endPromises M22 a2 v23 (-1 : Int32)) (fun M25 => lt (M25 m_o 51) (fun v26 => o1 (f_X11_endPromises M25 a3 v26 (-1 : Int32)) (fun M28 => some M28)))))))))) (fun J152 => f_X11_handRemove_L98 a2 a3 a4 a5 J152 100 b11 (1 : Int32) M12)) (fun J93 => jn (fun (M48 : gM) => J93 ((0 : Int32), M48)) (fun J92 => (if v10 = 0 then o1 (f_X11_isAtMost M9 m_vector x1 m_row (0 : Int32)) (fun v51 => (if v51 = 0 then J92 M9 else J93 ((1 : Int32), M9))) else J92 M9))))) else some M)))))))
set_option maxHeartbeats 4000000 in
set_option maxRecDepth 100000 in
theorem t_X11_handRemove (l : Launch) (D : va_G) (dA : Nat → ClassId) (A : gI → Nat) (hJ : gJ mLive A) {M : gM} {a1 : Int32} {a2 : Int32} {a3 : Int32} {a4 : Int32} {a5 : Int32}  {y : gM} (h : f_X11_handRemove M a1 a2 a3 a4 a5 = some y) : mMv l yX11_handRemove wmX11_handRemove ({ frames := 3, cells := 0, slots := 0, locals := 73 } : Room) D dA A [.ref (A m_o), .int a1, .int a2, .int a3, .int a4, .int a5] M y := by
  refine Met.ofW (cc := cX11_handRemove) (maxL := 9) (ret := none) (by decide) rfl ?_
  intro p e s m args below meth c s₁ B hml hv
  obtain ⟨rfl, hP, hK⟩ := hv
  generalize hargs : ([.ref (A m_o), .int a1, .int a2, .int a3, .int a4, .int a5] : List Value).toArray = args at B ⊢
  have S : CallFix p m c cX11_handRemove 9 s args wmX11_handRemove RX11 := ⟨B.exec, B.bytes, hml, findClass_of_methodNamed B.named, atoms_spec (ws := wmX11_handRemove) B.pre⟩
  obtain ⟨hx, hb, -, hown, hts⟩ := id S
  have hr := B.returns
  have hlocks := B.notSynchronized
  have X : gX D vwCl dA mLive A (gA mLive A) s := ⟨hK, hJ, fun i hi => ⟨i, hi, rfl⟩⟩
  have Z : gZ D mLay dA mLive A (gA mLive A) s.heap M s.heap [] := ⟨hP, va_S.rf⟩
  have hin : ∀ w ∈ wsX110, w ∈ wmX11_handRemove := m_in
  have hl_32 := hts (.fieldLink RX11 32 "ReplicaFilesModel" "has" "[Z") (mBc 12 rfl)
  have hl_41 := hts (.fieldLink RX11 41 "ReplicaFilesModel" "vector" "[I") (mBc 15 rfl)
  have hl_44 := hts (.fieldLink RX11 44 "ReplicaFilesModel" "versions" "[I") (mBc 16 rfl)
  have hl_56 := hts (.fieldLink RX11 56 "ReplicaFilesModel" "entry" "[I") (mBc 20 rfl)
  have hl_110 := hts (.fieldLink RX11 110 "ReplicaFilesModel" "recordVector" "[I") (mBc 38 rfl)
  have hl_122 := hts (.fieldLink RX11 122 "ReplicaFilesModel" "directoryVector" "[I") (mBc 42 rfl)
  have hl_125 := hts (.fieldLink RX11 125 "ReplicaFilesModel" "row" "[I") (mBc 43 rfl)
  have hl_162 := hts (.fieldLink RX11 162 "ReplicaFilesModel" "made" "I") (mBc 55 rfl)
  have hl_289 := hts (.fieldLink RX11 289 "ReplicaFilesModel" "set" "I") (mBc 188 rfl)
  have hl_391 := hts (.fieldLink RX11 391 "ReplicaFilesModel" "refused" "I") (mBc 274 rfl)
  have hl := lv_entry ([.ref (A m_o), .int a1, .int a2, .int a3, .int a4, .int a5]) (n := 9) (Nat.le_of_ble_eq_true rfl)
  rw [← hargs, lg_entry_eq, hargs]
  generalize (lg_sl ([.ref (A m_o), .int a1, .int a2, .int a3, .int a4, .int a5]) ++ List.replicate (9 - (lg_sl ([.ref (A m_o), .int a1, .int a2, .int a3, .int a4, .int a5])).length) Slot.unset).toArray = ls at hl ⊢
  have hl : lv_has ls 9 [(0, .ref (A m_o)), (1, .int a1), (2, .int a2), (3, .int a3), (4, .int a4), (5, .int a5)] := hl
  unfold f_X11_handRemove at h
  refine lv_bipush (v := (48 : Int32)) hx hb dX11_handRemove_0 (by decide) ?_
  refine lv_iload hx hb dX11_handRemove_2 (lv_at hl 4 rfl) ?_
  refine lv_imul hx hb dX11_handRemove_4 ?_
  refine lv_iload_n hx hb dX11_handRemove_5 rfl (lv_at hl 3 rfl) ?_
  refine lv_iadd hx hb dX11_handRemove_6 ?_
  refine g_topi h (fun x1 h => ?_)
  refine lv_istore (lv' := [(6, .int x1), (0, .ref (A m_o)), (1, .int a1), (2, .int a2), (3, .int a3), (4, .int a4), (5, .int a5)]) hx hb dX11_handRemove_7 hl (by decide) rfl (fun ls hl => ?_)
  refine lv_aload_n hx hb dX11_handRemove_9 rfl (lv_at hl 1 rfl) ?_
  refine mr_has S X Z hin hl_32 dX11_handRemove_10 ?_
  refine lv_iload hx hb dX11_handRemove_13 (lv_at hl 0 rfl) ?_
  refine g_zald S X Z ml_has rfl dX11_handRemove_15 h (fun v2 h => ?_)
  refine lv_if_eq (tgt := 45) hx hb dX11_handRemove_16 (by decide) (fun c3 => ?_) (fun c3 => ?_)
  · have h := if_t c3 h
    have hy := Option.some.inj h
    subst hy
    exact g_rv S Z hr hlocks dX11_handRemove_45
  · have h := if_f c3 h
    refine lv_aload_n hx hb dX11_handRemove_19 rfl (lv_at hl 1 rfl) ?_
    refine mr_has S X Z hin hl_32 dX11_handRemove_20 ?_
    refine lv_bipush (v := (48 : Int32)) hx hb dX11_handRemove_23 (by decide) ?_
    refine lv_iload hx hb dX11_handRemove_25 (lv_at hl 5 rfl) ?_
    refine lv_imul hx hb dX11_handRemove_27 ?_
    refine lv_iload_n hx hb dX11_handRemove_28 rfl (lv_at hl 3 rfl) ?_
    refine lv_iadd hx hb dX11_handRemove_29 ?_
    refine g_zald S X Z ml_has rfl dX11_handRemove_30 h (fun v4 h => ?_)
    refine lv_if_eq (tgt := 45) hx hb dX11_handRemove_31 (by decide) (fun c5 => ?_) (fun c5 => ?_)
    · have h := if_t c5 h
      have hy := Option.some.inj h
      subst hy
      exact g_rv S Z hr hlocks dX11_handRemove_45
    · have h := if_f c5 h
      refine lv_aload_n hx hb dX11_handRemove_34 rfl (lv_at hl 1 rfl) ?_
      refine mr_entry S X Z hin hl_56 dX11_handRemove_35 ?_
      refine lv_iload hx hb dX11_handRemove_38 (lv_at hl 0 rfl) ?_
      refine g_iald S X Z ml_entry rfl dX11_handRemove_40 h (fun v6 h => ?_)
      refine lv_iconst (v := (1 : Int32)) hx hb dX11_handRemove_41 (by decide) ?_
      refine lv_icmp_eq (tgt := 46) hx hb dX11_handRemove_42 (by decide) (fun c7 => ?_) (fun c7 => ?_)
      · have h := if_t c7 h
        refine lv_aload_n hx hb dX11_handRemove_46 rfl (lv_at hl 1 rfl) ?_
        refine lv_aload_n hx hb dX11_handRemove_47 rfl (lv_at hl 1 rfl) ?_
        refine mr_recordVector S X Z hin hl_110 dX11_handRemove_48 ?_
        refine lv_iload_n hx hb dX11_handRemove_51 rfl (lv_at hl 2 rfl) ?_
        refine lv_aload_n hx hb dX11_handRemove_52 rfl (lv_at hl 1 rfl) ?_
        refine mr_row S X Z hin hl_125 dX11_handRemove_53 ?_
        refine lv_iconst (v := (0 : Int32)) hx hb dX11_handRemove_56 (by decide) ?_
        obtain ⟨M9, hc8, h⟩ := o1_e h
        refine g_Vv (As := [.ref (A m_recordVector), .int a1, .ref (A m_row), .int (0 : Int32)]) (rest := []) S X Z mlv_o rfl rfl (t_X11_copyTo l D dA A hJ ⟨ml_recordVector, rfl⟩ ⟨ml_row, rfl⟩ hc8) (cwV 4 hts (mGV (mB 139 rfl) (mB 140 rfl) (mB 141 rfl) (mB 63 rfl) (mB 97 rfl)) rfl rfl rfl (by decide +kernel) ⟨Nat.le_of_ble_eq_true rfl, Nat.le_of_ble_eq_true rfl⟩) rfl hl.1 rfl (Nat.le_of_ble_eq_true rfl) dX11_handRemove_57 ⟨Nat.zero_le _, Nat.zero_le _⟩ (fun H locs Z => ?_)
        refine lv_aload_n hx hb dX11_handRemove_60 rfl (lv_at hl 1 rfl) ?_
        refine mr_versions S X Z hin hl_44 dX11_handRemove_61 ?_
        refine lv_iload hx hb dX11_handRemove_64 (lv_at hl 0 rfl) ?_
        refine g_iald S X Z ml_versions rfl dX11_handRemove_66 h (fun v10 h => ?_)
        obtain ⟨J93, eJ93, h⟩ := jn_e h
        have hJ93 : ∀ (b11 : Int32) (M12 : gM) (H : Heap) (locs : List Loc) (ls : Array Slot), gZ D mLay dA mLive A (gA mLive A) s.heap M12 H locs → lv_has ls 9 [(0, .ref (A m_o)), (2, .int a2), (3, .int a3), (4, .int a4), (5, .int a5)] → J93 (b11, M12) = some y → W p l e (headSpec wmX11_handRemove ({ frames := 3, cells := 0, slots := 0, locals := 73 } : Room)).room s m args below meth c H locs 0 0 (MQ below (mQv D dA A y) args s 0 0 (gA mLive A)) (F0 m 93 ls [.int b11]) := by
          intro b11 M12 H locs ls Z hl h
          rw [eJ93] at h
          try dsimp only at h
          refine lv_istore (lv' := [(7, .int b11), (0, .ref (A m_o)), (2, .int a2), (3, .int a3), (4, .int a4), (5, .int a5)]) hx hb dX11_handRemove_93 hl (by decide) rfl (fun ls hl => ?_)
          refine lv_iconst (v := (1 : Int32)) hx hb dX11_handRemove_95 (by decide) ?_
          refine lv_istore (lv' := [(8, .int (1 : Int32)), (7, .int b11), (0, .ref (A m_o)), (2, .int a2), (3, .int a3), (4, .int a4), (5, .int a5)]) hx hb dX11_handRemove_96 hl (by decide) rfl (fun ls hl => ?_)
          obtain ⟨J152, eJ152, h⟩ := jn_e h
          have hJ152 : ∀ (b13 : Int32) (M14 : gM) (H : Heap) (locs : List Loc) (ls : Array Slot), gZ D mLay dA mLive A (gA mLive A) s.heap M14 H locs → lv_has ls 9 [(0, .ref (A m_o)), (2, .int a2), (3, .int a3), (4, .int a4), (5, .int a5), (7, .int b13)] → J152 (b13, M14) = some y → W p l e (headSpec wmX11_handRemove ({ frames := 3, cells := 0, slots := 0, locals := 73 } : Room)).room s m args below meth c H locs 0 0 (MQ below (mQv D dA A y) args s 0 0 (gA mLive A)) (F0 m 152 ls []) := by
            intro b13 M14 H locs ls Z hl h
            rw [eJ152] at h
            try dsimp only at h
            refine lv_iload hx hb dX11_handRemove_152 (lv_at hl 5 rfl) ?_
            refine lv_if_ne (tgt := 168) hx hb dX11_handRemove_154 (by decide) (fun c15 => ?_) (fun c15 => ?_)
            · have h := if_f c15 h
              refine lv_aload_n hx hb dX11_handRemove_168 rfl (lv_at hl 0 rfl) ?_
              refine lv_aload_n hx hb dX11_handRemove_169 rfl (lv_at hl 0 rfl) ?_
              refine mr_vector S X Z hin hl_41 dX11_handRemove_170 ?_
              refine lv_bipush (v := (48 : Int32)) hx hb dX11_handRemove_173 (by decide) ?_
              refine lv_iload hx hb dX11_handRemove_175 (lv_at hl 3 rfl) ?_
              refine lv_imul hx hb dX11_handRemove_177 ?_
              refine lv_iload_n hx hb dX11_handRemove_178 rfl (lv_at hl 1 rfl) ?_
              refine lv_iadd hx hb dX11_handRemove_179 ?_
              refine lv_aload_n hx hb dX11_handRemove_180 rfl (lv_at hl 0 rfl) ?_
              refine mr_directoryVector S X Z hin hl_122 dX11_handRemove_181 ?_
              refine lv_iconst (v := (0 : Int32)) hx hb dX11_handRemove_184 (by decide) ?_
              obtain ⟨M17, hc16, h⟩ := o1_e h
              refine g_Vv (As := [.ref (A m_vector), .int (((48 : Int32) * a4) + a2), .ref (A m_directoryVector), .int (0 : Int32)]) (rest := []) S X Z mlv_o rfl rfl (t_X11_copyTo l D dA A hJ ⟨ml_vector, rfl⟩ ⟨ml_directoryVector, rfl⟩ hc16) (cwV 4 hts (mGV (mB 139 rfl) (mB 140 rfl) (mB 141 rfl) (mB 63 rfl) (mB 97 rfl)) rfl rfl rfl (by decide +kernel) ⟨Nat.le_of_ble_eq_true rfl, Nat.le_of_ble_eq_true rfl⟩) rfl hl.1 rfl (Nat.le_of_ble_eq_true rfl) dX11_handRemove_185 ⟨Nat.zero_le _, Nat.zero_le _⟩ (fun H locs Z => ?_)
              refine lv_aload_n hx hb dX11_handRemove_188 rfl (lv_at hl 0 rfl) ?_
              refine lv_aload_n hx hb dX11_handRemove_189 rfl (lv_at hl 0 rfl) ?_
              refine lv_iload hx hb dX11_handRemove_190 (lv_at hl 4 rfl) ?_
              refine lv_iload_n hx hb dX11_handRemove_192 rfl (lv_at hl 1 rfl) ?_
              refine lv_aload_n hx hb dX11_handRemove_193 rfl (lv_at hl 0 rfl) ?_
              refine mr_directoryVector S X Z hin hl_122 dX11_handRemove_194 ?_
              obtain ⟨v19, hc18, h⟩ := o1_e h
              refine g_Vi (As := [.int a5, .int a2, .ref (A m_directoryVector)]) (rest := [.ref (A m_o)]) S X Z mlv_o rfl rfl (t_X11_setOf l D dA A hJ ⟨ml_directoryVector, rfl⟩ hc18) (cwV 3 hts (mGV (mB 228 rfl) (mB 229 rfl) (mB 230 rfl) (mB 63 rfl) (mB 185 rfl)) rfl rfl rfl (by decide +kernel) ⟨Nat.le_of_ble_eq_true rfl, Nat.le_of_ble_eq_true rfl⟩) rfl hl.1 rfl (Nat.le_of_ble_eq_true rfl) dX11_handRemove_197 ⟨Nat.zero_le _, Nat.zero_le _⟩ (fun H locs Z => ?_)
              refine mp_set S X Z hin hl_289 dX11_handRemove_200 h (fun M20 H locs Z h => ?_)
              refine lv_aload_n hx hb dX11_handRemove_203 rfl (lv_at hl 0 rfl) ?_
              refine lv_iload_n hx hb dX11_handRemove_204 rfl (lv_at hl 1 rfl) ?_
              refine lv_iload_n hx hb dX11_handRemove_205 rfl (lv_at hl 2 rfl) ?_
              obtain ⟨M22, hc21, h⟩ := o1_e h
              refine g_Vv (As := [.int a2, .int a3]) (rest := []) S X Z mlv_o rfl rfl (t_X11_putGone l D dA A hJ  hc21) (cwV 2 hts (mGV (mB 264 rfl) (mB 265 rfl) (mB 266 rfl) (mB 63 rfl) (mB 209 rfl)) rfl rfl rfl (by decide +kernel) ⟨Nat.le_of_ble_eq_true rfl, Nat.le_of_ble_eq_true rfl⟩) rfl hl.1 rfl (Nat.le_of_ble_eq_true rfl) dX11_handRemove_206 ⟨Nat.zero_le _, Nat.zero_le _⟩ (fun H locs Z => ?_)
              refine lv_aload_n hx hb dX11_handRemove_209 rfl (lv_at hl 0 rfl) ?_
              refine lv_iload_n hx hb dX11_handRemove_210 rfl (lv_at hl 1 rfl) ?_
              refine lv_aload_n hx hb dX11_handRemove_211 rfl (lv_at hl 0 rfl) ?_
              refine mr_set S X Z hin hl_289 dX11_handRemove_212 h (fun v23 h => ?_)
              refine lv_iconst (v := (-1 : Int32)) hx hb dX11_handRemove_215 (by decide) ?_
              obtain ⟨M25, hc24, h⟩ := o1_e h
              refine g_Vv (As := [.int a2, .int v23, .int (-1 : Int32)]) (rest := []) S X Z mlv_o rfl rfl (t_X11_endPromises l D dA A hJ  hc24) (cwV 3 hts (mGV (mB 211 rfl) (mB 212 rfl) (mB 213 rfl) (mB 63 rfl) (mB 196 rfl)) rfl rfl rfl (by decide +kernel) ⟨Nat.le_of_ble_eq_true rfl, Nat.le_of_ble_eq_true rfl⟩) rfl hl.1 rfl (Nat.le_of_ble_eq_true rfl) dX11_handRemove_216 ⟨Nat.zero_le _, Nat.zero_le _⟩ (fun H locs Z => ?_)
              refine lv_aload_n hx hb dX11_handRemove_219 rfl (lv_at hl 0 rfl) ?_
              refine lv_iload_n hx hb dX11_handRemove_220 rfl (lv_at hl 2 rfl) ?_
              refine lv_aload_n hx hb dX11_handRemove_221 rfl (lv_at hl 0 rfl) ?_
              refine mr_set S X Z hin hl_289 dX11_handRemove_222 h (fun v26 h => ?_)
              refine lv_iconst (v := (-1 : Int32)) hx hb dX11_handRemove_225 (by decide) ?_
              obtain ⟨M28, hc27, h⟩ := o1_e h
              refine g_Vv (As := [.int a3, .int v26, .int (-1 : Int32)]) (rest := []) S X Z mlv_o rfl rfl (t_X11_endPromises l D dA A hJ  hc27) (cwV 3 hts (mGV (mB 211 rfl) (mB 212 rfl) (mB 213 rfl) (mB 63 rfl) (mB 196 rfl)) rfl rfl rfl (by decide +kernel) ⟨Nat.le_of_ble_eq_true rfl, Nat.le_of_ble_eq_true rfl⟩) rfl hl.1 rfl (Nat.le_of_ble_eq_true rfl) dX11_handRemove_226 ⟨Nat.zero_le _, Nat.zero_le _⟩ (fun H locs Z => ?_)
              have hy := Option.some.inj h
              subst hy
              exact g_rv S Z hr hlocks dX11_handRemove_229
            · have h := if_t c15 h
              refine lv_aload_n hx hb dX11_handRemove_157 rfl (lv_at hl 0 rfl) ?_
              refine lv_dup hx hb dX11_handRemove_158 rfl ?_
              refine mr_refused S X Z hin hl_391 dX11_handRemove_159 h (fun v29 h => ?_)
              refine lv_iconst (v := (1 : Int32)) hx hb dX11_handRemove_162 (by decide) ?_
              refine lv_iadd hx hb dX11_handRemove_163 ?_
              refine mp_refused S X Z hin hl_391 dX11_handRemove_164 h (fun M30 H locs Z h => ?_)
              have hy := Option.some.inj h
              subst hy
              exact g_rv S Z hr hlocks dX11_handRemove_167
          have hL98 : ∀ (n : Nat) (x31 : Int32) (x32 : Int32) (M33 : gM) (H : Heap) (locs : List Loc) (ls : Array Slot), gZ D mLay dA mLive A (gA mLive A) s.heap M33 H locs → lv_has ls 9 [(0, .ref (A m_o)), (2, .int a2), (3, .int a3), (4, .int a4), (5, .int a5), (7, .int x31), (8, .int x32)] → f_X11_handRemove_L98 a2 a3 a4 a5 J152 n x31 x32 M33 = some y → W p l e (headSpec wmX11_handRemove ({ frames := 3, cells := 0, slots := 0, locals := 73 } : Room)).room s m args below meth c H locs 0 0 (MQ below (mQv D dA A y) args s 0 0 (gA mLive A)) (F0 m 98 ls []) := by
            intro n
            induction n with
            | zero =>
              intro x31 x32 M33 H locs ls Z hl h
              rw [f_X11_handRemove_L98] at h
              cases h
            | succ n34 ih98 =>
              intro x31 x32 M33 H locs ls Z hl h
              rw [f_X11_handRemove_L98] at h
              refine lv_iload hx hb dX11_handRemove_98 (lv_at hl 6 rfl) ?_
              refine lv_aload_n hx hb dX11_handRemove_100 rfl (lv_at hl 0 rfl) ?_
              refine mr_made S X Z hin hl_162 dX11_handRemove_101 h (fun v35 h => ?_)
              refine lv_icmp_ge (tgt := 152) hx hb dX11_handRemove_104 (by decide) (fun c36 => ?_) (fun c36 => ?_)
              · have h := if_t c36 h
                exact hJ152 x31 M33 _ _ _ Z (lv_sub hl [0, 1, 2, 3, 4, 5] rfl) h
              · have h := if_f c36 h
                refine lv_iload hx hb dX11_handRemove_107 (lv_at hl 5 rfl) ?_
                obtain ⟨J144, eJ144, h⟩ := jn_e h
                have hJ144 : ∀ (b37 : Int32) (M38 : gM) (H : Heap) (locs : List Loc) (ls : Array Slot), gZ D mLay dA mLive A (gA mLive A) s.heap M38 H locs → lv_has ls 9 [(0, .ref (A m_o)), (2, .int a2), (3, .int a3), (4, .int a4), (5, .int a5), (8, .int x32)] → J144 (b37, M38) = some y → W p l e (headSpec wmX11_handRemove ({ frames := 3, cells := 0, slots := 0, locals := 73 } : Room)).room s m args below meth c H locs 0 0 (MQ below (mQv D dA A y) args s 0 0 (gA mLive A)) (F0 m 144 ls [.int b37]) := by
                  intro b37 M38 H locs ls Z hl h
                  rw [eJ144] at h
                  try dsimp only at h
                  refine lv_istore (lv' := [(7, .int b37), (0, .ref (A m_o)), (2, .int a2), (3, .int a3), (4, .int a4), (5, .int a5), (8, .int x32)]) hx hb dX11_handRemove_144 hl (by decide) rfl (fun ls hl => ?_)
                  obtain ⟨x39, ex39, h⟩ := lt_e h
                  refine lv_iinc (v := x39) (lv' := [(8, .int x39), (7, .int b37), (0, .ref (A m_o)), (2, .int a2), (3, .int a3), (4, .int a4), (5, .int a5)]) hx hb dX11_handRemove_146 hl (k := 6) rfl (by rw [ex39]; rfl) (by decide) rfl (fun ls hl => ?_)
                  refine lv_goto (tgt := 98) hx hb dX11_handRemove_149 (by decide) ?_
                  exact ih98 b37 x39 M38 _ _ _ Z (lv_sub hl [2, 3, 4, 5, 6, 1, 0] rfl) h
                obtain ⟨J143, eJ143, h⟩ := jn_e h
                have hJ143 : ∀ (M40 : gM) (H : Heap) (locs : List Loc) (ls : Array Slot), gZ D mLay dA mLive A (gA mLive A) s.heap M40 H locs → lv_has ls 9 [(0, .ref (A m_o)), (2, .int a2), (3, .int a3), (4, .int a4), (5, .int a5), (8, .int x32)] → J143 M40 = some y → W p l e (headSpec wmX11_handRemove ({ frames := 3, cells := 0, slots := 0, locals := 73 } : Room)).room s m args below meth c H locs 0 0 (MQ below (mQv D dA A y) args s 0 0 (gA mLive A)) (F0 m 143 ls []) := by
                  intro M40 H locs ls Z hl h
                  rw [eJ143] at h
                  try dsimp only at h
                  refine lv_iconst (v := (0 : Int32)) hx hb dX11_handRemove_143 (by decide) ?_
                  exact hJ144 (0 : Int32) M40 _ _ _ Z (lv_sub hl [0, 1, 2, 3, 4, 5] rfl) h
                refine lv_if_eq (tgt := 143) hx hb dX11_handRemove_109 (by decide) (fun c41 => ?_) (fun c41 => ?_)
                · have h := if_t c41 h
                  exact hJ143 M33 _ _ _ Z (lv_sub hl [0, 1, 2, 3, 4, 6] rfl) h
                · have h := if_f c41 h
                  refine lv_aload_n hx hb dX11_handRemove_112 rfl (lv_at hl 0 rfl) ?_
                  refine lv_iload hx hb dX11_handRemove_113 (lv_at hl 6 rfl) ?_
                  refine lv_iload_n hx hb dX11_handRemove_115 rfl (lv_at hl 2 rfl) ?_
                  obtain ⟨v43, hc42, h⟩ := o1_e h
                  refine g_Vi (As := [.int x32, .int a3]) (rest := []) S X Z mlv_o rfl rfl (t_X11_isChild l D dA A hJ  hc42) (cwV 2 hts (mGV (mB 104 rfl) (mB 105 rfl) (mB 106 rfl) (mB 63 rfl) (mB 102 rfl)) rfl rfl rfl (by decide +kernel) ⟨Nat.le_of_ble_eq_true rfl, Nat.le_of_ble_eq_true rfl⟩) rfl hl.1 rfl (Nat.le_of_ble_eq_true rfl) dX11_handRemove_116 ⟨Nat.zero_le _, Nat.zero_le _⟩ (fun H locs Z => ?_)
                  obtain ⟨J139, eJ139, h⟩ := jn_e h
                  have hJ139 : ∀ (M44 : gM) (H : Heap) (locs : List Loc) (ls : Array Slot), gZ D mLay dA mLive A (gA mLive A) s.heap M44 H locs → lv_has ls 9 [(0, .ref (A m_o)), (2, .int a2), (3, .int a3), (4, .int a4), (5, .int a5), (8, .int x32)] → J139 M44 = some y → W p l e (headSpec wmX11_handRemove ({ frames := 3, cells := 0, slots := 0, locals := 73 } : Room)).room s m args below meth c H locs 0 0 (MQ below (mQv D dA A y) args s 0 0 (gA mLive A)) (F0 m 139 ls []) := by
                    intro M44 H locs ls Z hl h
                    rw [eJ139] at h
                    try dsimp only at h
                    refine lv_iconst (v := (1 : Int32)) hx hb dX11_handRemove_139 (by decide) ?_
                    refine lv_goto (tgt := 144) hx hb dX11_handRemove_140 (by decide) ?_
                    exact hJ144 (1 : Int32) M44 _ _ _ Z (lv_sub hl [0, 1, 2, 3, 4, 5] rfl) h
                  refine lv_if_eq (tgt := 139) hx hb dX11_handRemove_119 (by decide) (fun c45 => ?_) (fun c45 => ?_)
                  · have h := if_t c45 h
                    exact hJ139 M33 _ _ _ Z (lv_sub hl [0, 1, 2, 3, 4, 6] rfl) h
                  · have h := if_f c45 h
                    refine lv_aload_n hx hb dX11_handRemove_122 rfl (lv_at hl 0 rfl) ?_
                    refine mr_entry S X Z hin hl_56 dX11_handRemove_123 ?_
                    refine lv_bipush (v := (48 : Int32)) hx hb dX11_handRemove_126 (by decide) ?_
                    refine lv_iload hx hb dX11_handRemove_128 (lv_at hl 3 rfl) ?_
                    refine lv_imul hx hb dX11_handRemove_130 ?_
                    refine lv_iload hx hb dX11_handRemove_131 (lv_at hl 6 rfl) ?_
                    refine lv_iadd hx hb dX11_handRemove_133 ?_
                    refine g_iald S X Z ml_entry rfl dX11_handRemove_134 h (fun v46 h => ?_)
                    refine lv_iconst (v := (1 : Int32)) hx hb dX11_handRemove_135 (by decide) ?_
                    refine lv_icmp_eq (tgt := 143) hx hb dX11_handRemove_136 (by decide) (fun c47 => ?_) (fun c47 => ?_)
                    · have h := if_t c47 h
                      exact hJ143 M33 _ _ _ Z (lv_sub hl [0, 1, 2, 3, 4, 6] rfl) h
                    · have h := if_f c47 h
                      exact hJ139 M33 _ _ _ Z (lv_sub hl [0, 1, 2, 3, 4, 6] rfl) h
          exact hL98 100 b11 (1 : Int32) M12 _ _ _ Z (lv_sub hl [2, 3, 4, 5, 6, 1, 0] rfl) h
        obtain ⟨J92, eJ92, h⟩ := jn_e h
        have hJ92 : ∀ (M48 : gM) (H : Heap) (locs : List Loc) (ls : Array Slot), gZ D mLay dA mLive A (gA mLive A) s.heap M48 H locs → lv_has ls 9 [(0, .ref (A m_o)), (2, .int a2), (3, .int a3), (4, .int a4), (5, .int a5)] → J92 M48 = some y → W p l e (headSpec wmX11_handRemove ({ frames := 3, cells := 0, slots := 0, locals := 73 } : Room)).room s m args below meth c H locs 0 0 (MQ below (mQv D dA A y) args s 0 0 (gA mLive A)) (F0 m 92 ls []) := by
          intro M48 H locs ls Z hl h
          rw [eJ92] at h
          try dsimp only at h
          refine lv_iconst (v := (0 : Int32)) hx hb dX11_handRemove_92 (by decide) ?_
          exact hJ93 (0 : Int32) M48 _ _ _ Z (lv_sub hl [0, 1, 2, 3, 4] rfl) h
        refine lv_if_ne (tgt := 92) hx hb dX11_handRemove_67 (by decide) (fun c49 => ?_) (fun c49 => ?_)
        · have h := if_f c49 h
          exact hJ92 M9 _ _ _ Z (lv_sub hl [1, 3, 4, 5, 6] rfl) h
        · have h := if_t c49 h
          refine lv_aload_n hx hb dX11_handRemove_70 rfl (lv_at hl 1 rfl) ?_
          refine lv_aload_n hx hb dX11_handRemove_71 rfl (lv_at hl 1 rfl) ?_
          refine mr_vector S X Z hin hl_41 dX11_handRemove_72 ?_
          refine lv_iload hx hb dX11_handRemove_75 (lv_at hl 0 rfl) ?_
          refine lv_aload_n hx hb dX11_handRemove_77 rfl (lv_at hl 1 rfl) ?_
          refine mr_row S X Z hin hl_125 dX11_handRemove_78 ?_
          refine lv_iconst (v := (0 : Int32)) hx hb dX11_handRemove_81 (by decide) ?_
          obtain ⟨v51, hc50, h⟩ := o1_e h
          refine g_Vi (As := [.ref (A m_vector), .int x1, .ref (A m_row), .int (0 : Int32)]) (rest := []) S X Z mlv_o rfl rfl (t_X11_isAtMost l D dA A hJ ⟨ml_vector, rfl⟩ ⟨ml_row, rfl⟩ hc50) (cwV 4 hts (mGV (mB 143 rfl) (mB 144 rfl) (mB 145 rfl) (mB 63 rfl) (mB 95 rfl)) rfl rfl rfl (by decide +kernel) ⟨Nat.le_of_ble_eq_true rfl, Nat.le_of_ble_eq_true rfl⟩) rfl hl.1 rfl (Nat.le_of_ble_eq_true rfl) dX11_handRemove_82 ⟨Nat.zero_le _, Nat.zero_le _⟩ (fun H locs Z => ?_)
          refine lv_if_eq (tgt := 92) hx hb dX11_handRemove_85 (by decide) (fun c52 => ?_) (fun c52 => ?_)
          · have h := if_t c52 h
            exact hJ92 M9 _ _ _ Z (lv_sub hl [1, 3, 4, 5, 6] rfl) h
          · have h := if_f c52 h
            refine lv_iconst (v := (1 : Int32)) hx hb dX11_handRemove_88 (by decide) ?_
            refine lv_goto (tgt := 93) hx hb dX11_handRemove_89 (by decide) ?_
            exact hJ93 (1 : Int32) M9 _ _ _ Z (lv_sub hl [1, 3, 4, 5, 6] rfl) h
      · have h := if_f c7 h
        have hy := Option.some.inj h
        subst hy
        exact g_rv S Z hr hlocks dX11_handRemove_45
-- X11_handIn (I)J: 116 instructions
theorem dX11_handIn_0 : decode cX11_handIn 0 = .ok (.aload_n 0, 1) := by decide +kernel
theorem dX11_handIn_1 : decode cX11_handIn 1 = .ok (.iload_n 1, 1) := by decide +kernel
theorem dX11_handIn_2 : decode cX11_handIn 2 = .ok (.invokestatic 191, 3) := by decide +kernel
theorem dX11_handIn_5 : decode cX11_handIn 5 = .ok (.ifCond .eq 7, 3) := by decide +kernel
theorem dX11_handIn_8 : decode cX11_handIn 8 = .ok (.iconst 0, 1) := by decide +kernel
theorem dX11_handIn_9 : decode cX11_handIn 9 = .ok (.goto 4, 3) := by decide +kernel
theorem dX11_handIn_12 : decode cX11_handIn 12 = .ok (.iconst 1, 1) := by decide +kernel
theorem dX11_handIn_13 : decode cX11_handIn 13 = .ok (.putfield 165, 3) := by decide +kernel
theorem dX11_handIn_16 : decode cX11_handIn 16 = .ok (.aload_n 0, 1) := by decide +kernel
theorem dX11_handIn_17 : decode cX11_handIn 17 = .ok (.getfield 165, 3) := by decide +kernel
theorem dX11_handIn_20 : decode cX11_handIn 20 = .ok (.ifCond .le 5, 3) := by decide +kernel
theorem dX11_handIn_23 : decode cX11_handIn 23 = .ok (.lconst 0, 1) := by decide +kernel
theorem dX11_handIn_24 : decode cX11_handIn 24 = .ok (.lreturn, 1) := by decide +kernel
theorem dX11_handIn_25 : decode cX11_handIn 25 = .ok (.aload_n 0, 1) := by decide +kernel
theorem dX11_handIn_26 : decode cX11_handIn 26 = .ok (.iload_n 1, 1) := by decide +kernel
theorem dX11_handIn_27 : decode cX11_handIn 27 = .ok (.invokevirtual 180, 3) := by decide +kernel
theorem dX11_handIn_30 : decode cX11_handIn 30 = .ok (.istore_n 2, 1) := by decide +kernel
theorem dX11_handIn_31 : decode cX11_handIn 31 = .ok (.iload_n 2, 1) := by decide +kernel
theorem dX11_handIn_32 : decode cX11_handIn 32 = .ok (.ifCond .ne 7, 3) := by decide +kernel
theorem dX11_handIn_35 : decode cX11_handIn 35 = .ok (.ldc2_w 371, 3) := by decide +kernel
theorem dX11_handIn_38 : decode cX11_handIn 38 = .ok (.lreturn, 1) := by decide +kernel
theorem dX11_handIn_39 : decode cX11_handIn 39 = .ok (.aload_n 0, 1) := by decide +kernel
theorem dX11_handIn_40 : decode cX11_handIn 40 = .ok (.getfield 98, 3) := by decide +kernel
theorem dX11_handIn_43 : decode cX11_handIn 43 = .ok (.iload_n 1, 1) := by decide +kernel
theorem dX11_handIn_44 : decode cX11_handIn 44 = .ok (.iaload, 1) := by decide +kernel
theorem dX11_handIn_45 : decode cX11_handIn 45 = .ok (.istore_n 3, 1) := by decide +kernel
theorem dX11_handIn_46 : decode cX11_handIn 46 = .ok (.iload_n 2, 1) := by decide +kernel
theorem dX11_handIn_47 : decode cX11_handIn 47 = .ok (.invokestatic 373, 3) := by decide +kernel
theorem dX11_handIn_50 : decode cX11_handIn 50 = .ok (.istore 4, 2) := by decide +kernel
theorem dX11_handIn_52 : decode cX11_handIn 52 = .ok (.iconst 0, 1) := by decide +kernel
theorem dX11_handIn_53 : decode cX11_handIn 53 = .ok (.istore 5, 2) := by decide +kernel
theorem dX11_handIn_55 : decode cX11_handIn 55 = .ok (.iload 5, 2) := by decide +kernel
theorem dX11_handIn_57 : decode cX11_handIn 57 = .ok (.iload_n 3, 1) := by decide +kernel
theorem dX11_handIn_58 : decode cX11_handIn 58 = .ok (.if_icmp .ge 100, 3) := by decide +kernel
theorem dX11_handIn_61 : decode cX11_handIn 61 = .ok (.bipush 12, 2) := by decide +kernel
theorem dX11_handIn_63 : decode cX11_handIn 63 = .ok (.iload_n 1, 1) := by decide +kernel
theorem dX11_handIn_64 : decode cX11_handIn 64 = .ok (.imul, 1) := by decide +kernel
theorem dX11_handIn_65 : decode cX11_handIn 65 = .ok (.iload 5, 2) := by decide +kernel
theorem dX11_handIn_67 : decode cX11_handIn 67 = .ok (.iadd, 1) := by decide +kernel
theorem dX11_handIn_68 : decode cX11_handIn 68 = .ok (.istore 6, 2) := by decide +kernel
theorem dX11_handIn_70 : decode cX11_handIn 70 = .ok (.aload_n 0, 1) := by decide +kernel
theorem dX11_handIn_71 : decode cX11_handIn 71 = .ok (.getfield 104, 3) := by decide +kernel
theorem dX11_handIn_74 : decode cX11_handIn 74 = .ok (.iload 6, 2) := by decide +kernel
theorem dX11_handIn_76 : decode cX11_handIn 76 = .ok (.iaload, 1) := by decide +kernel
theorem dX11_handIn_77 : decode cX11_handIn 77 = .ok (.istore 7, 2) := by decide +kernel
theorem dX11_handIn_79 : decode cX11_handIn 79 = .ok (.aload_n 0, 1) := by decide +kernel
theorem dX11_handIn_80 : decode cX11_handIn 80 = .ok (.getfield 101, 3) := by decide +kernel
theorem dX11_handIn_83 : decode cX11_handIn 83 = .ok (.iload 6, 2) := by decide +kernel
theorem dX11_handIn_85 : decode cX11_handIn 85 = .ok (.iaload, 1) := by decide +kernel
theorem dX11_handIn_86 : decode cX11_handIn 86 = .ok (.ifCond .ne 18, 3) := by decide +kernel
theorem dX11_handIn_89 : decode cX11_handIn 89 = .ok (.aload_n 0, 1) := by decide +kernel
theorem dX11_handIn_90 : decode cX11_handIn 90 = .ok (.iload_n 1, 1) := by decide +kernel
theorem dX11_handIn_91 : decode cX11_handIn 91 = .ok (.iload 6, 2) := by decide +kernel
theorem dX11_handIn_93 : decode cX11_handIn 93 = .ok (.iload 7, 2) := by decide +kernel
theorem dX11_handIn_95 : decode cX11_handIn 95 = .ok (.iload 4, 2) := by decide +kernel
theorem dX11_handIn_97 : decode cX11_handIn 97 = .ok (.iload_n 2, 1) := by decide +kernel
theorem dX11_handIn_98 : decode cX11_handIn 98 = .ok (.invokevirtual 376, 3) := by decide +kernel
theorem dX11_handIn_101 : decode cX11_handIn 101 = .ok (.goto 51, 3) := by decide +kernel
theorem dX11_handIn_104 : decode cX11_handIn 104 = .ok (.aload_n 0, 1) := by decide +kernel
theorem dX11_handIn_105 : decode cX11_handIn 105 = .ok (.getfield 101, 3) := by decide +kernel
theorem dX11_handIn_108 : decode cX11_handIn 108 = .ok (.iload 6, 2) := by decide +kernel
theorem dX11_handIn_110 : decode cX11_handIn 110 = .ok (.iaload, 1) := by decide +kernel
theorem dX11_handIn_111 : decode cX11_handIn 111 = .ok (.iconst 1, 1) := by decide +kernel
theorem dX11_handIn_112 : decode cX11_handIn 112 = .ok (.if_icmp .ne 22, 3) := by decide +kernel
theorem dX11_handIn_115 : decode cX11_handIn 115 = .ok (.aload_n 0, 1) := by decide +kernel
theorem dX11_handIn_116 : decode cX11_handIn 116 = .ok (.aload_n 0, 1) := by decide +kernel
theorem dX11_handIn_117 : decode cX11_handIn 117 = .ok (.getfield 107, 3) := by decide +kernel
theorem dX11_handIn_120 : decode cX11_handIn 120 = .ok (.iload 6, 2) := by decide +kernel
theorem dX11_handIn_122 : decode cX11_handIn 122 = .ok (.iaload, 1) := by decide +kernel
theorem dX11_handIn_123 : decode cX11_handIn 123 = .ok (.iload 7, 2) := by decide +kernel
theorem dX11_handIn_125 : decode cX11_handIn 125 = .ok (.iload 4, 2) := by decide +kernel
theorem dX11_handIn_127 : decode cX11_handIn 127 = .ok (.iload_n 2, 1) := by decide +kernel
theorem dX11_handIn_128 : decode cX11_handIn 128 = .ok (.invokevirtual 379, 3) := by decide +kernel
theorem dX11_handIn_131 : decode cX11_handIn 131 = .ok (.goto 21, 3) := by decide +kernel
theorem dX11_handIn_134 : decode cX11_handIn 134 = .ok (.aload_n 0, 1) := by decide +kernel
theorem dX11_handIn_135 : decode cX11_handIn 135 = .ok (.iload 6, 2) := by decide +kernel
theorem dX11_handIn_137 : decode cX11_handIn 137 = .ok (.aload_n 0, 1) := by decide +kernel
theorem dX11_handIn_138 : decode cX11_handIn 138 = .ok (.getfield 107, 3) := by decide +kernel
theorem dX11_handIn_141 : decode cX11_handIn 141 = .ok (.iload 6, 2) := by decide +kernel
theorem dX11_handIn_143 : decode cX11_handIn 143 = .ok (.iaload, 1) := by decide +kernel
theorem dX11_handIn_144 : decode cX11_handIn 144 = .ok (.iload 7, 2) := by decide +kernel
theorem dX11_handIn_146 : decode cX11_handIn 146 = .ok (.iload 4, 2) := by decide +kernel
theorem dX11_handIn_148 : decode cX11_handIn 148 = .ok (.iload_n 2, 1) := by decide +kernel
theorem dX11_handIn_149 : decode cX11_handIn 149 = .ok (.invokevirtual 382, 3) := by decide +kernel
theorem dX11_handIn_152 : decode cX11_handIn 152 = .ok (.iinc 5 1, 3) := by decide +kernel
theorem dX11_handIn_155 : decode cX11_handIn 155 = .ok (.goto (-100), 3) := by decide +kernel
theorem dX11_handIn_158 : decode cX11_handIn 158 = .ok (.aload_n 0, 1) := by decide +kernel
theorem dX11_handIn_159 : decode cX11_handIn 159 = .ok (.getfield 98, 3) := by decide +kernel
theorem dX11_handIn_162 : decode cX11_handIn 162 = .ok (.iload_n 1, 1) := by decide +kernel
theorem dX11_handIn_163 : decode cX11_handIn 163 = .ok (.iconst 0, 1) := by decide +kernel
theorem dX11_handIn_164 : decode cX11_handIn 164 = .ok (.iastore, 1) := by decide +kernel
theorem dX11_handIn_165 : decode cX11_handIn 165 = .ok (.iconst 0, 1) := by decide +kernel
theorem dX11_handIn_166 : decode cX11_handIn 166 = .ok (.istore 5, 2) := by decide +kernel
theorem dX11_handIn_168 : decode cX11_handIn 168 = .ok (.iload 5, 2) := by decide +kernel
theorem dX11_handIn_170 : decode cX11_handIn 170 = .ok (.bipush 48, 2) := by decide +kernel
theorem dX11_handIn_172 : decode cX11_handIn 172 = .ok (.if_icmp .ge 35, 3) := by decide +kernel
theorem dX11_handIn_175 : decode cX11_handIn 175 = .ok (.iload_n 3, 1) := by decide +kernel
theorem dX11_handIn_176 : decode cX11_handIn 176 = .ok (.ifCond .le 31, 3) := by decide +kernel
theorem dX11_handIn_179 : decode cX11_handIn 179 = .ok (.aload_n 0, 1) := by decide +kernel
theorem dX11_handIn_180 : decode cX11_handIn 180 = .ok (.getfield 80, 3) := by decide +kernel
theorem dX11_handIn_183 : decode cX11_handIn 183 = .ok (.bipush 48, 2) := by decide +kernel
theorem dX11_handIn_185 : decode cX11_handIn 185 = .ok (.iload_n 1, 1) := by decide +kernel
theorem dX11_handIn_186 : decode cX11_handIn 186 = .ok (.imul, 1) := by decide +kernel
theorem dX11_handIn_187 : decode cX11_handIn 187 = .ok (.iload 5, 2) := by decide +kernel
theorem dX11_handIn_189 : decode cX11_handIn 189 = .ok (.iadd, 1) := by decide +kernel
theorem dX11_handIn_190 : decode cX11_handIn 190 = .ok (.baload, 1) := by decide +kernel
theorem dX11_handIn_191 : decode cX11_handIn 191 = .ok (.ifCond .eq 10, 3) := by decide +kernel
theorem dX11_handIn_194 : decode cX11_handIn 194 = .ok (.aload_n 0, 1) := by decide +kernel
theorem dX11_handIn_195 : decode cX11_handIn 195 = .ok (.iload_n 1, 1) := by decide +kernel
theorem dX11_handIn_196 : decode cX11_handIn 196 = .ok (.iload 5, 2) := by decide +kernel
theorem dX11_handIn_198 : decode cX11_handIn 198 = .ok (.invokevirtual 224, 3) := by decide +kernel
theorem dX11_handIn_201 : decode cX11_handIn 201 = .ok (.iinc 5 1, 3) := by decide +kernel
theorem dX11_handIn_204 : decode cX11_handIn 204 = .ok (.goto (-36), 3) := by decide +kernel
theorem dX11_handIn_207 : decode cX11_handIn 207 = .ok (.iload_n 3, 1) := by decide +kernel
theorem dX11_handIn_208 : decode cX11_handIn 208 = .ok (.i2l, 1) := by decide +kernel
theorem dX11_handIn_209 : decode cX11_handIn 209 = .ok (.lreturn, 1) := by decide +kernel
abbrev wmX11_handIn : List Cond := .code yX11_handIn cX11_handIn 8 (some .long) :: mBig
def f_X11_handIn_L168 (a1 : Int32) (v11 : Int32) : Nat → Int32 → gM → Option (Int64 × gM)
  | 0, _, _ => none
  | n18 + 1, x16, M17 => (if (48 : Int32) ≤ x16 then some (v11.toInt64, M17) else (if v11 ≤ 0 then some (v11.toInt64, M17) else rd M17 m_dirty 192 (((48 : Int32) * a1) + x16) (fun v21 => jn (fun (M22 : gM) => lt (x16 + 1) (fun x23 => f_X11_handIn_L168 a1 v11 n18 x23 M22)) (fun J201 => (if v21 = 0 then J201 M17 else o1 (f_X11_forget M17 a1 x16) (fun M26 => J201 M26))))))
def f_X11_handIn_L55 (a1 : Int32) (v9 : Int32) (v11 : Int32) (v13 : Int32) (J158 : gM → Option (Int64 × gM)) : Nat → Int32 → gM → Option (Int64 × gM)
  | 0, _, _ => none
  | n29 + 1, x27, M28 => (if v11 ≤ x27 then J158 M28 else lt ((((12 : Int32) * a1) + x27)) (fun x31 => rd M28 m_recordObject 48 x31 (fun v32 => rd M28 m_recordKind 48 x31 (fun v33 => jn (fun (M34 : gM) => lt (x27 + 1) (fun x35 => f_X11_handIn_L55 a1 v9 v11 v13 J158 n29 x35 M34)) (fun J152 => (if v33 = 0 then o1 (f_X11_handWrite M28 a1 x31 v32 v13 v9) (fun M46 => J152 M46) else rd M28 m_recordKind 48 x31 (fun v37 => (if v37 = (1 : Int32) then rd M28 m_recordDirectory 48 x31 (fun v42 => o1 (f_X11_handMake M28 v42 v32 v13 v9) (fun M44 => J152 M44)) else rd M28 m_recordDirectory 48 x31 (fun v39 => o1 (f_X11_handRemove M28 x31 v39 v32 v13 v9) (fun M41 => J152 M41))))))))))
def f_X11_handIn (M : gM) (a1 : Int32) : Option (Int64 × gM) :=
  o1 (f_X11_isClient M a1) (fun v2 => jn (fun (q : (Int32 × gM)) => match q with | (b3, M4) => lt (gset M4 m_o 66 b3) (fun M5 => lt (M5 m_o 66) (fun v6 => (if v6 ≤ 0 then o1 (f_X11_nearSet M5 a1) (fun v9 => (if v9 = 0 then some ((-2199023255560 : Int64), M5) else rd M5 m_records 4 a1 (fun v11 => o1 (f_X11_leastOf M5 v9) (fun v13 => jn (fun (M14 : gM) => wr M14 m_records 4 a1 (0 : Int32) (fun M15 => f_X11_handIn_L168 a1 v11 100 (0 : Int32) M15)) (fun J158 => f_X11_handIn_L55 a1 v9 v11 v13 J158 100 (0 : Int32) M5))))) else some ((0 : Int64), M5))))) (fun J13 => (if v2 = 0 then J13 ((1 : Int32), M) else J13 ((0 : Int32), M))))
set_option maxHeartbeats 4000000 in
set_option maxRecDepth 100000 in
theorem t_X11_handIn (l : Launch) (D : va_G) (dA : Nat → ClassId) (A : gI → Nat) (hJ : gJ mLive A) {M : gM} {a1 : Int32}  {y : (Int64 × gM)} (h : f_X11_handIn M a1 = some y) : mMl l yX11_handIn wmX11_handIn ({ frames := 4, cells := 0, slots := 0, locals := 101 } : Room) D dA A [.ref (A m_o), .int a1] M y.1 y.2 := by
  refine Met.ofW (cc := cX11_handIn) (maxL := 8) (ret := (some .long)) (by decide) rfl ?_
  intro p e s m args below meth c s₁ B hml hv
  obtain ⟨rfl, hP, hK⟩ := hv
  generalize hargs : ([.ref (A m_o), .int a1] : List Value).toArray = args at B ⊢
  have S : CallFix p m c cX11_handIn 8 s args wmX11_handIn RX11 := ⟨B.exec, B.bytes, hml, findClass_of_methodNamed B.named, atoms_spec (ws := wmX11_handIn) B.pre⟩
  obtain ⟨hx, hb, -, hown, hts⟩ := id S
  have hr := B.returns
  have hlocks := B.notSynchronized
  have X : gX D vwCl dA mLive A (gA mLive A) s := ⟨hK, hJ, fun i hi => ⟨i, hi, rfl⟩⟩
  have Z : gZ D mLay dA mLive A (gA mLive A) s.heap M s.heap [] := ⟨hP, va_S.rf⟩
  have hin : ∀ w ∈ wsX110, w ∈ wmX11_handIn := m_in
  have hl_80 := hts (.fieldLink RX11 80 "ReplicaFilesModel" "dirty" "[Z") (mBc 28 rfl)
  have hl_98 := hts (.fieldLink RX11 98 "ReplicaFilesModel" "records" "[I") (mBc 34 rfl)
  have hl_101 := hts (.fieldLink RX11 101 "ReplicaFilesModel" "recordKind" "[I") (mBc 35 rfl)
  have hl_104 := hts (.fieldLink RX11 104 "ReplicaFilesModel" "recordObject" "[I") (mBc 36 rfl)
  have hl_107 := hts (.fieldLink RX11 107 "ReplicaFilesModel" "recordDirectory" "[I") (mBc 37 rfl)
  have hl_165 := hts (.fieldLink RX11 165 "ReplicaFilesModel" "thrown" "I") (mBc 58 rfl)
  have hc_371 := hts (.constantLong RX11 371 (-2199023255560)) (mBc 276 rfl)
  have hl := lv_entry ([.ref (A m_o), .int a1]) (n := 8) (Nat.le_of_ble_eq_true rfl)
  rw [← hargs, lg_entry_eq, hargs]
  generalize (lg_sl ([.ref (A m_o), .int a1]) ++ List.replicate (8 - (lg_sl ([.ref (A m_o), .int a1])).length) Slot.unset).toArray = ls at hl ⊢
  have hl : lv_has ls 8 [(0, .ref (A m_o)), (1, .int a1)] := hl
  unfold f_X11_handIn at h
  refine lv_aload_n hx hb dX11_handIn_0 rfl (lv_at hl 0 rfl) ?_
  refine lv_iload_n hx hb dX11_handIn_1 rfl (lv_at hl 1 rfl) ?_
  obtain ⟨v2, hc1, h⟩ := o1_e h
  refine g_Si (As := [.int a1]) (rest := [.ref (A m_o)]) S X Z (t_X11_isClient l D dA A hJ  hc1) (va_cwS 1 hts (mGS (mB 91 rfl) (mB 92 rfl) (mB 63 rfl) (mB 64 rfl)) rfl rfl rfl (by decide +kernel) ⟨Nat.le_of_ble_eq_true rfl, Nat.le_of_ble_eq_true rfl⟩) rfl hl.1 rfl (Nat.le_of_ble_eq_true rfl) dX11_handIn_2 ⟨Nat.zero_le _, Nat.zero_le _⟩ (fun H locs Z => ?_)
  obtain ⟨J13, eJ13, h⟩ := jn_e h
  have hJ13 : ∀ (b3 : Int32) (M4 : gM) (H : Heap) (locs : List Loc) (ls : Array Slot), gZ D mLay dA mLive A (gA mLive A) s.heap M4 H locs → lv_has ls 8 [(0, .ref (A m_o)), (1, .int a1)] → J13 (b3, M4) = some y → W p l e (headSpec wmX11_handIn ({ frames := 4, cells := 0, slots := 0, locals := 101 } : Room)).room s m args below meth c H locs 0 0 (MQ below (mQl D dA A y) args s 0 0 (gA mLive A)) (F0 m 13 ls [.int b3, .ref (A m_o)]) := by
    intro b3 M4 H locs ls Z hl h
    rw [eJ13] at h
    try dsimp only at h
    refine mp_thrown S X Z hin hl_165 dX11_handIn_13 h (fun M5 H locs Z h => ?_)
    refine lv_aload_n hx hb dX11_handIn_16 rfl (lv_at hl 0 rfl) ?_
    refine mr_thrown S X Z hin hl_165 dX11_handIn_17 h (fun v6 h => ?_)
    refine lv_if_le (tgt := 25) hx hb dX11_handIn_20 (by decide) (fun c7 => ?_) (fun c7 => ?_)
    · have h := if_t c7 h
      refine lv_aload_n hx hb dX11_handIn_25 rfl (lv_at hl 0 rfl) ?_
      refine lv_iload_n hx hb dX11_handIn_26 rfl (lv_at hl 1 rfl) ?_
      obtain ⟨v9, hc8, h⟩ := o1_e h
      refine g_Vi (As := [.int a1]) (rest := []) S X Z mlv_o rfl rfl (t_X11_nearSet l D dA A hJ  hc8) (cwV 1 hts (mGV (mB 75 rfl) (mB 76 rfl) (mB 77 rfl) (mB 63 rfl) (mB 70 rfl)) rfl rfl rfl (by decide +kernel) ⟨Nat.le_of_ble_eq_true rfl, Nat.le_of_ble_eq_true rfl⟩) rfl hl.1 rfl (Nat.le_of_ble_eq_true rfl) dX11_handIn_27 ⟨Nat.zero_le _, Nat.zero_le _⟩ (fun H locs Z => ?_)
      refine lv_istore_n (lv' := [(2, .int v9), (0, .ref (A m_o)), (1, .int a1)]) hx hb dX11_handIn_30 rfl hl (by decide) rfl (fun ls hl => ?_)
      refine lv_iload_n hx hb dX11_handIn_31 rfl (lv_at hl 0 rfl) ?_
      refine lv_if_ne (tgt := 39) hx hb dX11_handIn_32 (by decide) (fun c10 => ?_) (fun c10 => ?_)
      · have h := if_f c10 h
        refine lv_aload_n hx hb dX11_handIn_39 rfl (lv_at hl 1 rfl) ?_
        refine mr_records S X Z hin hl_98 dX11_handIn_40 ?_
        refine lv_iload_n hx hb dX11_handIn_43 rfl (lv_at hl 2 rfl) ?_
        refine g_iald S X Z ml_records rfl dX11_handIn_44 h (fun v11 h => ?_)
        refine lv_istore_n (lv' := [(3, .int v11), (2, .int v9), (0, .ref (A m_o)), (1, .int a1)]) hx hb dX11_handIn_45 rfl hl (by decide) rfl (fun ls hl => ?_)
        refine lv_iload_n hx hb dX11_handIn_46 rfl (lv_at hl 1 rfl) ?_
        obtain ⟨v13, hc12, h⟩ := o1_e h
        refine g_Si (As := [.int v9]) (rest := []) S X Z (t_X11_leastOf l D dA A hJ  hc12) (va_cwS 1 hts (mGS (mB 277 rfl) (mB 278 rfl) (mB 63 rfl) (mB 78 rfl)) rfl rfl rfl (by decide +kernel) ⟨Nat.le_of_ble_eq_true rfl, Nat.le_of_ble_eq_true rfl⟩) rfl hl.1 rfl (Nat.le_of_ble_eq_true rfl) dX11_handIn_47 ⟨Nat.zero_le _, Nat.zero_le _⟩ (fun H locs Z => ?_)
        refine lv_istore (lv' := [(4, .int v13), (3, .int v11), (2, .int v9), (0, .ref (A m_o)), (1, .int a1)]) hx hb dX11_handIn_50 hl (by decide) rfl (fun ls hl => ?_)
        refine lv_iconst (v := (0 : Int32)) hx hb dX11_handIn_52 (by decide) ?_
        refine lv_istore (lv' := [(5, .int (0 : Int32)), (4, .int v13), (3, .int v11), (2, .int v9), (0, .ref (A m_o)), (1, .int a1)]) hx hb dX11_handIn_53 hl (by decide) rfl (fun ls hl => ?_)
        obtain ⟨J158, eJ158, h⟩ := jn_e h
        have hJ158 : ∀ (M14 : gM) (H : Heap) (locs : List Loc) (ls : Array Slot), gZ D mLay dA mLive A (gA mLive A) s.heap M14 H locs → lv_has ls 8 [(0, .ref (A m_o)), (1, .int a1), (3, .int v11)] → J158 M14 = some y → W p l e (headSpec wmX11_handIn ({ frames := 4, cells := 0, slots := 0, locals := 101 } : Room)).room s m args below meth c H locs 0 0 (MQ below (mQl D dA A y) args s 0 0 (gA mLive A)) (F0 m 158 ls []) := by
          intro M14 H locs ls Z hl h
          rw [eJ158] at h
          try dsimp only at h
          refine lv_aload_n hx hb dX11_handIn_158 rfl (lv_at hl 0 rfl) ?_
          refine mr_records S X Z hin hl_98 dX11_handIn_159 ?_
          refine lv_iload_n hx hb dX11_handIn_162 rfl (lv_at hl 1 rfl) ?_
          refine lv_iconst (v := (0 : Int32)) hx hb dX11_handIn_163 (by decide) ?_
          refine g_iast S X Z ml_records rfl dX11_handIn_164 h (fun M15 H locs Z h => ?_)
          refine lv_iconst (v := (0 : Int32)) hx hb dX11_handIn_165 (by decide) ?_
          refine lv_istore (lv' := [(5, .int (0 : Int32)), (0, .ref (A m_o)), (1, .int a1), (3, .int v11)]) hx hb dX11_handIn_166 hl (by decide) rfl (fun ls hl => ?_)
          have hL168 : ∀ (n : Nat) (x16 : Int32) (M17 : gM) (H : Heap) (locs : List Loc) (ls : Array Slot), gZ D mLay dA mLive A (gA mLive A) s.heap M17 H locs → lv_has ls 8 [(0, .ref (A m_o)), (1, .int a1), (3, .int v11), (5, .int x16)] → f_X11_handIn_L168 a1 v11 n x16 M17 = some y → W p l e (headSpec wmX11_handIn ({ frames := 4, cells := 0, slots := 0, locals := 101 } : Room)).room s m args below meth c H locs 0 0 (MQ below (mQl D dA A y) args s 0 0 (gA mLive A)) (F0 m 168 ls []) := by
            intro n
            induction n with
            | zero =>
              intro x16 M17 H locs ls Z hl h
              rw [f_X11_handIn_L168] at h
              cases h
            | succ n18 ih168 =>
              intro x16 M17 H locs ls Z hl h
              rw [f_X11_handIn_L168] at h
              refine lv_iload hx hb dX11_handIn_168 (lv_at hl 3 rfl) ?_
              refine lv_bipush (v := (48 : Int32)) hx hb dX11_handIn_170 (by decide) ?_
              refine lv_icmp_ge (tgt := 207) hx hb dX11_handIn_172 (by decide) (fun c19 => ?_) (fun c19 => ?_)
              · have h := if_t c19 h
                refine lv_iload_n hx hb dX11_handIn_207 rfl (lv_at hl 2 rfl) ?_
                refine lv_i2l hx hb dX11_handIn_208 rfl ?_
                have hy := Option.some.inj h
                subst hy
                exact g_rl S Z hr hlocks dX11_handIn_209
              · have h := if_f c19 h
                refine lv_iload_n hx hb dX11_handIn_175 rfl (lv_at hl 2 rfl) ?_
                refine lv_if_le (tgt := 207) hx hb dX11_handIn_176 (by decide) (fun c20 => ?_) (fun c20 => ?_)
                · have h := if_t c20 h
                  refine lv_iload_n hx hb dX11_handIn_207 rfl (lv_at hl 2 rfl) ?_
                  refine lv_i2l hx hb dX11_handIn_208 rfl ?_
                  have hy := Option.some.inj h
                  subst hy
                  exact g_rl S Z hr hlocks dX11_handIn_209
                · have h := if_f c20 h
                  refine lv_aload_n hx hb dX11_handIn_179 rfl (lv_at hl 0 rfl) ?_
                  refine mr_dirty S X Z hin hl_80 dX11_handIn_180 ?_
                  refine lv_bipush (v := (48 : Int32)) hx hb dX11_handIn_183 (by decide) ?_
                  refine lv_iload_n hx hb dX11_handIn_185 rfl (lv_at hl 1 rfl) ?_
                  refine lv_imul hx hb dX11_handIn_186 ?_
                  refine lv_iload hx hb dX11_handIn_187 (lv_at hl 3 rfl) ?_
                  refine lv_iadd hx hb dX11_handIn_189 ?_
                  refine g_zald S X Z ml_dirty rfl dX11_handIn_190 h (fun v21 h => ?_)
                  obtain ⟨J201, eJ201, h⟩ := jn_e h
                  have hJ201 : ∀ (M22 : gM) (H : Heap) (locs : List Loc) (ls : Array Slot), gZ D mLay dA mLive A (gA mLive A) s.heap M22 H locs → lv_has ls 8 [(0, .ref (A m_o)), (1, .int a1), (3, .int v11), (5, .int x16)] → J201 M22 = some y → W p l e (headSpec wmX11_handIn ({ frames := 4, cells := 0, slots := 0, locals := 101 } : Room)).room s m args below meth c H locs 0 0 (MQ below (mQl D dA A y) args s 0 0 (gA mLive A)) (F0 m 201 ls []) := by
                    intro M22 H locs ls Z hl h
                    rw [eJ201] at h
                    try dsimp only at h
                    obtain ⟨x23, ex23, h⟩ := lt_e h
                    refine lv_iinc (v := x23) (lv' := [(5, .int x23), (0, .ref (A m_o)), (1, .int a1), (3, .int v11)]) hx hb dX11_handIn_201 hl (k := 3) rfl (by rw [ex23]; rfl) (by decide) rfl (fun ls hl => ?_)
                    refine lv_goto (tgt := 168) hx hb dX11_handIn_204 (by decide) ?_
                    exact ih168 x23 M22 _ _ _ Z (lv_sub hl [1, 2, 3, 0] rfl) h
                  refine lv_if_eq (tgt := 201) hx hb dX11_handIn_191 (by decide) (fun c24 => ?_) (fun c24 => ?_)
                  · have h := if_t c24 h
                    exact hJ201 M17 _ _ _ Z (lv_sub hl [0, 1, 2, 3] rfl) h
                  · have h := if_f c24 h
                    refine lv_aload_n hx hb dX11_handIn_194 rfl (lv_at hl 0 rfl) ?_
                    refine lv_iload_n hx hb dX11_handIn_195 rfl (lv_at hl 1 rfl) ?_
                    refine lv_iload hx hb dX11_handIn_196 (lv_at hl 3 rfl) ?_
                    obtain ⟨M26, hc25, h⟩ := o1_e h
                    refine g_Vv (As := [.int a1, .int x16]) (rest := []) S X Z mlv_o rfl rfl (t_X11_forget l D dA A hJ  hc25) (cwV 2 hts (mGV (mB 132 rfl) (mB 133 rfl) (mB 134 rfl) (mB 63 rfl) (mB 111 rfl)) rfl rfl rfl (by decide +kernel) ⟨Nat.le_of_ble_eq_true rfl, Nat.le_of_ble_eq_true rfl⟩) rfl hl.1 rfl (Nat.le_of_ble_eq_true rfl) dX11_handIn_198 ⟨Nat.zero_le _, Nat.zero_le _⟩ (fun H locs Z => ?_)
                    exact hJ201 M26 _ _ _ Z (lv_sub hl [0, 1, 2, 3] rfl) h
          exact hL168 100 (0 : Int32) M15 _ _ _ Z (lv_sub hl [1, 2, 3, 0] rfl) h
        have hL55 : ∀ (n : Nat) (x27 : Int32) (M28 : gM) (H : Heap) (locs : List Loc) (ls : Array Slot), gZ D mLay dA mLive A (gA mLive A) s.heap M28 H locs → lv_has ls 8 [(0, .ref (A m_o)), (1, .int a1), (2, .int v9), (3, .int v11), (4, .int v13), (5, .int x27)] → f_X11_handIn_L55 a1 v9 v11 v13 J158 n x27 M28 = some y → W p l e (headSpec wmX11_handIn ({ frames := 4, cells := 0, slots := 0, locals := 101 } : Room)).room s m args below meth c H locs 0 0 (MQ below (mQl D dA A y) args s 0 0 (gA mLive A)) (F0 m 55 ls []) := by
          intro n
          induction n with
          | zero =>
            intro x27 M28 H locs ls Z hl h
            rw [f_X11_handIn_L55] at h
            cases h
          | succ n29 ih55 =>
            intro x27 M28 H locs ls Z hl h
            rw [f_X11_handIn_L55] at h
            refine lv_iload hx hb dX11_handIn_55 (lv_at hl 5 rfl) ?_
            refine lv_iload_n hx hb dX11_handIn_57 rfl (lv_at hl 3 rfl) ?_
            refine lv_icmp_ge (tgt := 158) hx hb dX11_handIn_58 (by decide) (fun c30 => ?_) (fun c30 => ?_)
            · have h := if_t c30 h
              exact hJ158 M28 _ _ _ Z (lv_sub hl [0, 1, 3] rfl) h
            · have h := if_f c30 h
              refine lv_bipush (v := (12 : Int32)) hx hb dX11_handIn_61 (by decide) ?_
              refine lv_iload_n hx hb dX11_handIn_63 rfl (lv_at hl 1 rfl) ?_
              refine lv_imul hx hb dX11_handIn_64 ?_
              refine lv_iload hx hb dX11_handIn_65 (lv_at hl 5 rfl) ?_
              refine lv_iadd hx hb dX11_handIn_67 ?_
              refine g_topi h (fun x31 h => ?_)
              refine lv_istore (lv' := [(6, .int x31), (0, .ref (A m_o)), (1, .int a1), (2, .int v9), (3, .int v11), (4, .int v13), (5, .int x27)]) hx hb dX11_handIn_68 hl (by decide) rfl (fun ls hl => ?_)
              refine lv_aload_n hx hb dX11_handIn_70 rfl (lv_at hl 1 rfl) ?_
              refine mr_recordObject S X Z hin hl_104 dX11_handIn_71 ?_
              refine lv_iload hx hb dX11_handIn_74 (lv_at hl 0 rfl) ?_
              refine g_iald S X Z ml_recordObject rfl dX11_handIn_76 h (fun v32 h => ?_)
              refine lv_istore (lv' := [(7, .int v32), (6, .int x31), (0, .ref (A m_o)), (1, .int a1), (2, .int v9), (3, .int v11), (4, .int v13), (5, .int x27)]) hx hb dX11_handIn_77 hl (by decide) rfl (fun ls hl => ?_)
              refine lv_aload_n hx hb dX11_handIn_79 rfl (lv_at hl 2 rfl) ?_
              refine mr_recordKind S X Z hin hl_101 dX11_handIn_80 ?_
              refine lv_iload hx hb dX11_handIn_83 (lv_at hl 1 rfl) ?_
              refine g_iald S X Z ml_recordKind rfl dX11_handIn_85 h (fun v33 h => ?_)
              obtain ⟨J152, eJ152, h⟩ := jn_e h
              have hJ152 : ∀ (M34 : gM) (H : Heap) (locs : List Loc) (ls : Array Slot), gZ D mLay dA mLive A (gA mLive A) s.heap M34 H locs → lv_has ls 8 [(0, .ref (A m_o)), (1, .int a1), (2, .int v9), (3, .int v11), (4, .int v13), (5, .int x27)] → J152 M34 = some y → W p l e (headSpec wmX11_handIn ({ frames := 4, cells := 0, slots := 0, locals := 101 } : Room)).room s m args below meth c H locs 0 0 (MQ below (mQl D dA A y) args s 0 0 (gA mLive A)) (F0 m 152 ls []) := by
                intro M34 H locs ls Z hl h
                rw [eJ152] at h
                try dsimp only at h
                obtain ⟨x35, ex35, h⟩ := lt_e h
                refine lv_iinc (v := x35) (lv' := [(5, .int x35), (0, .ref (A m_o)), (1, .int a1), (2, .int v9), (3, .int v11), (4, .int v13)]) hx hb dX11_handIn_152 hl (k := 5) rfl (by rw [ex35]; rfl) (by decide) rfl (fun ls hl => ?_)
                refine lv_goto (tgt := 55) hx hb dX11_handIn_155 (by decide) ?_
                exact ih55 x35 M34 _ _ _ Z (lv_sub hl [1, 2, 3, 4, 5, 0] rfl) h
              refine lv_if_ne (tgt := 104) hx hb dX11_handIn_86 (by decide) (fun c36 => ?_) (fun c36 => ?_)
              · have h := if_f c36 h
                refine lv_aload_n hx hb dX11_handIn_104 rfl (lv_at hl 2 rfl) ?_
                refine mr_recordKind S X Z hin hl_101 dX11_handIn_105 ?_
                refine lv_iload hx hb dX11_handIn_108 (lv_at hl 1 rfl) ?_
                refine g_iald S X Z ml_recordKind rfl dX11_handIn_110 h (fun v37 h => ?_)
                refine lv_iconst (v := (1 : Int32)) hx hb dX11_handIn_111 (by decide) ?_
                refine lv_icmp_ne (tgt := 134) hx hb dX11_handIn_112 (by decide) (fun c38 => ?_) (fun c38 => ?_)
                · have h := if_f c38 h
                  refine lv_aload_n hx hb dX11_handIn_134 rfl (lv_at hl 2 rfl) ?_
                  refine lv_iload hx hb dX11_handIn_135 (lv_at hl 1 rfl) ?_
                  refine lv_aload_n hx hb dX11_handIn_137 rfl (lv_at hl 2 rfl) ?_
                  refine mr_recordDirectory S X Z hin hl_107 dX11_handIn_138 ?_
                  refine lv_iload hx hb dX11_handIn_141 (lv_at hl 1 rfl) ?_
                  refine g_iald S X Z ml_recordDirectory rfl dX11_handIn_143 h (fun v39 h => ?_)
                  refine lv_iload hx hb dX11_handIn_144 (lv_at hl 0 rfl) ?_
                  refine lv_iload hx hb dX11_handIn_146 (lv_at hl 6 rfl) ?_
                  refine lv_iload_n hx hb dX11_handIn_148 rfl (lv_at hl 4 rfl) ?_
                  obtain ⟨M41, hc40, h⟩ := o1_e h
                  refine g_Vv (As := [.int x31, .int v39, .int v32, .int v13, .int v9]) (rest := []) S X Z mlv_o rfl rfl (t_X11_handRemove l D dA A hJ  hc40) (cwV 5 hts (mGV (mB 285 rfl) (mB 286 rfl) (mB 287 rfl) (mB 63 rfl) (mB 275 rfl)) rfl rfl rfl (by decide +kernel) ⟨Nat.le_of_ble_eq_true rfl, Nat.le_of_ble_eq_true rfl⟩) rfl hl.1 rfl (Nat.le_of_ble_eq_true rfl) dX11_handIn_149 ⟨Nat.zero_le _, Nat.zero_le _⟩ (fun H locs Z => ?_)
                  exact hJ152 M41 _ _ _ Z (lv_sub hl [2, 3, 4, 5, 6, 7] rfl) h
                · have h := if_t c38 h
                  refine lv_aload_n hx hb dX11_handIn_115 rfl (lv_at hl 2 rfl) ?_
                  refine lv_aload_n hx hb dX11_handIn_116 rfl (lv_at hl 2 rfl) ?_
                  refine mr_recordDirectory S X Z hin hl_107 dX11_handIn_117 ?_
                  refine lv_iload hx hb dX11_handIn_120 (lv_at hl 1 rfl) ?_
                  refine g_iald S X Z ml_recordDirectory rfl dX11_handIn_122 h (fun v42 h => ?_)
                  refine lv_iload hx hb dX11_handIn_123 (lv_at hl 0 rfl) ?_
                  refine lv_iload hx hb dX11_handIn_125 (lv_at hl 6 rfl) ?_
                  refine lv_iload_n hx hb dX11_handIn_127 rfl (lv_at hl 4 rfl) ?_
                  obtain ⟨M44, hc43, h⟩ := o1_e h
                  refine g_Vv (As := [.int v42, .int v32, .int v13, .int v9]) (rest := []) S X Z mlv_o rfl rfl (t_X11_handMake l D dA A hJ  hc43) (cwV 4 hts (mGV (mB 282 rfl) (mB 283 rfl) (mB 284 rfl) (mB 63 rfl) (mB 273 rfl)) rfl rfl rfl (by decide +kernel) ⟨Nat.le_of_ble_eq_true rfl, Nat.le_of_ble_eq_true rfl⟩) rfl hl.1 rfl (Nat.le_of_ble_eq_true rfl) dX11_handIn_128 ⟨Nat.zero_le _, Nat.zero_le _⟩ (fun H locs Z => ?_)
                  refine lv_goto (tgt := 152) hx hb dX11_handIn_131 (by decide) ?_
                  exact hJ152 M44 _ _ _ Z (lv_sub hl [2, 3, 4, 5, 6, 7] rfl) h
              · have h := if_t c36 h
                refine lv_aload_n hx hb dX11_handIn_89 rfl (lv_at hl 2 rfl) ?_
                refine lv_iload_n hx hb dX11_handIn_90 rfl (lv_at hl 3 rfl) ?_
                refine lv_iload hx hb dX11_handIn_91 (lv_at hl 1 rfl) ?_
                refine lv_iload hx hb dX11_handIn_93 (lv_at hl 0 rfl) ?_
                refine lv_iload hx hb dX11_handIn_95 (lv_at hl 6 rfl) ?_
                refine lv_iload_n hx hb dX11_handIn_97 rfl (lv_at hl 4 rfl) ?_
                obtain ⟨M46, hc45, h⟩ := o1_e h
                refine g_Vv (As := [.int a1, .int x31, .int v32, .int v13, .int v9]) (rest := []) S X Z mlv_o rfl rfl (t_X11_handWrite l D dA A hJ  hc45) (cwV 5 hts (mGV (mB 279 rfl) (mB 280 rfl) (mB 281 rfl) (mB 63 rfl) (mB 272 rfl)) rfl rfl rfl (by decide +kernel) ⟨Nat.le_of_ble_eq_true rfl, Nat.le_of_ble_eq_true rfl⟩) rfl hl.1 rfl (Nat.le_of_ble_eq_true rfl) dX11_handIn_98 ⟨Nat.zero_le _, Nat.zero_le _⟩ (fun H locs Z => ?_)
                refine lv_goto (tgt := 152) hx hb dX11_handIn_101 (by decide) ?_
                exact hJ152 M46 _ _ _ Z (lv_sub hl [2, 3, 4, 5, 6, 7] rfl) h
        exact hL55 100 (0 : Int32) M5 _ _ _ Z (lv_sub hl [4, 5, 3, 2, 1, 0] rfl) h
      · have h := if_t c10 h
        refine lv_ldc2 hx hb hown hc_371 dX11_handIn_35 ?_
        have hy := Option.some.inj h
        subst hy
        exact g_rl S Z hr hlocks dX11_handIn_38
    · have h := if_f c7 h
      refine lv_lconst (v := (0 : Int64)) hx hb dX11_handIn_23 (by decide) ?_
      have hy := Option.some.inj h
      subst hy
      exact g_rl S Z hr hlocks dX11_handIn_24
  refine lv_if_eq (tgt := 12) hx hb dX11_handIn_5 (by decide) (fun c47 => ?_) (fun c47 => ?_)
  · have h := if_t c47 h
    refine lv_iconst (v := (1 : Int32)) hx hb dX11_handIn_12 (by decide) ?_
    exact hJ13 (1 : Int32) M _ _ _ Z (lv_sub hl [0, 1] rfl) h
  · have h := if_f c47 h
    refine lv_iconst (v := (0 : Int32)) hx hb dX11_handIn_8 (by decide) ?_
    refine lv_goto (tgt := 13) hx hb dX11_handIn_9 (by decide) ?_
    exact hJ13 (0 : Int32) M _ _ _ Z (lv_sub hl [0, 1] rfl) h
-- X11_walk (I)J: 98 instructions
theorem dX11_walk_0 : decode cX11_walk 0 = .ok (.aload_n 0, 1) := by decide +kernel
theorem dX11_walk_1 : decode cX11_walk 1 = .ok (.iload_n 1, 1) := by decide +kernel
theorem dX11_walk_2 : decode cX11_walk 2 = .ok (.invokestatic 191, 3) := by decide +kernel
theorem dX11_walk_5 : decode cX11_walk 5 = .ok (.ifCond .eq 7, 3) := by decide +kernel
theorem dX11_walk_8 : decode cX11_walk 8 = .ok (.iconst 0, 1) := by decide +kernel
theorem dX11_walk_9 : decode cX11_walk 9 = .ok (.goto 4, 3) := by decide +kernel
theorem dX11_walk_12 : decode cX11_walk 12 = .ok (.iconst 1, 1) := by decide +kernel
theorem dX11_walk_13 : decode cX11_walk 13 = .ok (.putfield 165, 3) := by decide +kernel
theorem dX11_walk_16 : decode cX11_walk 16 = .ok (.aload_n 0, 1) := by decide +kernel
theorem dX11_walk_17 : decode cX11_walk 17 = .ok (.getfield 165, 3) := by decide +kernel
theorem dX11_walk_20 : decode cX11_walk 20 = .ok (.ifCond .le 5, 3) := by decide +kernel
theorem dX11_walk_23 : decode cX11_walk 23 = .ok (.lconst 0, 1) := by decide +kernel
theorem dX11_walk_24 : decode cX11_walk 24 = .ok (.lreturn, 1) := by decide +kernel
theorem dX11_walk_25 : decode cX11_walk 25 = .ok (.aload_n 0, 1) := by decide +kernel
theorem dX11_walk_26 : decode cX11_walk 26 = .ok (.iload_n 1, 1) := by decide +kernel
theorem dX11_walk_27 : decode cX11_walk 27 = .ok (.invokevirtual 238, 3) := by decide +kernel
theorem dX11_walk_30 : decode cX11_walk 30 = .ok (.ifCond .eq 7, 3) := by decide +kernel
theorem dX11_walk_33 : decode cX11_walk 33 = .ok (.ldc2_w 371, 3) := by decide +kernel
theorem dX11_walk_36 : decode cX11_walk 36 = .ok (.lreturn, 1) := by decide +kernel
theorem dX11_walk_37 : decode cX11_walk 37 = .ok (.aload_n 0, 1) := by decide +kernel
theorem dX11_walk_38 : decode cX11_walk 38 = .ok (.dup, 1) := by decide +kernel
theorem dX11_walk_39 : decode cX11_walk 39 = .ok (.getfield 211, 3) := by decide +kernel
theorem dX11_walk_42 : decode cX11_walk 42 = .ok (.iconst 1, 1) := by decide +kernel
theorem dX11_walk_43 : decode cX11_walk 43 = .ok (.iadd, 1) := by decide +kernel
theorem dX11_walk_44 : decode cX11_walk 44 = .ok (.putfield 211, 3) := by decide +kernel
theorem dX11_walk_47 : decode cX11_walk 47 = .ok (.bipush 9, 2) := by decide +kernel
theorem dX11_walk_49 : decode cX11_walk 49 = .ok (.istore_n 2, 1) := by decide +kernel
theorem dX11_walk_50 : decode cX11_walk 50 = .ok (.iload_n 2, 1) := by decide +kernel
theorem dX11_walk_51 : decode cX11_walk 51 = .ok (.ifCond .le 68, 3) := by decide +kernel
theorem dX11_walk_54 : decode cX11_walk 54 = .ok (.iconst 0, 1) := by decide +kernel
theorem dX11_walk_55 : decode cX11_walk 55 = .ok (.istore_n 3, 1) := by decide +kernel
theorem dX11_walk_56 : decode cX11_walk 56 = .ok (.iload_n 3, 1) := by decide +kernel
theorem dX11_walk_57 : decode cX11_walk 57 = .ok (.aload_n 0, 1) := by decide +kernel
theorem dX11_walk_58 : decode cX11_walk 58 = .ok (.getfield 162, 3) := by decide +kernel
theorem dX11_walk_61 : decode cX11_walk 61 = .ok (.if_icmp .ge 52, 3) := by decide +kernel
theorem dX11_walk_64 : decode cX11_walk 64 = .ok (.aload_n 0, 1) := by decide +kernel
theorem dX11_walk_65 : decode cX11_walk 65 = .ok (.getfield 95, 3) := by decide +kernel
theorem dX11_walk_68 : decode cX11_walk 68 = .ok (.bipush 48, 2) := by decide +kernel
theorem dX11_walk_70 : decode cX11_walk 70 = .ok (.iload_n 1, 1) := by decide +kernel
theorem dX11_walk_71 : decode cX11_walk 71 = .ok (.imul, 1) := by decide +kernel
theorem dX11_walk_72 : decode cX11_walk 72 = .ok (.iload_n 3, 1) := by decide +kernel
theorem dX11_walk_73 : decode cX11_walk 73 = .ok (.iadd, 1) := by decide +kernel
theorem dX11_walk_74 : decode cX11_walk 74 = .ok (.iaload, 1) := by decide +kernel
theorem dX11_walk_75 : decode cX11_walk 75 = .ok (.iload_n 2, 1) := by decide +kernel
theorem dX11_walk_76 : decode cX11_walk 76 = .ok (.if_icmp .ne 31, 3) := by decide +kernel
theorem dX11_walk_79 : decode cX11_walk 79 = .ok (.aload_n 0, 1) := by decide +kernel
theorem dX11_walk_80 : decode cX11_walk 80 = .ok (.iload_n 1, 1) := by decide +kernel
theorem dX11_walk_81 : decode cX11_walk 81 = .ok (.iload_n 3, 1) := by decide +kernel
theorem dX11_walk_82 : decode cX11_walk 82 = .ok (.iload_n 2, 1) := by decide +kernel
theorem dX11_walk_83 : decode cX11_walk 83 = .ok (.invokevirtual 282, 3) := by decide +kernel
theorem dX11_walk_86 : decode cX11_walk 86 = .ok (.lstore 4, 2) := by decide +kernel
theorem dX11_walk_88 : decode cX11_walk 88 = .ok (.aload_n 0, 1) := by decide +kernel
theorem dX11_walk_89 : decode cX11_walk 89 = .ok (.lload 4, 2) := by decide +kernel
theorem dX11_walk_91 : decode cX11_walk 91 = .ok (.lconst 0, 1) := by decide +kernel
theorem dX11_walk_92 : decode cX11_walk 92 = .ok (.lcmp, 1) := by decide +kernel
theorem dX11_walk_93 : decode cX11_walk 93 = .ok (.ifCond .ne 10, 3) := by decide +kernel
theorem dX11_walk_96 : decode cX11_walk 96 = .ok (.aload_n 0, 1) := by decide +kernel
theorem dX11_walk_97 : decode cX11_walk 97 = .ok (.getfield 231, 3) := by decide +kernel
theorem dX11_walk_100 : decode cX11_walk 100 = .ok (.goto 4, 3) := by decide +kernel
theorem dX11_walk_103 : decode cX11_walk 103 = .ok (.iconst 0, 1) := by decide +kernel
theorem dX11_walk_104 : decode cX11_walk 104 = .ok (.putfield 231, 3) := by decide +kernel
theorem dX11_walk_107 : decode cX11_walk 107 = .ok (.iinc 3 1, 3) := by decide +kernel
theorem dX11_walk_110 : decode cX11_walk 110 = .ok (.goto (-54), 3) := by decide +kernel
theorem dX11_walk_113 : decode cX11_walk 113 = .ok (.iinc 2 (-1), 3) := by decide +kernel
theorem dX11_walk_116 : decode cX11_walk 116 = .ok (.goto (-66), 3) := by decide +kernel
theorem dX11_walk_119 : decode cX11_walk 119 = .ok (.iconst 0, 1) := by decide +kernel
theorem dX11_walk_120 : decode cX11_walk 120 = .ok (.istore_n 2, 1) := by decide +kernel
theorem dX11_walk_121 : decode cX11_walk 121 = .ok (.iconst 0, 1) := by decide +kernel
theorem dX11_walk_122 : decode cX11_walk 122 = .ok (.istore_n 3, 1) := by decide +kernel
theorem dX11_walk_123 : decode cX11_walk 123 = .ok (.iload_n 3, 1) := by decide +kernel
theorem dX11_walk_124 : decode cX11_walk 124 = .ok (.aload_n 0, 1) := by decide +kernel
theorem dX11_walk_125 : decode cX11_walk 125 = .ok (.getfield 162, 3) := by decide +kernel
theorem dX11_walk_128 : decode cX11_walk 128 = .ok (.if_icmp .ge 40, 3) := by decide +kernel
theorem dX11_walk_131 : decode cX11_walk 131 = .ok (.aload_n 0, 1) := by decide +kernel
theorem dX11_walk_132 : decode cX11_walk 132 = .ok (.getfield 95, 3) := by decide +kernel
theorem dX11_walk_135 : decode cX11_walk 135 = .ok (.bipush 48, 2) := by decide +kernel
theorem dX11_walk_137 : decode cX11_walk 137 = .ok (.iload_n 1, 1) := by decide +kernel
theorem dX11_walk_138 : decode cX11_walk 138 = .ok (.imul, 1) := by decide +kernel
theorem dX11_walk_139 : decode cX11_walk 139 = .ok (.iload_n 3, 1) := by decide +kernel
theorem dX11_walk_140 : decode cX11_walk 140 = .ok (.iadd, 1) := by decide +kernel
theorem dX11_walk_141 : decode cX11_walk 141 = .ok (.iaload, 1) := by decide +kernel
theorem dX11_walk_142 : decode cX11_walk 142 = .ok (.ifCond .le 18, 3) := by decide +kernel
theorem dX11_walk_145 : decode cX11_walk 145 = .ok (.aload_n 0, 1) := by decide +kernel
theorem dX11_walk_146 : decode cX11_walk 146 = .ok (.iload_n 1, 1) := by decide +kernel
theorem dX11_walk_147 : decode cX11_walk 147 = .ok (.iload_n 3, 1) := by decide +kernel
theorem dX11_walk_148 : decode cX11_walk 148 = .ok (.invokevirtual 249, 3) := by decide +kernel
theorem dX11_walk_151 : decode cX11_walk 151 = .ok (.ifCond .eq 9, 3) := by decide +kernel
theorem dX11_walk_154 : decode cX11_walk 154 = .ok (.iload_n 2, 1) := by decide +kernel
theorem dX11_walk_155 : decode cX11_walk 155 = .ok (.iconst 1, 1) := by decide +kernel
theorem dX11_walk_156 : decode cX11_walk 156 = .ok (.iadd, 1) := by decide +kernel
theorem dX11_walk_157 : decode cX11_walk 157 = .ok (.goto 4, 3) := by decide +kernel
theorem dX11_walk_160 : decode cX11_walk 160 = .ok (.iload_n 2, 1) := by decide +kernel
theorem dX11_walk_161 : decode cX11_walk 161 = .ok (.istore_n 2, 1) := by decide +kernel
theorem dX11_walk_162 : decode cX11_walk 162 = .ok (.iinc 3 1, 3) := by decide +kernel
theorem dX11_walk_165 : decode cX11_walk 165 = .ok (.goto (-42), 3) := by decide +kernel
theorem dX11_walk_168 : decode cX11_walk 168 = .ok (.iload_n 2, 1) := by decide +kernel
theorem dX11_walk_169 : decode cX11_walk 169 = .ok (.i2l, 1) := by decide +kernel
theorem dX11_walk_170 : decode cX11_walk 170 = .ok (.lreturn, 1) := by decide +kernel
abbrev wmX11_walk : List Cond := .code yX11_walk cX11_walk 6 (some .long) :: mBig
def f_X11_walk_L123 (a1 : Int32) : Nat → Int32 → Int32 → gM → Option (Int64 × gM)
  | 0, _, _, _ => none
  | n17 + 1, x14, x15, M16 => lt (M16 m_o 6) (fun v18 => (if v18 ≤ x15 then some (x14.toInt64, M16) else rd M16 m_priorities 192 (((48 : Int32) * a1) + x15) (fun v20 => jn (fun (q : (Int32 × gM)) => match q with | (b21, M22) => lt (x15 + 1) (fun x23 => f_X11_walk_L123 a1 n17 b21 x23 M22)) (fun J161 => jn (fun (M24 : gM) => J161 (x14, M24)) (fun J160 => (if v20 ≤ 0 then J160 M16 else o1 (f_X11_isGood M16 a1 x15) (fun v27 => (if v27 = 0 then J160 M16 else J161 ((x14 + (1 : Int32)), M16)))))))))
def f_X11_walk_L56 (a1 : Int32) (x29 : Int32) (J113 : gM → Option (Int64 × gM)) (J119 : gM → Option (Int64 × gM)) : Nat → Int32 → gM → Option (Int64 × gM)
  | 0, _, _ => none
  | n37 + 1, x35, M36 => lt (M36 m_o 6) (fun v38 => (if v38 ≤ x35 then J113 M36 else rd M36 m_priorities 192 (((48 : Int32) * a1) + x35) (fun v40 => jn (fun (M41 : gM) => lt (x35 + 1) (fun x42 => f_X11_walk_L56 a1 x29 J113 J119 n37 x42 M41)) (fun J107 => (if v40 = x29 then ob (f_X11_get M36 a1 x35 x29) (fun v46 M45 => jn (fun (q : (Int32 × gM)) => match q with | (b47, M48) => lt (gset M48 m_o 42 b47) (fun M49 => J107 M49)) (fun J104 => (if (lg_cmp v46 (0 : Int64)) = 0 then lt (M45 m_o 42) (fun v51 => J104 (v51, M45)) else J104 ((0 : Int32), M45)))) else J107 M36)))))
def f_X11_walk_L50 (a1 : Int32) (J119 : gM → Option (Int64 × gM)) : Nat → Int32 → gM → Option (Int64 × gM)
  | 0, _, _ => none
  | n31 + 1, x29, M30 => (if x29 ≤ 0 then J119 M30 else jn (fun (M33 : gM) => lt (x29 + (-1)) (fun x34 => f_X11_walk_L50 a1 J119 n31 x34 M33)) (fun J113 => f_X11_walk_L56 a1 x29 J113 J119 100 (0 : Int32) M30))
def f_X11_walk (M : gM) (a1 : Int32) : Option (Int64 × gM) :=
  o1 (f_X11_isClient M a1) (fun v2 => jn (fun (q : (Int32 × gM)) => match q with | (b3, M4) => lt (gset M4 m_o 66 b3) (fun M5 => lt (M5 m_o 66) (fun v6 => (if v6 ≤ 0 then o1 (f_X11_isAlone M5 a1) (fun v9 => (if v9 = 0 then lt (M5 m_o 33) (fun v11 => lt (gset M5 m_o 33 (v11 + (1 : Int32))) (fun M12 => jn (fun (M13 : gM) => f_X11_walk_L123 a1 100 (0 : Int32) (0 : Int32) M13) (fun J119 => f_X11_walk_L50 a1 J119 100 (9 : Int32) M12))) else some ((-2199023255560 : Int64), M5))) else some ((0 : Int64), M5))))) (fun J13 => (if v2 = 0 then J13 ((1 : Int32), M) else J13 ((0 : Int32), M))))
set_option maxHeartbeats 4000000 in
set_option maxRecDepth 100000 in
theorem t_X11_walk (l : Launch) (D : va_G) (dA : Nat → ClassId) (A : gI → Nat) (hJ : gJ mLive A) {M : gM} {a1 : Int32}  {y : (Int64 × gM)} (h : f_X11_walk M a1 = some y) : mMl l yX11_walk wmX11_walk ({ frames := 5, cells := 0, slots := 0, locals := 129 } : Room) D dA A [.ref (A m_o), .int a1] M y.1 y.2 := by
  refine Met.ofW (cc := cX11_walk) (maxL := 6) (ret := (some .long)) (by decide) rfl ?_
  intro p e s m args below meth c s₁ B hml hv
  obtain ⟨rfl, hP, hK⟩ := hv
  generalize hargs : ([.ref (A m_o), .int a1] : List Value).toArray = args at B ⊢
  have S : CallFix p m c cX11_walk 6 s args wmX11_walk RX11 := ⟨B.exec, B.bytes, hml, findClass_of_methodNamed B.named, atoms_spec (ws := wmX11_walk) B.pre⟩
  obtain ⟨hx, hb, -, hown, hts⟩ := id S
  have hr := B.returns
  have hlocks := B.notSynchronized
  have X : gX D vwCl dA mLive A (gA mLive A) s := ⟨hK, hJ, fun i hi => ⟨i, hi, rfl⟩⟩
  have Z : gZ D mLay dA mLive A (gA mLive A) s.heap M s.heap [] := ⟨hP, va_S.rf⟩
  have hin : ∀ w ∈ wsX110, w ∈ wmX11_walk := m_in
  have hl_95 := hts (.fieldLink RX11 95 "ReplicaFilesModel" "priorities" "[I") (mBc 33 rfl)
  have hl_162 := hts (.fieldLink RX11 162 "ReplicaFilesModel" "made" "I") (mBc 55 rfl)
  have hl_165 := hts (.fieldLink RX11 165 "ReplicaFilesModel" "thrown" "I") (mBc 58 rfl)
  have hl_211 := hts (.fieldLink RX11 211 "ReplicaFilesModel" "call" "I") (mBc 119 rfl)
  have hl_231 := hts (.fieldLink RX11 231 "ReplicaFilesModel" "gotValue" "I") (mBc 138 rfl)
  have hc_371 := hts (.constantLong RX11 371 (-2199023255560)) (mBc 276 rfl)
  have hl := lv_entry ([.ref (A m_o), .int a1]) (n := 6) (Nat.le_of_ble_eq_true rfl)
  rw [← hargs, lg_entry_eq, hargs]
  generalize (lg_sl ([.ref (A m_o), .int a1]) ++ List.replicate (6 - (lg_sl ([.ref (A m_o), .int a1])).length) Slot.unset).toArray = ls at hl ⊢
  have hl : lv_has ls 6 [(0, .ref (A m_o)), (1, .int a1)] := hl
  unfold f_X11_walk at h
  refine lv_aload_n hx hb dX11_walk_0 rfl (lv_at hl 0 rfl) ?_
  refine lv_iload_n hx hb dX11_walk_1 rfl (lv_at hl 1 rfl) ?_
  obtain ⟨v2, hc1, h⟩ := o1_e h
  refine g_Si (As := [.int a1]) (rest := [.ref (A m_o)]) S X Z (t_X11_isClient l D dA A hJ  hc1) (va_cwS 1 hts (mGS (mB 91 rfl) (mB 92 rfl) (mB 63 rfl) (mB 64 rfl)) rfl rfl rfl (by decide +kernel) ⟨Nat.le_of_ble_eq_true rfl, Nat.le_of_ble_eq_true rfl⟩) rfl hl.1 rfl (Nat.le_of_ble_eq_true rfl) dX11_walk_2 ⟨Nat.zero_le _, Nat.zero_le _⟩ (fun H locs Z => ?_)
  obtain ⟨J13, eJ13, h⟩ := jn_e h
  have hJ13 : ∀ (b3 : Int32) (M4 : gM) (H : Heap) (locs : List Loc) (ls : Array Slot), gZ D mLay dA mLive A (gA mLive A) s.heap M4 H locs → lv_has ls 6 [(0, .ref (A m_o)), (1, .int a1)] → J13 (b3, M4) = some y → W p l e (headSpec wmX11_walk ({ frames := 5, cells := 0, slots := 0, locals := 129 } : Room)).room s m args below meth c H locs 0 0 (MQ below (mQl D dA A y) args s 0 0 (gA mLive A)) (F0 m 13 ls [.int b3, .ref (A m_o)]) := by
    intro b3 M4 H locs ls Z hl h
    rw [eJ13] at h
    try dsimp only at h
    refine mp_thrown S X Z hin hl_165 dX11_walk_13 h (fun M5 H locs Z h => ?_)
    refine lv_aload_n hx hb dX11_walk_16 rfl (lv_at hl 0 rfl) ?_
    refine mr_thrown S X Z hin hl_165 dX11_walk_17 h (fun v6 h => ?_)
    refine lv_if_le (tgt := 25) hx hb dX11_walk_20 (by decide) (fun c7 => ?_) (fun c7 => ?_)
    · have h := if_t c7 h
      refine lv_aload_n hx hb dX11_walk_25 rfl (lv_at hl 0 rfl) ?_
      refine lv_iload_n hx hb dX11_walk_26 rfl (lv_at hl 1 rfl) ?_
      obtain ⟨v9, hc8, h⟩ := o1_e h
      refine g_Vi (As := [.int a1]) (rest := []) S X Z mlv_o rfl rfl (t_X11_isAlone l D dA A hJ  hc8) (cwV 1 hts (mGV (mB 161 rfl) (mB 162 rfl) (mB 163 rfl) (mB 63 rfl) (mB 74 rfl)) rfl rfl rfl (by decide +kernel) ⟨Nat.le_of_ble_eq_true rfl, Nat.le_of_ble_eq_true rfl⟩) rfl hl.1 rfl (Nat.le_of_ble_eq_true rfl) dX11_walk_27 ⟨Nat.zero_le _, Nat.zero_le _⟩ (fun H locs Z => ?_)
      refine lv_if_eq (tgt := 37) hx hb dX11_walk_30 (by decide) (fun c10 => ?_) (fun c10 => ?_)
      · have h := if_t c10 h
        refine lv_aload_n hx hb dX11_walk_37 rfl (lv_at hl 0 rfl) ?_
        refine lv_dup hx hb dX11_walk_38 rfl ?_
        refine mr_call S X Z hin hl_211 dX11_walk_39 h (fun v11 h => ?_)
        refine lv_iconst (v := (1 : Int32)) hx hb dX11_walk_42 (by decide) ?_
        refine lv_iadd hx hb dX11_walk_43 ?_
        refine mp_call S X Z hin hl_211 dX11_walk_44 h (fun M12 H locs Z h => ?_)
        refine lv_bipush (v := (9 : Int32)) hx hb dX11_walk_47 (by decide) ?_
        refine lv_istore_n (lv' := [(2, .int (9 : Int32)), (0, .ref (A m_o)), (1, .int a1)]) hx hb dX11_walk_49 rfl hl (by decide) rfl (fun ls hl => ?_)
        obtain ⟨J119, eJ119, h⟩ := jn_e h
        have hJ119 : ∀ (M13 : gM) (H : Heap) (locs : List Loc) (ls : Array Slot), gZ D mLay dA mLive A (gA mLive A) s.heap M13 H locs → lv_has ls 6 [(0, .ref (A m_o)), (1, .int a1)] → J119 M13 = some y → W p l e (headSpec wmX11_walk ({ frames := 5, cells := 0, slots := 0, locals := 129 } : Room)).room s m args below meth c H locs 0 0 (MQ below (mQl D dA A y) args s 0 0 (gA mLive A)) (F0 m 119 ls []) := by
          intro M13 H locs ls Z hl h
          rw [eJ119] at h
          try dsimp only at h
          refine lv_iconst (v := (0 : Int32)) hx hb dX11_walk_119 (by decide) ?_
          refine lv_istore_n (lv' := [(2, .int (0 : Int32)), (0, .ref (A m_o)), (1, .int a1)]) hx hb dX11_walk_120 rfl hl (by decide) rfl (fun ls hl => ?_)
          refine lv_iconst (v := (0 : Int32)) hx hb dX11_walk_121 (by decide) ?_
          refine lv_istore_n (lv' := [(3, .int (0 : Int32)), (2, .int (0 : Int32)), (0, .ref (A m_o)), (1, .int a1)]) hx hb dX11_walk_122 rfl hl (by decide) rfl (fun ls hl => ?_)
          have hL123 : ∀ (n : Nat) (x14 : Int32) (x15 : Int32) (M16 : gM) (H : Heap) (locs : List Loc) (ls : Array Slot), gZ D mLay dA mLive A (gA mLive A) s.heap M16 H locs → lv_has ls 6 [(0, .ref (A m_o)), (1, .int a1), (2, .int x14), (3, .int x15)] → f_X11_walk_L123 a1 n x14 x15 M16 = some y → W p l e (headSpec wmX11_walk ({ frames := 5, cells := 0, slots := 0, locals := 129 } : Room)).room s m args below meth c H locs 0 0 (MQ below (mQl D dA A y) args s 0 0 (gA mLive A)) (F0 m 123 ls []) := by
            intro n
            induction n with
            | zero =>
              intro x14 x15 M16 H locs ls Z hl h
              rw [f_X11_walk_L123] at h
              cases h
            | succ n17 ih123 =>
              intro x14 x15 M16 H locs ls Z hl h
              rw [f_X11_walk_L123] at h
              refine lv_iload_n hx hb dX11_walk_123 rfl (lv_at hl 3 rfl) ?_
              refine lv_aload_n hx hb dX11_walk_124 rfl (lv_at hl 0 rfl) ?_
              refine mr_made S X Z hin hl_162 dX11_walk_125 h (fun v18 h => ?_)
              refine lv_icmp_ge (tgt := 168) hx hb dX11_walk_128 (by decide) (fun c19 => ?_) (fun c19 => ?_)
              · have h := if_t c19 h
                refine lv_iload_n hx hb dX11_walk_168 rfl (lv_at hl 2 rfl) ?_
                refine lv_i2l hx hb dX11_walk_169 rfl ?_
                have hy := Option.some.inj h
                subst hy
                exact g_rl S Z hr hlocks dX11_walk_170
              · have h := if_f c19 h
                refine lv_aload_n hx hb dX11_walk_131 rfl (lv_at hl 0 rfl) ?_
                refine mr_priorities S X Z hin hl_95 dX11_walk_132 ?_
                refine lv_bipush (v := (48 : Int32)) hx hb dX11_walk_135 (by decide) ?_
                refine lv_iload_n hx hb dX11_walk_137 rfl (lv_at hl 1 rfl) ?_
                refine lv_imul hx hb dX11_walk_138 ?_
                refine lv_iload_n hx hb dX11_walk_139 rfl (lv_at hl 3 rfl) ?_
                refine lv_iadd hx hb dX11_walk_140 ?_
                refine g_iald S X Z ml_priorities rfl dX11_walk_141 h (fun v20 h => ?_)
                obtain ⟨J161, eJ161, h⟩ := jn_e h
                have hJ161 : ∀ (b21 : Int32) (M22 : gM) (H : Heap) (locs : List Loc) (ls : Array Slot), gZ D mLay dA mLive A (gA mLive A) s.heap M22 H locs → lv_has ls 6 [(0, .ref (A m_o)), (1, .int a1), (3, .int x15)] → J161 (b21, M22) = some y → W p l e (headSpec wmX11_walk ({ frames := 5, cells := 0, slots := 0, locals := 129 } : Room)).room s m args below meth c H locs 0 0 (MQ below (mQl D dA A y) args s 0 0 (gA mLive A)) (F0 m 161 ls [.int b21]) := by
                  intro b21 M22 H locs ls Z hl h
                  rw [eJ161] at h
                  try dsimp only at h
                  refine lv_istore_n (lv' := [(2, .int b21), (0, .ref (A m_o)), (1, .int a1), (3, .int x15)]) hx hb dX11_walk_161 rfl hl (by decide) rfl (fun ls hl => ?_)
                  obtain ⟨x23, ex23, h⟩ := lt_e h
                  refine lv_iinc (v := x23) (lv' := [(3, .int x23), (2, .int b21), (0, .ref (A m_o)), (1, .int a1)]) hx hb dX11_walk_162 hl (k := 3) rfl (by rw [ex23]; rfl) (by decide) rfl (fun ls hl => ?_)
                  refine lv_goto (tgt := 123) hx hb dX11_walk_165 (by decide) ?_
                  exact ih123 b21 x23 M22 _ _ _ Z (lv_sub hl [2, 3, 1, 0] rfl) h
                obtain ⟨J160, eJ160, h⟩ := jn_e h
                have hJ160 : ∀ (M24 : gM) (H : Heap) (locs : List Loc) (ls : Array Slot), gZ D mLay dA mLive A (gA mLive A) s.heap M24 H locs → lv_has ls 6 [(0, .ref (A m_o)), (1, .int a1), (2, .int x14), (3, .int x15)] → J160 M24 = some y → W p l e (headSpec wmX11_walk ({ frames := 5, cells := 0, slots := 0, locals := 129 } : Room)).room s m args below meth c H locs 0 0 (MQ below (mQl D dA A y) args s 0 0 (gA mLive A)) (F0 m 160 ls []) := by
                  intro M24 H locs ls Z hl h
                  rw [eJ160] at h
                  try dsimp only at h
                  refine lv_iload_n hx hb dX11_walk_160 rfl (lv_at hl 2 rfl) ?_
                  exact hJ161 x14 M24 _ _ _ Z (lv_sub hl [0, 1, 3] rfl) h
                refine lv_if_le (tgt := 160) hx hb dX11_walk_142 (by decide) (fun c25 => ?_) (fun c25 => ?_)
                · have h := if_t c25 h
                  exact hJ160 M16 _ _ _ Z (lv_sub hl [0, 1, 2, 3] rfl) h
                · have h := if_f c25 h
                  refine lv_aload_n hx hb dX11_walk_145 rfl (lv_at hl 0 rfl) ?_
                  refine lv_iload_n hx hb dX11_walk_146 rfl (lv_at hl 1 rfl) ?_
                  refine lv_iload_n hx hb dX11_walk_147 rfl (lv_at hl 3 rfl) ?_
                  obtain ⟨v27, hc26, h⟩ := o1_e h
                  refine g_Vi (As := [.int a1, .int x15]) (rest := []) S X Z mlv_o rfl rfl (t_X11_isGood l D dA A hJ  hc26) (cwV 2 hts (mGV (mB 167 rfl) (mB 168 rfl) (mB 169 rfl) (mB 63 rfl) (mB 136 rfl)) rfl rfl rfl (by decide +kernel) ⟨Nat.le_of_ble_eq_true rfl, Nat.le_of_ble_eq_true rfl⟩) rfl hl.1 rfl (Nat.le_of_ble_eq_true rfl) dX11_walk_148 ⟨Nat.zero_le _, Nat.zero_le _⟩ (fun H locs Z => ?_)
                  refine lv_if_eq (tgt := 160) hx hb dX11_walk_151 (by decide) (fun c28 => ?_) (fun c28 => ?_)
                  · have h := if_t c28 h
                    exact hJ160 M16 _ _ _ Z (lv_sub hl [0, 1, 2, 3] rfl) h
                  · have h := if_f c28 h
                    refine lv_iload_n hx hb dX11_walk_154 rfl (lv_at hl 2 rfl) ?_
                    refine lv_iconst (v := (1 : Int32)) hx hb dX11_walk_155 (by decide) ?_
                    refine lv_iadd hx hb dX11_walk_156 ?_
                    refine lv_goto (tgt := 161) hx hb dX11_walk_157 (by decide) ?_
                    exact hJ161 (x14 + (1 : Int32)) M16 _ _ _ Z (lv_sub hl [0, 1, 3] rfl) h
          exact hL123 100 (0 : Int32) (0 : Int32) M13 _ _ _ Z (lv_sub hl [2, 3, 1, 0] rfl) h
        have hL50 : ∀ (n : Nat) (x29 : Int32) (M30 : gM) (H : Heap) (locs : List Loc) (ls : Array Slot), gZ D mLay dA mLive A (gA mLive A) s.heap M30 H locs → lv_has ls 6 [(0, .ref (A m_o)), (1, .int a1), (2, .int x29)] → f_X11_walk_L50 a1 J119 n x29 M30 = some y → W p l e (headSpec wmX11_walk ({ frames := 5, cells := 0, slots := 0, locals := 129 } : Room)).room s m args below meth c H locs 0 0 (MQ below (mQl D dA A y) args s 0 0 (gA mLive A)) (F0 m 50 ls []) := by
          intro n
          induction n with
          | zero =>
            intro x29 M30 H locs ls Z hl h
            rw [f_X11_walk_L50] at h
            cases h
          | succ n31 ih50 =>
            intro x29 M30 H locs ls Z hl h
            rw [f_X11_walk_L50] at h
            refine lv_iload_n hx hb dX11_walk_50 rfl (lv_at hl 2 rfl) ?_
            refine lv_if_le (tgt := 119) hx hb dX11_walk_51 (by decide) (fun c32 => ?_) (fun c32 => ?_)
            · have h := if_t c32 h
              exact hJ119 M30 _ _ _ Z (lv_sub hl [0, 1] rfl) h
            · have h := if_f c32 h
              refine lv_iconst (v := (0 : Int32)) hx hb dX11_walk_54 (by decide) ?_
              refine lv_istore_n (lv' := [(3, .int (0 : Int32)), (0, .ref (A m_o)), (1, .int a1), (2, .int x29)]) hx hb dX11_walk_55 rfl hl (by decide) rfl (fun ls hl => ?_)
              obtain ⟨J113, eJ113, h⟩ := jn_e h
              have hJ113 : ∀ (M33 : gM) (H : Heap) (locs : List Loc) (ls : Array Slot), gZ D mLay dA mLive A (gA mLive A) s.heap M33 H locs → lv_has ls 6 [(0, .ref (A m_o)), (1, .int a1), (2, .int x29)] → J113 M33 = some y → W p l e (headSpec wmX11_walk ({ frames := 5, cells := 0, slots := 0, locals := 129 } : Room)).room s m args below meth c H locs 0 0 (MQ below (mQl D dA A y) args s 0 0 (gA mLive A)) (F0 m 113 ls []) := by
                intro M33 H locs ls Z hl h
                rw [eJ113] at h
                try dsimp only at h
                obtain ⟨x34, ex34, h⟩ := lt_e h
                refine lv_iinc (v := x34) (lv' := [(2, .int x34), (0, .ref (A m_o)), (1, .int a1)]) hx hb dX11_walk_113 hl (k := 2) rfl (by rw [ex34]; rfl) (by decide) rfl (fun ls hl => ?_)
                refine lv_goto (tgt := 50) hx hb dX11_walk_116 (by decide) ?_
                exact ih50 x34 M33 _ _ _ Z (lv_sub hl [1, 2, 0] rfl) h
              have hL56 : ∀ (n : Nat) (x35 : Int32) (M36 : gM) (H : Heap) (locs : List Loc) (ls : Array Slot), gZ D mLay dA mLive A (gA mLive A) s.heap M36 H locs → lv_has ls 6 [(0, .ref (A m_o)), (1, .int a1), (2, .int x29), (3, .int x35)] → f_X11_walk_L56 a1 x29 J113 J119 n x35 M36 = some y → W p l e (headSpec wmX11_walk ({ frames := 5, cells := 0, slots := 0, locals := 129 } : Room)).room s m args below meth c H locs 0 0 (MQ below (mQl D dA A y) args s 0 0 (gA mLive A)) (F0 m 56 ls []) := by
                intro n
                induction n with
                | zero =>
                  intro x35 M36 H locs ls Z hl h
                  rw [f_X11_walk_L56] at h
                  cases h
                | succ n37 ih56 =>
                  intro x35 M36 H locs ls Z hl h
                  rw [f_X11_walk_L56] at h
                  refine lv_iload_n hx hb dX11_walk_56 rfl (lv_at hl 3 rfl) ?_
                  refine lv_aload_n hx hb dX11_walk_57 rfl (lv_at hl 0 rfl) ?_
                  refine mr_made S X Z hin hl_162 dX11_walk_58 h (fun v38 h => ?_)
                  refine lv_icmp_ge (tgt := 113) hx hb dX11_walk_61 (by decide) (fun c39 => ?_) (fun c39 => ?_)
                  · have h := if_t c39 h
                    exact hJ113 M36 _ _ _ Z (lv_sub hl [0, 1, 2] rfl) h
                  · have h := if_f c39 h
                    refine lv_aload_n hx hb dX11_walk_64 rfl (lv_at hl 0 rfl) ?_
                    refine mr_priorities S X Z hin hl_95 dX11_walk_65 ?_
                    refine lv_bipush (v := (48 : Int32)) hx hb dX11_walk_68 (by decide) ?_
                    refine lv_iload_n hx hb dX11_walk_70 rfl (lv_at hl 1 rfl) ?_
                    refine lv_imul hx hb dX11_walk_71 ?_
                    refine lv_iload_n hx hb dX11_walk_72 rfl (lv_at hl 3 rfl) ?_
                    refine lv_iadd hx hb dX11_walk_73 ?_
                    refine g_iald S X Z ml_priorities rfl dX11_walk_74 h (fun v40 h => ?_)
                    refine lv_iload_n hx hb dX11_walk_75 rfl (lv_at hl 2 rfl) ?_
                    obtain ⟨J107, eJ107, h⟩ := jn_e h
                    have hJ107 : ∀ (M41 : gM) (H : Heap) (locs : List Loc) (ls : Array Slot), gZ D mLay dA mLive A (gA mLive A) s.heap M41 H locs → lv_has ls 6 [(0, .ref (A m_o)), (1, .int a1), (2, .int x29), (3, .int x35)] → J107 M41 = some y → W p l e (headSpec wmX11_walk ({ frames := 5, cells := 0, slots := 0, locals := 129 } : Room)).room s m args below meth c H locs 0 0 (MQ below (mQl D dA A y) args s 0 0 (gA mLive A)) (F0 m 107 ls []) := by
                      intro M41 H locs ls Z hl h
                      rw [eJ107] at h
                      try dsimp only at h
                      obtain ⟨x42, ex42, h⟩ := lt_e h
                      refine lv_iinc (v := x42) (lv' := [(3, .int x42), (0, .ref (A m_o)), (1, .int a1), (2, .int x29)]) hx hb dX11_walk_107 hl (k := 3) rfl (by rw [ex42]; rfl) (by decide) rfl (fun ls hl => ?_)
                      refine lv_goto (tgt := 56) hx hb dX11_walk_110 (by decide) ?_
                      exact ih56 x42 M41 _ _ _ Z (lv_sub hl [1, 2, 3, 0] rfl) h
                    refine lv_icmp_ne (tgt := 107) hx hb dX11_walk_76 (by decide) (fun c43 => ?_) (fun c43 => ?_)
                    · have h := if_f c43 h
                      exact hJ107 M36 _ _ _ Z (lv_sub hl [0, 1, 2, 3] rfl) h
                    · have h := if_t c43 h
                      refine lv_aload_n hx hb dX11_walk_79 rfl (lv_at hl 0 rfl) ?_
                      refine lv_iload_n hx hb dX11_walk_80 rfl (lv_at hl 1 rfl) ?_
                      refine lv_iload_n hx hb dX11_walk_81 rfl (lv_at hl 3 rfl) ?_
                      refine lv_iload_n hx hb dX11_walk_82 rfl (lv_at hl 2 rfl) ?_
                      obtain ⟨v46, M45, hc44, h⟩ := ob_e h
                      refine g_Vl (As := [.int a1, .int x35, .int x29]) (rest := []) S X Z mlv_o rfl rfl (t_X11_get l D dA A hJ  hc44) (cwV 3 hts (mGV (mB 180 rfl) (mB 181 rfl) (mB 182 rfl) (mB 63 rfl) (mB 176 rfl)) rfl rfl rfl (by decide +kernel) ⟨Nat.le_of_ble_eq_true rfl, Nat.le_of_ble_eq_true rfl⟩) rfl hl.1 rfl (Nat.le_of_ble_eq_true rfl) dX11_walk_83 ⟨Nat.zero_le _, Nat.zero_le _⟩ (fun H locs Z => ?_)
                      refine lv_lstore (lv' := [(4, .long v46), (0, .ref (A m_o)), (1, .int a1), (2, .int x29), (3, .int x35)]) hx hb dX11_walk_86 hl (by decide) rfl (fun ls hl => ?_)
                      refine lv_aload_n hx hb dX11_walk_88 rfl (lv_at hl 1 rfl) ?_
                      refine lv_lload hx hb dX11_walk_89 (lv_at hl 0 rfl) ?_
                      refine lv_lconst (v := (0 : Int64)) hx hb dX11_walk_91 (by decide) ?_
                      refine W.lcmp hx hb dX11_walk_92 ?_
                      obtain ⟨J104, eJ104, h⟩ := jn_e h
                      have hJ104 : ∀ (b47 : Int32) (M48 : gM) (H : Heap) (locs : List Loc) (ls : Array Slot), gZ D mLay dA mLive A (gA mLive A) s.heap M48 H locs → lv_has ls 6 [(0, .ref (A m_o)), (1, .int a1), (2, .int x29), (3, .int x35)] → J104 (b47, M48) = some y → W p l e (headSpec wmX11_walk ({ frames := 5, cells := 0, slots := 0, locals := 129 } : Room)).room s m args below meth c H locs 0 0 (MQ below (mQl D dA A y) args s 0 0 (gA mLive A)) (F0 m 104 ls [.int b47, .ref (A m_o)]) := by
                        intro b47 M48 H locs ls Z hl h
                        rw [eJ104] at h
                        try dsimp only at h
                        refine mp_gotValue S X Z hin hl_231 dX11_walk_104 h (fun M49 H locs Z h => ?_)
                        exact hJ107 M49 _ _ _ Z (lv_sub hl [0, 1, 2, 3] rfl) h
                      refine lv_if_ne (tgt := 103) hx hb dX11_walk_93 (by decide) (fun c50 => ?_) (fun c50 => ?_)
                      · have h := if_f c50 h
                        refine lv_iconst (v := (0 : Int32)) hx hb dX11_walk_103 (by decide) ?_
                        exact hJ104 (0 : Int32) M45 _ _ _ Z (lv_sub hl [1, 2, 3, 4] rfl) h
                      · have h := if_t c50 h
                        refine lv_aload_n hx hb dX11_walk_96 rfl (lv_at hl 1 rfl) ?_
                        refine mr_gotValue S X Z hin hl_231 dX11_walk_97 h (fun v51 h => ?_)
                        refine lv_goto (tgt := 104) hx hb dX11_walk_100 (by decide) ?_
                        exact hJ104 v51 M45 _ _ _ Z (lv_sub hl [1, 2, 3, 4] rfl) h
              exact hL56 100 (0 : Int32) M30 _ _ _ Z (lv_sub hl [1, 2, 3, 0] rfl) h
        exact hL50 100 (9 : Int32) M12 _ _ _ Z (lv_sub hl [1, 2, 0] rfl) h
      · have h := if_f c10 h
        refine lv_ldc2 hx hb hown hc_371 dX11_walk_33 ?_
        have hy := Option.some.inj h
        subst hy
        exact g_rl S Z hr hlocks dX11_walk_36
    · have h := if_f c7 h
      refine lv_lconst (v := (0 : Int64)) hx hb dX11_walk_23 (by decide) ?_
      have hy := Option.some.inj h
      subst hy
      exact g_rl S Z hr hlocks dX11_walk_24
  refine lv_if_eq (tgt := 12) hx hb dX11_walk_5 (by decide) (fun c52 => ?_) (fun c52 => ?_)
  · have h := if_t c52 h
    refine lv_iconst (v := (1 : Int32)) hx hb dX11_walk_12 (by decide) ?_
    exact hJ13 (1 : Int32) M _ _ _ Z (lv_sub hl [0, 1] rfl) h
  · have h := if_f c52 h
    refine lv_iconst (v := (0 : Int32)) hx hb dX11_walk_8 (by decide) ?_
    refine lv_goto (tgt := 13) hx hb dX11_walk_9 (by decide) ?_
    exact hJ13 (0 : Int32) M _ _ _ Z (lv_sub hl [0, 1] rfl) h
-- X11_isOf (I)Z: 12 instructions
theorem dX11_isOf_0 : decode cX11_isOf 0 = .ok (.aload_n 0, 1) := by decide +kernel
theorem dX11_isOf_1 : decode cX11_isOf 1 = .ok (.getfield 394, 3) := by decide +kernel
theorem dX11_isOf_4 : decode cX11_isOf 4 = .ok (.iload_n 1, 1) := by decide +kernel
theorem dX11_isOf_5 : decode cX11_isOf 5 = .ok (.ishr, 1) := by decide +kernel
theorem dX11_isOf_6 : decode cX11_isOf 6 = .ok (.iconst 1, 1) := by decide +kernel
theorem dX11_isOf_7 : decode cX11_isOf 7 = .ok (.iand, 1) := by decide +kernel
theorem dX11_isOf_8 : decode cX11_isOf 8 = .ok (.iconst 1, 1) := by decide +kernel
theorem dX11_isOf_9 : decode cX11_isOf 9 = .ok (.if_icmp .ne 7, 3) := by decide +kernel
theorem dX11_isOf_12 : decode cX11_isOf 12 = .ok (.iconst 1, 1) := by decide +kernel
theorem dX11_isOf_13 : decode cX11_isOf 13 = .ok (.goto 4, 3) := by decide +kernel
theorem dX11_isOf_16 : decode cX11_isOf 16 = .ok (.iconst 0, 1) := by decide +kernel
theorem dX11_isOf_17 : decode cX11_isOf 17 = .ok (.ireturn, 1) := by decide +kernel
abbrev wmX11_isOf : List Cond := .code yX11_isOf cX11_isOf 2 (some .boolean) :: mBig
def f_X11_isOf (M : gM) (a1 : Int32) : Option Int32 :=
  lt (M m_o 53) (fun v1 => (if ((v1 >>> (a1 &&& 31)) &&& (1 : Int32)) = (1 : Int32) then some (1 : Int32) else some (0 : Int32)))
set_option maxHeartbeats 4000000 in
set_option maxRecDepth 100000 in
theorem t_X11_isOf (l : Launch) (D : va_G) (dA : Nat → ClassId) (A : gI → Nat) (hJ : gJ mLive A) {M : gM} {a1 : Int32}  {y : Int32} (h : f_X11_isOf M a1 = some y) : mMi l yX11_isOf wmX11_isOf ({ frames := 0, cells := 0, slots := 0, locals := 0 } : Room) D dA A [.ref (A m_o), .int a1] M y M := by
  refine Met.ofW (cc := cX11_isOf) (maxL := 2) (ret := (some .boolean)) (by decide) rfl ?_
  intro p e s m args below meth c s₁ B hml hv
  obtain ⟨rfl, hP, hK⟩ := hv
  generalize hargs : ([.ref (A m_o), .int a1] : List Value).toArray = args at B ⊢
  have S : CallFix p m c cX11_isOf 2 s args wmX11_isOf RX11 := ⟨B.exec, B.bytes, hml, findClass_of_methodNamed B.named, atoms_spec (ws := wmX11_isOf) B.pre⟩
  obtain ⟨hx, hb, -, hown, hts⟩ := id S
  have hr := B.returns
  have hlocks := B.notSynchronized
  have X : gX D vwCl dA mLive A (gA mLive A) s := ⟨hK, hJ, fun i hi => ⟨i, hi, rfl⟩⟩
  have Z : gZ D mLay dA mLive A (gA mLive A) s.heap M s.heap [] := ⟨hP, va_S.rf⟩
  have hin : ∀ w ∈ wsX110, w ∈ wmX11_isOf := m_in
  have hl_394 := hts (.fieldLink RX11 394 "ReplicaFilesModel" "group" "I") (mBc 291 rfl)
  have hl := lv_entry ([.ref (A m_o), .int a1]) (n := 2) (Nat.le_of_ble_eq_true rfl)
  rw [← hargs, lg_entry_eq, hargs]
  generalize (lg_sl ([.ref (A m_o), .int a1]) ++ List.replicate (2 - (lg_sl ([.ref (A m_o), .int a1])).length) Slot.unset).toArray = ls at hl ⊢
  have hl : lv_has ls 2 [(0, .ref (A m_o)), (1, .int a1)] := hl
  unfold f_X11_isOf at h
  refine lv_aload_n hx hb dX11_isOf_0 rfl (lv_at hl 0 rfl) ?_
  refine mr_group S X Z hin hl_394 dX11_isOf_1 h (fun v1 h => ?_)
  refine lv_iload_n hx hb dX11_isOf_4 rfl (lv_at hl 1 rfl) ?_
  refine lv_ishr hx hb dX11_isOf_5 ?_
  refine lv_iconst (v := (1 : Int32)) hx hb dX11_isOf_6 (by decide) ?_
  refine lv_iand hx hb dX11_isOf_7 ?_
  refine lv_iconst (v := (1 : Int32)) hx hb dX11_isOf_8 (by decide) ?_
  refine lv_icmp_ne (tgt := 16) hx hb dX11_isOf_9 (by decide) (fun c2 => ?_) (fun c2 => ?_)
  · have h := if_f c2 h
    refine lv_iconst (v := (0 : Int32)) hx hb dX11_isOf_16 (by decide) ?_
    have hy := Option.some.inj h
    subst hy
    exact g_rz (Or.inl rfl) S Z hr hlocks dX11_isOf_17
  · have h := if_t c2 h
    refine lv_iconst (v := (1 : Int32)) hx hb dX11_isOf_12 (by decide) ?_
    refine lv_goto (tgt := 17) hx hb dX11_isOf_13 (by decide) ?_
    have hy := Option.some.inj h
    subst hy
    exact g_rz (Or.inr rfl) S Z hr hlocks dX11_isOf_17
-- X11_sweep (I)V: 39 instructions
theorem dX11_sweep_0 : decode cX11_sweep 0 = .ok (.iconst 0, 1) := by decide +kernel
theorem dX11_sweep_1 : decode cX11_sweep 1 = .ok (.istore_n 2, 1) := by decide +kernel
theorem dX11_sweep_2 : decode cX11_sweep 2 = .ok (.iload_n 2, 1) := by decide +kernel
theorem dX11_sweep_3 : decode cX11_sweep 3 = .ok (.aload_n 0, 1) := by decide +kernel
theorem dX11_sweep_4 : decode cX11_sweep 4 = .ok (.getfield 155, 3) := by decide +kernel
theorem dX11_sweep_7 : decode cX11_sweep 7 = .ok (.if_icmp .ge 56, 3) := by decide +kernel
theorem dX11_sweep_10 : decode cX11_sweep 10 = .ok (.aload_n 0, 1) := by decide +kernel
theorem dX11_sweep_11 : decode cX11_sweep 11 = .ok (.iload_n 2, 1) := by decide +kernel
theorem dX11_sweep_12 : decode cX11_sweep 12 = .ok (.invokevirtual 406, 3) := by decide +kernel
theorem dX11_sweep_15 : decode cX11_sweep 15 = .ok (.ifCond .eq 42, 3) := by decide +kernel
theorem dX11_sweep_18 : decode cX11_sweep 18 = .ok (.aload_n 0, 1) := by decide +kernel
theorem dX11_sweep_19 : decode cX11_sweep 19 = .ok (.getfield 32, 3) := by decide +kernel
theorem dX11_sweep_22 : decode cX11_sweep 22 = .ok (.bipush 48, 2) := by decide +kernel
theorem dX11_sweep_24 : decode cX11_sweep 24 = .ok (.iload_n 2, 1) := by decide +kernel
theorem dX11_sweep_25 : decode cX11_sweep 25 = .ok (.imul, 1) := by decide +kernel
theorem dX11_sweep_26 : decode cX11_sweep 26 = .ok (.iload_n 1, 1) := by decide +kernel
theorem dX11_sweep_27 : decode cX11_sweep 27 = .ok (.iadd, 1) := by decide +kernel
theorem dX11_sweep_28 : decode cX11_sweep 28 = .ok (.baload, 1) := by decide +kernel
theorem dX11_sweep_29 : decode cX11_sweep 29 = .ok (.ifCond .eq 28, 3) := by decide +kernel
theorem dX11_sweep_32 : decode cX11_sweep 32 = .ok (.aload_n 0, 1) := by decide +kernel
theorem dX11_sweep_33 : decode cX11_sweep 33 = .ok (.iload_n 2, 1) := by decide +kernel
theorem dX11_sweep_34 : decode cX11_sweep 34 = .ok (.iload_n 1, 1) := by decide +kernel
theorem dX11_sweep_35 : decode cX11_sweep 35 = .ok (.invokevirtual 312, 3) := by decide +kernel
theorem dX11_sweep_38 : decode cX11_sweep 38 = .ok (.aload_n 0, 1) := by decide +kernel
theorem dX11_sweep_39 : decode cX11_sweep 39 = .ok (.dup, 1) := by decide +kernel
theorem dX11_sweep_40 : decode cX11_sweep 40 = .ok (.getfield 400, 3) := by decide +kernel
theorem dX11_sweep_43 : decode cX11_sweep 43 = .ok (.iconst 1, 1) := by decide +kernel
theorem dX11_sweep_44 : decode cX11_sweep 44 = .ok (.iadd, 1) := by decide +kernel
theorem dX11_sweep_45 : decode cX11_sweep 45 = .ok (.putfield 400, 3) := by decide +kernel
theorem dX11_sweep_48 : decode cX11_sweep 48 = .ok (.aload_n 0, 1) := by decide +kernel
theorem dX11_sweep_49 : decode cX11_sweep 49 = .ok (.iload_n 1, 1) := by decide +kernel
theorem dX11_sweep_50 : decode cX11_sweep 50 = .ok (.iconst 1, 1) := by decide +kernel
theorem dX11_sweep_51 : decode cX11_sweep 51 = .ok (.iload_n 2, 1) := by decide +kernel
theorem dX11_sweep_52 : decode cX11_sweep 52 = .ok (.ishl, 1) := by decide +kernel
theorem dX11_sweep_53 : decode cX11_sweep 53 = .ok (.iconst (-1), 1) := by decide +kernel
theorem dX11_sweep_54 : decode cX11_sweep 54 = .ok (.invokevirtual 315, 3) := by decide +kernel
theorem dX11_sweep_57 : decode cX11_sweep 57 = .ok (.iinc 2 1, 3) := by decide +kernel
theorem dX11_sweep_60 : decode cX11_sweep 60 = .ok (.goto (-58), 3) := by decide +kernel
theorem dX11_sweep_63 : decode cX11_sweep 63 = .ok (.return_, 1) := by decide +kernel
abbrev wmX11_sweep : List Cond := .code yX11_sweep cX11_sweep 3 none :: mBig
def f_X11_sweep_L2 (a1 : Int32) : Nat → Int32 → gM → Option gM
  | 0, _, _ => none
  | n3 + 1, x1, M2 => lt (M2 m_o 0) (fun v4 => (if v4 ≤ x1 then some M2 else o1 (f_X11_isOf M2 x1) (fun v7 => jn (fun (M8 : gM) => lt (x1 + 1) (fun x9 => f_X11_sweep_L2 a1 n3 x9 M8)) (fun J57 => (if v7 = 0 then J57 M2 else rd M2 m_has 192 (((48 : Int32) * x1) + a1) (fun v11 => (if v11 = 0 then J57 M2 else o1 (f_X11_drop M2 x1 a1) (fun M14 => lt (M14 m_o 55) (fun v15 => lt (gset M14 m_o 55 (v15 + (1 : Int32))) (fun M16 => o1 (f_X11_endPromises M16 a1 ((1 : Int32) <<< (x1 &&& 31)) (-1 : Int32)) (fun M18 => J57 M18)))))))))))
def f_X11_sweep (M : gM) (a1 : Int32) : Option gM :=
  f_X11_sweep_L2 a1 100 (0 : Int32) M
set_option maxHeartbeats 4000000 in
set_option maxRecDepth 100000 in
theorem t_X11_sweep (l : Launch) (D : va_G) (dA : Nat → ClassId) (A : gI → Nat) (hJ : gJ mLive A) {M : gM} {a1 : Int32}  {y : gM} (h : f_X11_sweep M a1 = some y) : mMv l yX11_sweep wmX11_sweep ({ frames := 2, cells := 0, slots := 0, locals := 46 } : Room) D dA A [.ref (A m_o), .int a1] M y := by
  refine Met.ofW (cc := cX11_sweep) (maxL := 3) (ret := none) (by decide) rfl ?_
  intro p e s m args below meth c s₁ B hml hv
  obtain ⟨rfl, hP, hK⟩ := hv
  generalize hargs : ([.ref (A m_o), .int a1] : List Value).toArray = args at B ⊢
  have S : CallFix p m c cX11_sweep 3 s args wmX11_sweep RX11 := ⟨B.exec, B.bytes, hml, findClass_of_methodNamed B.named, atoms_spec (ws := wmX11_sweep) B.pre⟩
  obtain ⟨hx, hb, -, hown, hts⟩ := id S
  have hr := B.returns
  have hlocks := B.notSynchronized
  have X : gX D vwCl dA mLive A (gA mLive A) s := ⟨hK, hJ, fun i hi => ⟨i, hi, rfl⟩⟩
  have Z : gZ D mLay dA mLive A (gA mLive A) s.heap M s.heap [] := ⟨hP, va_S.rf⟩
  have hin : ∀ w ∈ wsX110, w ∈ wmX11_sweep := m_in
  have hl_32 := hts (.fieldLink RX11 32 "ReplicaFilesModel" "has" "[Z") (mBc 12 rfl)
  have hl_155 := hts (.fieldLink RX11 155 "ReplicaFilesModel" "servers" "I") (mBc 53 rfl)
  have hl_400 := hts (.fieldLink RX11 400 "ReplicaFilesModel" "changes" "I") (mBc 292 rfl)
  have hl := lv_entry ([.ref (A m_o), .int a1]) (n := 3) (Nat.le_of_ble_eq_true rfl)
  rw [← hargs, lg_entry_eq, hargs]
  generalize (lg_sl ([.ref (A m_o), .int a1]) ++ List.replicate (3 - (lg_sl ([.ref (A m_o), .int a1])).length) Slot.unset).toArray = ls at hl ⊢
  have hl : lv_has ls 3 [(0, .ref (A m_o)), (1, .int a1)] := hl
  unfold f_X11_sweep at h
  refine lv_iconst (v := (0 : Int32)) hx hb dX11_sweep_0 (by decide) ?_
  refine lv_istore_n (lv' := [(2, .int (0 : Int32)), (0, .ref (A m_o)), (1, .int a1)]) hx hb dX11_sweep_1 rfl hl (by decide) rfl (fun ls hl => ?_)
  have hL2 : ∀ (n : Nat) (x1 : Int32) (M2 : gM) (H : Heap) (locs : List Loc) (ls : Array Slot), gZ D mLay dA mLive A (gA mLive A) s.heap M2 H locs → lv_has ls 3 [(0, .ref (A m_o)), (1, .int a1), (2, .int x1)] → f_X11_sweep_L2 a1 n x1 M2 = some y → W p l e (headSpec wmX11_sweep ({ frames := 2, cells := 0, slots := 0, locals := 46 } : Room)).room s m args below meth c H locs 0 0 (MQ below (mQv D dA A y) args s 0 0 (gA mLive A)) (F0 m 2 ls []) := by
    intro n
    induction n with
    | zero =>
      intro x1 M2 H locs ls Z hl h
      rw [f_X11_sweep_L2] at h
      cases h
    | succ n3 ih2 =>
      intro x1 M2 H locs ls Z hl h
      rw [f_X11_sweep_L2] at h
      refine lv_iload_n hx hb dX11_sweep_2 rfl (lv_at hl 2 rfl) ?_
      refine lv_aload_n hx hb dX11_sweep_3 rfl (lv_at hl 0 rfl) ?_
      refine mr_servers S X Z hin hl_155 dX11_sweep_4 h (fun v4 h => ?_)
      refine lv_icmp_ge (tgt := 63) hx hb dX11_sweep_7 (by decide) (fun c5 => ?_) (fun c5 => ?_)
      · have h := if_t c5 h
        have hy := Option.some.inj h
        subst hy
        exact g_rv S Z hr hlocks dX11_sweep_63
      · have h := if_f c5 h
        refine lv_aload_n hx hb dX11_sweep_10 rfl (lv_at hl 0 rfl) ?_
        refine lv_iload_n hx hb dX11_sweep_11 rfl (lv_at hl 2 rfl) ?_
        obtain ⟨v7, hc6, h⟩ := o1_e h
        refine g_Vi (As := [.int x1]) (rest := []) S X Z mlv_o rfl rfl (t_X11_isOf l D dA A hJ  hc6) (cwV 1 hts (mGV (mB 293 rfl) (mB 294 rfl) (mB 295 rfl) (mB 63 rfl) (mB 290 rfl)) rfl rfl rfl (by decide +kernel) ⟨Nat.le_of_ble_eq_true rfl, Nat.le_of_ble_eq_true rfl⟩) rfl hl.1 rfl (Nat.le_of_ble_eq_true rfl) dX11_sweep_12 ⟨Nat.zero_le _, Nat.zero_le _⟩ (fun H locs Z => ?_)
        obtain ⟨J57, eJ57, h⟩ := jn_e h
        have hJ57 : ∀ (M8 : gM) (H : Heap) (locs : List Loc) (ls : Array Slot), gZ D mLay dA mLive A (gA mLive A) s.heap M8 H locs → lv_has ls 3 [(0, .ref (A m_o)), (1, .int a1), (2, .int x1)] → J57 M8 = some y → W p l e (headSpec wmX11_sweep ({ frames := 2, cells := 0, slots := 0, locals := 46 } : Room)).room s m args below meth c H locs 0 0 (MQ below (mQv D dA A y) args s 0 0 (gA mLive A)) (F0 m 57 ls []) := by
          intro M8 H locs ls Z hl h
          rw [eJ57] at h
          try dsimp only at h
          obtain ⟨x9, ex9, h⟩ := lt_e h
          refine lv_iinc (v := x9) (lv' := [(2, .int x9), (0, .ref (A m_o)), (1, .int a1)]) hx hb dX11_sweep_57 hl (k := 2) rfl (by rw [ex9]; rfl) (by decide) rfl (fun ls hl => ?_)
          refine lv_goto (tgt := 2) hx hb dX11_sweep_60 (by decide) ?_
          exact ih2 x9 M8 _ _ _ Z (lv_sub hl [1, 2, 0] rfl) h
        refine lv_if_eq (tgt := 57) hx hb dX11_sweep_15 (by decide) (fun c10 => ?_) (fun c10 => ?_)
        · have h := if_t c10 h
          exact hJ57 M2 _ _ _ Z (lv_sub hl [0, 1, 2] rfl) h
        · have h := if_f c10 h
          refine lv_aload_n hx hb dX11_sweep_18 rfl (lv_at hl 0 rfl) ?_
          refine mr_has S X Z hin hl_32 dX11_sweep_19 ?_
          refine lv_bipush (v := (48 : Int32)) hx hb dX11_sweep_22 (by decide) ?_
          refine lv_iload_n hx hb dX11_sweep_24 rfl (lv_at hl 2 rfl) ?_
          refine lv_imul hx hb dX11_sweep_25 ?_
          refine lv_iload_n hx hb dX11_sweep_26 rfl (lv_at hl 1 rfl) ?_
          refine lv_iadd hx hb dX11_sweep_27 ?_
          refine g_zald S X Z ml_has rfl dX11_sweep_28 h (fun v11 h => ?_)
          refine lv_if_eq (tgt := 57) hx hb dX11_sweep_29 (by decide) (fun c12 => ?_) (fun c12 => ?_)
          · have h := if_t c12 h
            exact hJ57 M2 _ _ _ Z (lv_sub hl [0, 1, 2] rfl) h
          · have h := if_f c12 h
            refine lv_aload_n hx hb dX11_sweep_32 rfl (lv_at hl 0 rfl) ?_
            refine lv_iload_n hx hb dX11_sweep_33 rfl (lv_at hl 2 rfl) ?_
            refine lv_iload_n hx hb dX11_sweep_34 rfl (lv_at hl 1 rfl) ?_
            obtain ⟨M14, hc13, h⟩ := o1_e h
            refine g_Vv (As := [.int x1, .int a1]) (rest := []) S X Z mlv_o rfl rfl (t_X11_drop l D dA A hJ  hc13) (cwV 2 hts (mGV (mB 206 rfl) (mB 207 rfl) (mB 208 rfl) (mB 63 rfl) (mB 103 rfl)) rfl rfl rfl (by decide +kernel) ⟨Nat.le_of_ble_eq_true rfl, Nat.le_of_ble_eq_true rfl⟩) rfl hl.1 rfl (Nat.le_of_ble_eq_true rfl) dX11_sweep_35 ⟨Nat.zero_le _, Nat.zero_le _⟩ (fun H locs Z => ?_)
            refine lv_aload_n hx hb dX11_sweep_38 rfl (lv_at hl 0 rfl) ?_
            refine lv_dup hx hb dX11_sweep_39 rfl ?_
            refine mr_changes S X Z hin hl_400 dX11_sweep_40 h (fun v15 h => ?_)
            refine lv_iconst (v := (1 : Int32)) hx hb dX11_sweep_43 (by decide) ?_
            refine lv_iadd hx hb dX11_sweep_44 ?_
            refine mp_changes S X Z hin hl_400 dX11_sweep_45 h (fun M16 H locs Z h => ?_)
            refine lv_aload_n hx hb dX11_sweep_48 rfl (lv_at hl 0 rfl) ?_
            refine lv_iload_n hx hb dX11_sweep_49 rfl (lv_at hl 1 rfl) ?_
            refine lv_iconst (v := (1 : Int32)) hx hb dX11_sweep_50 (by decide) ?_
            refine lv_iload_n hx hb dX11_sweep_51 rfl (lv_at hl 2 rfl) ?_
            refine lv_ishl hx hb dX11_sweep_52 ?_
            refine lv_iconst (v := (-1 : Int32)) hx hb dX11_sweep_53 (by decide) ?_
            obtain ⟨M18, hc17, h⟩ := o1_e h
            refine g_Vv (As := [.int a1, .int ((1 : Int32) <<< (x1 &&& 31)), .int (-1 : Int32)]) (rest := []) S X Z mlv_o rfl rfl (t_X11_endPromises l D dA A hJ  hc17) (cwV 3 hts (mGV (mB 211 rfl) (mB 212 rfl) (mB 213 rfl) (mB 63 rfl) (mB 196 rfl)) rfl rfl rfl (by decide +kernel) ⟨Nat.le_of_ble_eq_true rfl, Nat.le_of_ble_eq_true rfl⟩) rfl hl.1 rfl (Nat.le_of_ble_eq_true rfl) dX11_sweep_54 ⟨Nat.zero_le _, Nat.zero_le _⟩ (fun H locs Z => ?_)
            exact hJ57 M18 _ _ _ Z (lv_sub hl [0, 1, 2] rfl) h
  exact hL2 100 (0 : Int32) M _ _ _ Z (lv_sub hl [1, 2, 0] rfl) h
-- X11_standing (I)I: 39 instructions
theorem dX11_standing_0 : decode cX11_standing 0 = .ok (.iload_n 1, 1) := by decide +kernel
theorem dX11_standing_1 : decode cX11_standing 1 = .ok (.ifCond .ne 5, 3) := by decide +kernel
theorem dX11_standing_4 : decode cX11_standing 4 = .ok (.iconst 1, 1) := by decide +kernel
theorem dX11_standing_5 : decode cX11_standing 5 = .ok (.ireturn, 1) := by decide +kernel
theorem dX11_standing_6 : decode cX11_standing 6 = .ok (.iconst 0, 1) := by decide +kernel
theorem dX11_standing_7 : decode cX11_standing 7 = .ok (.istore_n 2, 1) := by decide +kernel
theorem dX11_standing_8 : decode cX11_standing 8 = .ok (.iload_n 2, 1) := by decide +kernel
theorem dX11_standing_9 : decode cX11_standing 9 = .ok (.aload_n 0, 1) := by decide +kernel
theorem dX11_standing_10 : decode cX11_standing 10 = .ok (.getfield 155, 3) := by decide +kernel
theorem dX11_standing_13 : decode cX11_standing 13 = .ok (.if_icmp .ge 48, 3) := by decide +kernel
theorem dX11_standing_16 : decode cX11_standing 16 = .ok (.aload_n 0, 1) := by decide +kernel
theorem dX11_standing_17 : decode cX11_standing 17 = .ok (.iload_n 2, 1) := by decide +kernel
theorem dX11_standing_18 : decode cX11_standing 18 = .ok (.invokevirtual 406, 3) := by decide +kernel
theorem dX11_standing_21 : decode cX11_standing 21 = .ok (.ifCond .eq 34, 3) := by decide +kernel
theorem dX11_standing_24 : decode cX11_standing 24 = .ok (.aload_n 0, 1) := by decide +kernel
theorem dX11_standing_25 : decode cX11_standing 25 = .ok (.getfield 32, 3) := by decide +kernel
theorem dX11_standing_28 : decode cX11_standing 28 = .ok (.bipush 48, 2) := by decide +kernel
theorem dX11_standing_30 : decode cX11_standing 30 = .ok (.iload_n 2, 1) := by decide +kernel
theorem dX11_standing_31 : decode cX11_standing 31 = .ok (.imul, 1) := by decide +kernel
theorem dX11_standing_32 : decode cX11_standing 32 = .ok (.aload_n 0, 1) := by decide +kernel
theorem dX11_standing_33 : decode cX11_standing 33 = .ok (.getfield 22, 3) := by decide +kernel
theorem dX11_standing_36 : decode cX11_standing 36 = .ok (.iload_n 1, 1) := by decide +kernel
theorem dX11_standing_37 : decode cX11_standing 37 = .ok (.iaload, 1) := by decide +kernel
theorem dX11_standing_38 : decode cX11_standing 38 = .ok (.iadd, 1) := by decide +kernel
theorem dX11_standing_39 : decode cX11_standing 39 = .ok (.baload, 1) := by decide +kernel
theorem dX11_standing_40 : decode cX11_standing 40 = .ok (.ifCond .eq 15, 3) := by decide +kernel
theorem dX11_standing_43 : decode cX11_standing 43 = .ok (.aload_n 0, 1) := by decide +kernel
theorem dX11_standing_44 : decode cX11_standing 44 = .ok (.getfield 56, 3) := by decide +kernel
theorem dX11_standing_47 : decode cX11_standing 47 = .ok (.bipush 48, 2) := by decide +kernel
theorem dX11_standing_49 : decode cX11_standing 49 = .ok (.iload_n 2, 1) := by decide +kernel
theorem dX11_standing_50 : decode cX11_standing 50 = .ok (.imul, 1) := by decide +kernel
theorem dX11_standing_51 : decode cX11_standing 51 = .ok (.iload_n 1, 1) := by decide +kernel
theorem dX11_standing_52 : decode cX11_standing 52 = .ok (.iadd, 1) := by decide +kernel
theorem dX11_standing_53 : decode cX11_standing 53 = .ok (.iaload, 1) := by decide +kernel
theorem dX11_standing_54 : decode cX11_standing 54 = .ok (.ireturn, 1) := by decide +kernel
theorem dX11_standing_55 : decode cX11_standing 55 = .ok (.iinc 2 1, 3) := by decide +kernel
theorem dX11_standing_58 : decode cX11_standing 58 = .ok (.goto (-50), 3) := by decide +kernel
theorem dX11_standing_61 : decode cX11_standing 61 = .ok (.iconst 0, 1) := by decide +kernel
theorem dX11_standing_62 : decode cX11_standing 62 = .ok (.ireturn, 1) := by decide +kernel
abbrev wmX11_standing : List Cond := .code yX11_standing cX11_standing 3 (some .int) :: mBig
def f_X11_standing_L8 (M5 : gM) (a1 : Int32) (J43 : Int32 → Option Int32) : Nat → Int32 → Option Int32
  | 0, _ => none
  | n6 + 1, x4 => lt (M5 m_o 0) (fun v7 => (if v7 ≤ x4 then some (0 : Int32) else o1 (f_X11_isOf M5 x4) (fun v10 => jn (fun (_ : Unit) => lt (x4 + 1) (fun x11 => f_X11_standing_L8 M5 a1 J43 n6 x11)) (fun J55 => (if v10 = 0 then J55 () else rd M5 m_parent 48 a1 (fun v13 => rd M5 m_has 192 (((48 : Int32) * x4) + v13) (fun v14 => (if v14 = 0 then J55 () else J43 x4))))))))
def f_X11_standing (M : gM) (a1 : Int32) : Option Int32 :=
  (if a1 = 0 then some (1 : Int32) else jn (fun (b2 : Int32) => rd M m_entry 192 (((48 : Int32) * b2) + a1) (fun v3 => some v3)) (fun J43 => f_X11_standing_L8 M a1 J43 100 (0 : Int32)))
set_option maxHeartbeats 4000000 in
set_option maxRecDepth 100000 in
theorem t_X11_standing (l : Launch) (D : va_G) (dA : Nat → ClassId) (A : gI → Nat) (hJ : gJ mLive A) {M : gM} {a1 : Int32}  {y : Int32} (h : f_X11_standing M a1 = some y) : mMi l yX11_standing wmX11_standing ({ frames := 1, cells := 0, slots := 0, locals := 21 } : Room) D dA A [.ref (A m_o), .int a1] M y M := by
  refine Met.ofW (cc := cX11_standing) (maxL := 3) (ret := (some .int)) (by decide) rfl ?_
  intro p e s m args below meth c s₁ B hml hv
  obtain ⟨rfl, hP, hK⟩ := hv
  generalize hargs : ([.ref (A m_o), .int a1] : List Value).toArray = args at B ⊢
  have S : CallFix p m c cX11_standing 3 s args wmX11_standing RX11 := ⟨B.exec, B.bytes, hml, findClass_of_methodNamed B.named, atoms_spec (ws := wmX11_standing) B.pre⟩
  obtain ⟨hx, hb, -, hown, hts⟩ := id S
  have hr := B.returns
  have hlocks := B.notSynchronized
  have X : gX D vwCl dA mLive A (gA mLive A) s := ⟨hK, hJ, fun i hi => ⟨i, hi, rfl⟩⟩
  have Z : gZ D mLay dA mLive A (gA mLive A) s.heap M s.heap [] := ⟨hP, va_S.rf⟩
  have hin : ∀ w ∈ wsX110, w ∈ wmX11_standing := m_in
  have hl_22 := hts (.fieldLink RX11 22 "ReplicaFilesModel" "parent" "[I") (mBc 9 rfl)
  have hl_32 := hts (.fieldLink RX11 32 "ReplicaFilesModel" "has" "[Z") (mBc 12 rfl)
  have hl_56 := hts (.fieldLink RX11 56 "ReplicaFilesModel" "entry" "[I") (mBc 20 rfl)
  have hl_155 := hts (.fieldLink RX11 155 "ReplicaFilesModel" "servers" "I") (mBc 53 rfl)
  have hl := lv_entry ([.ref (A m_o), .int a1]) (n := 3) (Nat.le_of_ble_eq_true rfl)
  rw [← hargs, lg_entry_eq, hargs]
  generalize (lg_sl ([.ref (A m_o), .int a1]) ++ List.replicate (3 - (lg_sl ([.ref (A m_o), .int a1])).length) Slot.unset).toArray = ls at hl ⊢
  have hl : lv_has ls 3 [(0, .ref (A m_o)), (1, .int a1)] := hl
  unfold f_X11_standing at h
  refine lv_iload_n hx hb dX11_standing_0 rfl (lv_at hl 1 rfl) ?_
  refine lv_if_ne (tgt := 6) hx hb dX11_standing_1 (by decide) (fun c1 => ?_) (fun c1 => ?_)
  · have h := if_f c1 h
    refine lv_iconst (v := (0 : Int32)) hx hb dX11_standing_6 (by decide) ?_
    refine lv_istore_n (lv' := [(2, .int (0 : Int32)), (0, .ref (A m_o)), (1, .int a1)]) hx hb dX11_standing_7 rfl hl (by decide) rfl (fun ls hl => ?_)
    obtain ⟨J43, eJ43, h⟩ := jn_e h
    have hJ43 : ∀ (b2 : Int32) (H : Heap) (locs : List Loc) (ls : Array Slot), gZ D mLay dA mLive A (gA mLive A) s.heap M H locs → lv_has ls 3 [(0, .ref (A m_o)), (1, .int a1), (2, .int b2)] → J43 b2 = some y → W p l e (headSpec wmX11_standing ({ frames := 1, cells := 0, slots := 0, locals := 21 } : Room)).room s m args below meth c H locs 0 0 (MQ below (mQi D dA A (y, M)) args s 0 0 (gA mLive A)) (F0 m 43 ls []) := by
      intro b2 H locs ls Z hl h
      rw [eJ43] at h
      try dsimp only at h
      refine lv_aload_n hx hb dX11_standing_43 rfl (lv_at hl 0 rfl) ?_
      refine mr_entry S X Z hin hl_56 dX11_standing_44 ?_
      refine lv_bipush (v := (48 : Int32)) hx hb dX11_standing_47 (by decide) ?_
      refine lv_iload_n hx hb dX11_standing_49 rfl (lv_at hl 2 rfl) ?_
      refine lv_imul hx hb dX11_standing_50 ?_
      refine lv_iload_n hx hb dX11_standing_51 rfl (lv_at hl 1 rfl) ?_
      refine lv_iadd hx hb dX11_standing_52 ?_
      refine g_iald S X Z ml_entry rfl dX11_standing_53 h (fun v3 h => ?_)
      have hy := Option.some.inj h
      subst hy
      exact g_ri S Z hr hlocks dX11_standing_54
    have hL8 : ∀ (n : Nat) (x4 : Int32) (H : Heap) (locs : List Loc) (ls : Array Slot), gZ D mLay dA mLive A (gA mLive A) s.heap M H locs → lv_has ls 3 [(0, .ref (A m_o)), (1, .int a1), (2, .int x4)] → f_X11_standing_L8 M a1 J43 n x4 = some y → W p l e (headSpec wmX11_standing ({ frames := 1, cells := 0, slots := 0, locals := 21 } : Room)).room s m args below meth c H locs 0 0 (MQ below (mQi D dA A (y, M)) args s 0 0 (gA mLive A)) (F0 m 8 ls []) := by
      intro n
      induction n with
      | zero =>
        intro x4 H locs ls Z hl h
        rw [f_X11_standing_L8] at h
        cases h
      | succ n6 ih8 =>
        intro x4 H locs ls Z hl h
        rw [f_X11_standing_L8] at h
        refine lv_iload_n hx hb dX11_standing_8 rfl (lv_at hl 2 rfl) ?_
        refine lv_aload_n hx hb dX11_standing_9 rfl (lv_at hl 0 rfl) ?_
        refine mr_servers S X Z hin hl_155 dX11_standing_10 h (fun v7 h => ?_)
        refine lv_icmp_ge (tgt := 61) hx hb dX11_standing_13 (by decide) (fun c8 => ?_) (fun c8 => ?_)
        · have h := if_t c8 h
          refine lv_iconst (v := (0 : Int32)) hx hb dX11_standing_61 (by decide) ?_
          have hy := Option.some.inj h
          subst hy
          exact g_ri S Z hr hlocks dX11_standing_62
        · have h := if_f c8 h
          refine lv_aload_n hx hb dX11_standing_16 rfl (lv_at hl 0 rfl) ?_
          refine lv_iload_n hx hb dX11_standing_17 rfl (lv_at hl 2 rfl) ?_
          obtain ⟨v10, hc9, h⟩ := o1_e h
          refine g_Vi (As := [.int x4]) (rest := []) S X Z mlv_o rfl rfl (t_X11_isOf l D dA A hJ  hc9) (cwV 1 hts (mGV (mB 293 rfl) (mB 294 rfl) (mB 295 rfl) (mB 63 rfl) (mB 290 rfl)) rfl rfl rfl (by decide +kernel) ⟨Nat.le_of_ble_eq_true rfl, Nat.le_of_ble_eq_true rfl⟩) rfl hl.1 rfl (Nat.le_of_ble_eq_true rfl) dX11_standing_18 ⟨Nat.zero_le _, Nat.zero_le _⟩ (fun H locs Z => ?_)
          obtain ⟨J55, eJ55, h⟩ := jn_e h
          have hJ55 : ∀  (H : Heap) (locs : List Loc) (ls : Array Slot), gZ D mLay dA mLive A (gA mLive A) s.heap M H locs → lv_has ls 3 [(0, .ref (A m_o)), (1, .int a1), (2, .int x4)] → J55 () = some y → W p l e (headSpec wmX11_standing ({ frames := 1, cells := 0, slots := 0, locals := 21 } : Room)).room s m args below meth c H locs 0 0 (MQ below (mQi D dA A (y, M)) args s 0 0 (gA mLive A)) (F0 m 55 ls []) := by
            intro  H locs ls Z hl h
            rw [eJ55] at h
            try dsimp only at h
            obtain ⟨x11, ex11, h⟩ := lt_e h
            refine lv_iinc (v := x11) (lv' := [(2, .int x11), (0, .ref (A m_o)), (1, .int a1)]) hx hb dX11_standing_55 hl (k := 2) rfl (by rw [ex11]; rfl) (by decide) rfl (fun ls hl => ?_)
            refine lv_goto (tgt := 8) hx hb dX11_standing_58 (by decide) ?_
            exact ih8 x11 _ _ _ Z (lv_sub hl [1, 2, 0] rfl) h
          refine lv_if_eq (tgt := 55) hx hb dX11_standing_21 (by decide) (fun c12 => ?_) (fun c12 => ?_)
          · have h := if_t c12 h
            exact hJ55  _ _ _ Z (lv_sub hl [0, 1, 2] rfl) h
          · have h := if_f c12 h
            refine lv_aload_n hx hb dX11_standing_24 rfl (lv_at hl 0 rfl) ?_
            refine mr_has S X Z hin hl_32 dX11_standing_25 ?_
            refine lv_bipush (v := (48 : Int32)) hx hb dX11_standing_28 (by decide) ?_
            refine lv_iload_n hx hb dX11_standing_30 rfl (lv_at hl 2 rfl) ?_
            refine lv_imul hx hb dX11_standing_31 ?_
            refine lv_aload_n hx hb dX11_standing_32 rfl (lv_at hl 0 rfl) ?_
            refine mr_parent S X Z hin hl_22 dX11_standing_33 ?_
            refine lv_iload_n hx hb dX11_standing_36 rfl (lv_at hl 1 rfl) ?_
            refine g_iald S X Z ml_parent rfl dX11_standing_37 h (fun v13 h => ?_)
            refine lv_iadd hx hb dX11_standing_38 ?_
            refine g_zald S X Z ml_has rfl dX11_standing_39 h (fun v14 h => ?_)
            refine lv_if_eq (tgt := 55) hx hb dX11_standing_40 (by decide) (fun c15 => ?_) (fun c15 => ?_)
            · have h := if_t c15 h
              exact hJ55  _ _ _ Z (lv_sub hl [0, 1, 2] rfl) h
            · have h := if_f c15 h
              exact hJ43 x4 _ _ _ Z (lv_sub hl [0, 1, 2] rfl) h
    exact hL8 100 (0 : Int32) _ _ _ Z (lv_sub hl [1, 2, 0] rfl) h
  · have h := if_t c1 h
    refine lv_iconst (v := (1 : Int32)) hx hb dX11_standing_4 (by decide) ?_
    have hy := Option.some.inj h
    subst hy
    exact g_ri S Z hr hlocks dX11_standing_5
-- X11_someHas (I)Z: 31 instructions
theorem dX11_someHas_0 : decode cX11_someHas 0 = .ok (.iconst 0, 1) := by decide +kernel
theorem dX11_someHas_1 : decode cX11_someHas 1 = .ok (.istore_n 2, 1) := by decide +kernel
theorem dX11_someHas_2 : decode cX11_someHas 2 = .ok (.iconst 0, 1) := by decide +kernel
theorem dX11_someHas_3 : decode cX11_someHas 3 = .ok (.istore_n 3, 1) := by decide +kernel
theorem dX11_someHas_4 : decode cX11_someHas 4 = .ok (.iload_n 3, 1) := by decide +kernel
theorem dX11_someHas_5 : decode cX11_someHas 5 = .ok (.aload_n 0, 1) := by decide +kernel
theorem dX11_someHas_6 : decode cX11_someHas 6 = .ok (.getfield 155, 3) := by decide +kernel
theorem dX11_someHas_9 : decode cX11_someHas 9 = .ok (.if_icmp .ge 41, 3) := by decide +kernel
theorem dX11_someHas_12 : decode cX11_someHas 12 = .ok (.iload_n 2, 1) := by decide +kernel
theorem dX11_someHas_13 : decode cX11_someHas 13 = .ok (.ifCond .ne 25, 3) := by decide +kernel
theorem dX11_someHas_16 : decode cX11_someHas 16 = .ok (.aload_n 0, 1) := by decide +kernel
theorem dX11_someHas_17 : decode cX11_someHas 17 = .ok (.iload_n 3, 1) := by decide +kernel
theorem dX11_someHas_18 : decode cX11_someHas 18 = .ok (.invokevirtual 406, 3) := by decide +kernel
theorem dX11_someHas_21 : decode cX11_someHas 21 = .ok (.ifCond .eq 21, 3) := by decide +kernel
theorem dX11_someHas_24 : decode cX11_someHas 24 = .ok (.aload_n 0, 1) := by decide +kernel
theorem dX11_someHas_25 : decode cX11_someHas 25 = .ok (.getfield 32, 3) := by decide +kernel
theorem dX11_someHas_28 : decode cX11_someHas 28 = .ok (.bipush 48, 2) := by decide +kernel
theorem dX11_someHas_30 : decode cX11_someHas 30 = .ok (.iload_n 3, 1) := by decide +kernel
theorem dX11_someHas_31 : decode cX11_someHas 31 = .ok (.imul, 1) := by decide +kernel
theorem dX11_someHas_32 : decode cX11_someHas 32 = .ok (.iload_n 1, 1) := by decide +kernel
theorem dX11_someHas_33 : decode cX11_someHas 33 = .ok (.iadd, 1) := by decide +kernel
theorem dX11_someHas_34 : decode cX11_someHas 34 = .ok (.baload, 1) := by decide +kernel
theorem dX11_someHas_35 : decode cX11_someHas 35 = .ok (.ifCond .eq 7, 3) := by decide +kernel
theorem dX11_someHas_38 : decode cX11_someHas 38 = .ok (.iconst 1, 1) := by decide +kernel
theorem dX11_someHas_39 : decode cX11_someHas 39 = .ok (.goto 4, 3) := by decide +kernel
theorem dX11_someHas_42 : decode cX11_someHas 42 = .ok (.iconst 0, 1) := by decide +kernel
theorem dX11_someHas_43 : decode cX11_someHas 43 = .ok (.istore_n 2, 1) := by decide +kernel
theorem dX11_someHas_44 : decode cX11_someHas 44 = .ok (.iinc 3 1, 3) := by decide +kernel
theorem dX11_someHas_47 : decode cX11_someHas 47 = .ok (.goto (-43), 3) := by decide +kernel
theorem dX11_someHas_50 : decode cX11_someHas 50 = .ok (.iload_n 2, 1) := by decide +kernel
theorem dX11_someHas_51 : decode cX11_someHas 51 = .ok (.ireturn, 1) := by decide +kernel
abbrev wmX11_someHas : List Cond := .code yX11_someHas cX11_someHas 4 (some .boolean) :: mBig
def f_X11_someHas_L4 (M3 : gM) (a1 : Int32) : Nat → Int32 → Int32 → Option Int32
  | 0, _, _ => none
  | n4 + 1, x1, x2 => lt (M3 m_o 0) (fun v5 => (if v5 ≤ x2 then gz x1 (some x1) else jn (fun (b8 : Int32) => lt (x2 + 1) (fun x9 => f_X11_someHas_L4 M3 a1 n4 b8 x9)) (fun J43 => jn (fun (_ : Unit) => J43 (1 : Int32)) (fun J38 => (if x1 = 0 then o1 (f_X11_isOf M3 x2) (fun v12 => jn (fun (_ : Unit) => J43 (0 : Int32)) (fun J42 => (if v12 = 0 then J42 () else rd M3 m_has 192 (((48 : Int32) * x2) + a1) (fun v14 => (if v14 = 0 then J42 () else J38 ()))))) else J38 ())))))
def f_X11_someHas (M : gM) (a1 : Int32) : Option Int32 :=
  f_X11_someHas_L4 M a1 100 (0 : Int32) (0 : Int32)
set_option maxHeartbeats 4000000 in
set_option maxRecDepth 100000 in
theorem t_X11_someHas (l : Launch) (D : va_G) (dA : Nat → ClassId) (A : gI → Nat) (hJ : gJ mLive A) {M : gM} {a1 : Int32}  {y : Int32} (h : f_X11_someHas M a1 = some y) : mMi l yX11_someHas wmX11_someHas ({ frames := 1, cells := 0, slots := 0, locals := 21 } : Room) D dA A [.ref (A m_o), .int a1] M y M := by
  refine Met.ofW (cc := cX11_someHas) (maxL := 4) (ret := (some .boolean)) (by decide) rfl ?_
  intro p e s m args below meth c s₁ B hml hv
  obtain ⟨rfl, hP, hK⟩ := hv
  generalize hargs : ([.ref (A m_o), .int a1] : List Value).toArray = args at B ⊢
  have S : CallFix p m c cX11_someHas 4 s args wmX11_someHas RX11 := ⟨B.exec, B.bytes, hml, findClass_of_methodNamed B.named, atoms_spec (ws := wmX11_someHas) B.pre⟩
  obtain ⟨hx, hb, -, hown, hts⟩ := id S
  have hr := B.returns
  have hlocks := B.notSynchronized
  have X : gX D vwCl dA mLive A (gA mLive A) s := ⟨hK, hJ, fun i hi => ⟨i, hi, rfl⟩⟩
  have Z : gZ D mLay dA mLive A (gA mLive A) s.heap M s.heap [] := ⟨hP, va_S.rf⟩
  have hin : ∀ w ∈ wsX110, w ∈ wmX11_someHas := m_in
  have hl_32 := hts (.fieldLink RX11 32 "ReplicaFilesModel" "has" "[Z") (mBc 12 rfl)
  have hl_155 := hts (.fieldLink RX11 155 "ReplicaFilesModel" "servers" "I") (mBc 53 rfl)
  have hl := lv_entry ([.ref (A m_o), .int a1]) (n := 4) (Nat.le_of_ble_eq_true rfl)
  rw [← hargs, lg_entry_eq, hargs]
  generalize (lg_sl ([.ref (A m_o), .int a1]) ++ List.replicate (4 - (lg_sl ([.ref (A m_o), .int a1])).length) Slot.unset).toArray = ls at hl ⊢
  have hl : lv_has ls 4 [(0, .ref (A m_o)), (1, .int a1)] := hl
  unfold f_X11_someHas at h
  refine lv_iconst (v := (0 : Int32)) hx hb dX11_someHas_0 (by decide) ?_
  refine lv_istore_n (lv' := [(2, .int (0 : Int32)), (0, .ref (A m_o)), (1, .int a1)]) hx hb dX11_someHas_1 rfl hl (by decide) rfl (fun ls hl => ?_)
  refine lv_iconst (v := (0 : Int32)) hx hb dX11_someHas_2 (by decide) ?_
  refine lv_istore_n (lv' := [(3, .int (0 : Int32)), (2, .int (0 : Int32)), (0, .ref (A m_o)), (1, .int a1)]) hx hb dX11_someHas_3 rfl hl (by decide) rfl (fun ls hl => ?_)
  have hL4 : ∀ (n : Nat) (x1 : Int32) (x2 : Int32) (H : Heap) (locs : List Loc) (ls : Array Slot), gZ D mLay dA mLive A (gA mLive A) s.heap M H locs → lv_has ls 4 [(0, .ref (A m_o)), (1, .int a1), (2, .int x1), (3, .int x2)] → f_X11_someHas_L4 M a1 n x1 x2 = some y → W p l e (headSpec wmX11_someHas ({ frames := 1, cells := 0, slots := 0, locals := 21 } : Room)).room s m args below meth c H locs 0 0 (MQ below (mQi D dA A (y, M)) args s 0 0 (gA mLive A)) (F0 m 4 ls []) := by
    intro n
    induction n with
    | zero =>
      intro x1 x2 H locs ls Z hl h
      rw [f_X11_someHas_L4] at h
      cases h
    | succ n4 ih4 =>
      intro x1 x2 H locs ls Z hl h
      rw [f_X11_someHas_L4] at h
      refine lv_iload_n hx hb dX11_someHas_4 rfl (lv_at hl 3 rfl) ?_
      refine lv_aload_n hx hb dX11_someHas_5 rfl (lv_at hl 0 rfl) ?_
      refine mr_servers S X Z hin hl_155 dX11_someHas_6 h (fun v5 h => ?_)
      refine lv_icmp_ge (tgt := 50) hx hb dX11_someHas_9 (by decide) (fun c6 => ?_) (fun c6 => ?_)
      · have h := if_t c6 h
        refine lv_iload_n hx hb dX11_someHas_50 rfl (lv_at hl 2 rfl) ?_
        obtain ⟨z7, h⟩ := gz_e h
        have hy := Option.some.inj h
        subst hy
        exact g_rz (z7) S Z hr hlocks dX11_someHas_51
      · have h := if_f c6 h
        refine lv_iload_n hx hb dX11_someHas_12 rfl (lv_at hl 2 rfl) ?_
        obtain ⟨J43, eJ43, h⟩ := jn_e h
        have hJ43 : ∀ (b8 : Int32) (H : Heap) (locs : List Loc) (ls : Array Slot), gZ D mLay dA mLive A (gA mLive A) s.heap M H locs → lv_has ls 4 [(0, .ref (A m_o)), (1, .int a1), (3, .int x2)] → J43 b8 = some y → W p l e (headSpec wmX11_someHas ({ frames := 1, cells := 0, slots := 0, locals := 21 } : Room)).room s m args below meth c H locs 0 0 (MQ below (mQi D dA A (y, M)) args s 0 0 (gA mLive A)) (F0 m 43 ls [.int b8]) := by
          intro b8 H locs ls Z hl h
          rw [eJ43] at h
          try dsimp only at h
          refine lv_istore_n (lv' := [(2, .int b8), (0, .ref (A m_o)), (1, .int a1), (3, .int x2)]) hx hb dX11_someHas_43 rfl hl (by decide) rfl (fun ls hl => ?_)
          obtain ⟨x9, ex9, h⟩ := lt_e h
          refine lv_iinc (v := x9) (lv' := [(3, .int x9), (2, .int b8), (0, .ref (A m_o)), (1, .int a1)]) hx hb dX11_someHas_44 hl (k := 3) rfl (by rw [ex9]; rfl) (by decide) rfl (fun ls hl => ?_)
          refine lv_goto (tgt := 4) hx hb dX11_someHas_47 (by decide) ?_
          exact ih4 b8 x9 _ _ _ Z (lv_sub hl [2, 3, 1, 0] rfl) h
        obtain ⟨J38, eJ38, h⟩ := jn_e h
        have hJ38 : ∀  (H : Heap) (locs : List Loc) (ls : Array Slot), gZ D mLay dA mLive A (gA mLive A) s.heap M H locs → lv_has ls 4 [(0, .ref (A m_o)), (1, .int a1), (3, .int x2)] → J38 () = some y → W p l e (headSpec wmX11_someHas ({ frames := 1, cells := 0, slots := 0, locals := 21 } : Room)).room s m args below meth c H locs 0 0 (MQ below (mQi D dA A (y, M)) args s 0 0 (gA mLive A)) (F0 m 38 ls []) := by
          intro  H locs ls Z hl h
          rw [eJ38] at h
          try dsimp only at h
          refine lv_iconst (v := (1 : Int32)) hx hb dX11_someHas_38 (by decide) ?_
          refine lv_goto (tgt := 43) hx hb dX11_someHas_39 (by decide) ?_
          exact hJ43 (1 : Int32) _ _ _ Z (lv_sub hl [0, 1, 2] rfl) h
        refine lv_if_ne (tgt := 38) hx hb dX11_someHas_13 (by decide) (fun c10 => ?_) (fun c10 => ?_)
        · have h := if_f c10 h
          exact hJ38  _ _ _ Z (lv_sub hl [0, 1, 3] rfl) h
        · have h := if_t c10 h
          refine lv_aload_n hx hb dX11_someHas_16 rfl (lv_at hl 0 rfl) ?_
          refine lv_iload_n hx hb dX11_someHas_17 rfl (lv_at hl 3 rfl) ?_
          obtain ⟨v12, hc11, h⟩ := o1_e h
          refine g_Vi (As := [.int x2]) (rest := []) S X Z mlv_o rfl rfl (t_X11_isOf l D dA A hJ  hc11) (cwV 1 hts (mGV (mB 293 rfl) (mB 294 rfl) (mB 295 rfl) (mB 63 rfl) (mB 290 rfl)) rfl rfl rfl (by decide +kernel) ⟨Nat.le_of_ble_eq_true rfl, Nat.le_of_ble_eq_true rfl⟩) rfl hl.1 rfl (Nat.le_of_ble_eq_true rfl) dX11_someHas_18 ⟨Nat.zero_le _, Nat.zero_le _⟩ (fun H locs Z => ?_)
          obtain ⟨J42, eJ42, h⟩ := jn_e h
          have hJ42 : ∀  (H : Heap) (locs : List Loc) (ls : Array Slot), gZ D mLay dA mLive A (gA mLive A) s.heap M H locs → lv_has ls 4 [(0, .ref (A m_o)), (1, .int a1), (3, .int x2)] → J42 () = some y → W p l e (headSpec wmX11_someHas ({ frames := 1, cells := 0, slots := 0, locals := 21 } : Room)).room s m args below meth c H locs 0 0 (MQ below (mQi D dA A (y, M)) args s 0 0 (gA mLive A)) (F0 m 42 ls []) := by
            intro  H locs ls Z hl h
            rw [eJ42] at h
            try dsimp only at h
            refine lv_iconst (v := (0 : Int32)) hx hb dX11_someHas_42 (by decide) ?_
            exact hJ43 (0 : Int32) _ _ _ Z (lv_sub hl [0, 1, 2] rfl) h
          refine lv_if_eq (tgt := 42) hx hb dX11_someHas_21 (by decide) (fun c13 => ?_) (fun c13 => ?_)
          · have h := if_t c13 h
            exact hJ42  _ _ _ Z (lv_sub hl [0, 1, 3] rfl) h
          · have h := if_f c13 h
            refine lv_aload_n hx hb dX11_someHas_24 rfl (lv_at hl 0 rfl) ?_
            refine mr_has S X Z hin hl_32 dX11_someHas_25 ?_
            refine lv_bipush (v := (48 : Int32)) hx hb dX11_someHas_28 (by decide) ?_
            refine lv_iload_n hx hb dX11_someHas_30 rfl (lv_at hl 3 rfl) ?_
            refine lv_imul hx hb dX11_someHas_31 ?_
            refine lv_iload_n hx hb dX11_someHas_32 rfl (lv_at hl 1 rfl) ?_
            refine lv_iadd hx hb dX11_someHas_33 ?_
            refine g_zald S X Z ml_has rfl dX11_someHas_34 h (fun v14 h => ?_)
            refine lv_if_eq (tgt := 42) hx hb dX11_someHas_35 (by decide) (fun c15 => ?_) (fun c15 => ?_)
            · have h := if_t c15 h
              exact hJ42  _ _ _ Z (lv_sub hl [0, 1, 3] rfl) h
            · have h := if_f c15 h
              exact hJ38  _ _ _ Z (lv_sub hl [0, 1, 3] rfl) h
  exact hL4 100 (0 : Int32) (0 : Int32) _ _ _ Z (lv_sub hl [2, 3, 1, 0] rfl) h
