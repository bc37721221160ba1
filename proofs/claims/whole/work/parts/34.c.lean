-- X2_handInVersion (LReplicaFiles$Server;I[I)V: 104 instructions
theorem dX2_handInVersion_0 : decode cX2_handInVersion 0 = .ok (.aload_n 1, 1) := by decide +kernel
theorem dX2_handInVersion_1 : decode cX2_handInVersion 1 = .ok (.getfield 133, 3) := by decide +kernel
theorem dX2_handInVersion_4 : decode cX2_handInVersion 4 = .ok (.iload_n 2, 1) := by decide +kernel
theorem dX2_handInVersion_5 : decode cX2_handInVersion 5 = .ok (.aaload, 1) := by decide +kernel
theorem dX2_handInVersion_6 : decode cX2_handInVersion 6 = .ok (.astore 4, 2) := by decide +kernel
theorem dX2_handInVersion_8 : decode cX2_handInVersion 8 = .ok (.aload 4, 2) := by decide +kernel
theorem dX2_handInVersion_10 : decode cX2_handInVersion 10 = .ok (.invokevirtual 137, 3) := by decide +kernel
theorem dX2_handInVersion_13 : decode cX2_handInVersion 13 = .ok (.ifCond .eq 17, 3) := by decide +kernel
theorem dX2_handInVersion_16 : decode cX2_handInVersion 16 = .ok (.aload_n 0, 1) := by decide +kernel
theorem dX2_handInVersion_17 : decode cX2_handInVersion 17 = .ok (.getfield 9, 3) := by decide +kernel
theorem dX2_handInVersion_20 : decode cX2_handInVersion 20 = .ok (.getfield 95, 3) := by decide +kernel
theorem dX2_handInVersion_23 : decode cX2_handInVersion 23 = .ok (.iconst 2, 1) := by decide +kernel
theorem dX2_handInVersion_24 : decode cX2_handInVersion 24 = .ok (.dup2, 1) := by decide +kernel
theorem dX2_handInVersion_25 : decode cX2_handInVersion 25 = .ok (.iaload, 1) := by decide +kernel
theorem dX2_handInVersion_26 : decode cX2_handInVersion 26 = .ok (.iconst 1, 1) := by decide +kernel
theorem dX2_handInVersion_27 : decode cX2_handInVersion 27 = .ok (.iadd, 1) := by decide +kernel
theorem dX2_handInVersion_28 : decode cX2_handInVersion 28 = .ok (.iastore, 1) := by decide +kernel
theorem dX2_handInVersion_29 : decode cX2_handInVersion 29 = .ok (.return_, 1) := by decide +kernel
theorem dX2_handInVersion_30 : decode cX2_handInVersion 30 = .ok (.aload 4, 2) := by decide +kernel
theorem dX2_handInVersion_32 : decode cX2_handInVersion 32 = .ok (.getfield 143, 3) := by decide +kernel
theorem dX2_handInVersion_35 : decode cX2_handInVersion 35 = .ok (.ifCond .ne 35, 3) := by decide +kernel
theorem dX2_handInVersion_38 : decode cX2_handInVersion 38 = .ok (.aload 4, 2) := by decide +kernel
theorem dX2_handInVersion_40 : decode cX2_handInVersion 40 = .ok (.aload_n 1, 1) := by decide +kernel
theorem dX2_handInVersion_41 : decode cX2_handInVersion 41 = .ok (.getfield 83, 3) := by decide +kernel
theorem dX2_handInVersion_44 : decode cX2_handInVersion 44 = .ok (.getfield 116, 3) := by decide +kernel
theorem dX2_handInVersion_47 : decode cX2_handInVersion 47 = .ok (.iload_n 2, 1) := by decide +kernel
theorem dX2_handInVersion_48 : decode cX2_handInVersion 48 = .ok (.iaload, 1) := by decide +kernel
theorem dX2_handInVersion_49 : decode cX2_handInVersion 49 = .ok (.aload_n 1, 1) := by decide +kernel
theorem dX2_handInVersion_50 : decode cX2_handInVersion 50 = .ok (.getfield 83, 3) := by decide +kernel
theorem dX2_handInVersion_53 : decode cX2_handInVersion 53 = .ok (.getfield 119, 3) := by decide +kernel
theorem dX2_handInVersion_56 : decode cX2_handInVersion 56 = .ok (.iload_n 2, 1) := by decide +kernel
theorem dX2_handInVersion_57 : decode cX2_handInVersion 57 = .ok (.iaload, 1) := by decide +kernel
theorem dX2_handInVersion_58 : decode cX2_handInVersion 58 = .ok (.aload_n 1, 1) := by decide +kernel
theorem dX2_handInVersion_59 : decode cX2_handInVersion 59 = .ok (.getfield 83, 3) := by decide +kernel
theorem dX2_handInVersion_62 : decode cX2_handInVersion 62 = .ok (.getfield 102, 3) := by decide +kernel
theorem dX2_handInVersion_65 : decode cX2_handInVersion 65 = .ok (.iload_n 2, 1) := by decide +kernel
theorem dX2_handInVersion_66 : decode cX2_handInVersion 66 = .ok (.aaload, 1) := by decide +kernel
theorem dX2_handInVersion_67 : decode cX2_handInVersion 67 = .ok (.invokevirtual 144, 3) := by decide +kernel
theorem dX2_handInVersion_70 : decode cX2_handInVersion 70 = .ok (.aload_n 0, 1) := by decide +kernel
theorem dX2_handInVersion_71 : decode cX2_handInVersion 71 = .ok (.getfield 25, 3) := by decide +kernel
theorem dX2_handInVersion_74 : decode cX2_handInVersion 74 = .ok (.dup, 1) := by decide +kernel
theorem dX2_handInVersion_75 : decode cX2_handInVersion 75 = .ok (.getfield 147, 3) := by decide +kernel
theorem dX2_handInVersion_78 : decode cX2_handInVersion 78 = .ok (.iconst 1, 1) := by decide +kernel
theorem dX2_handInVersion_79 : decode cX2_handInVersion 79 = .ok (.iadd, 1) := by decide +kernel
theorem dX2_handInVersion_80 : decode cX2_handInVersion 80 = .ok (.putfield 147, 3) := by decide +kernel
theorem dX2_handInVersion_83 : decode cX2_handInVersion 83 = .ok (.aload_n 0, 1) := by decide +kernel
theorem dX2_handInVersion_84 : decode cX2_handInVersion 84 = .ok (.getfield 15, 3) := by decide +kernel
theorem dX2_handInVersion_87 : decode cX2_handInVersion 87 = .ok (.aload_n 3, 1) := by decide +kernel
theorem dX2_handInVersion_88 : decode cX2_handInVersion 88 = .ok (.invokestatic 150, 3) := by decide +kernel
theorem dX2_handInVersion_91 : decode cX2_handInVersion 91 = .ok (.aload_n 0, 1) := by decide +kernel
theorem dX2_handInVersion_92 : decode cX2_handInVersion 92 = .ok (.getfield 15, 3) := by decide +kernel
theorem dX2_handInVersion_95 : decode cX2_handInVersion 95 = .ok (.aload_n 0, 1) := by decide +kernel
theorem dX2_handInVersion_96 : decode cX2_handInVersion 96 = .ok (.getfield 9, 3) := by decide +kernel
theorem dX2_handInVersion_99 : decode cX2_handInVersion 99 = .ok (.getfield 79, 3) := by decide +kernel
theorem dX2_handInVersion_102 : decode cX2_handInVersion 102 = .ok (.arraylength, 1) := by decide +kernel
theorem dX2_handInVersion_103 : decode cX2_handInVersion 103 = .ok (.aload_n 0, 1) := by decide +kernel
theorem dX2_handInVersion_104 : decode cX2_handInVersion 104 = .ok (.getfield 25, 3) := by decide +kernel
theorem dX2_handInVersion_107 : decode cX2_handInVersion 107 = .ok (.getfield 154, 3) := by decide +kernel
theorem dX2_handInVersion_110 : decode cX2_handInVersion 110 = .ok (.iadd, 1) := by decide +kernel
theorem dX2_handInVersion_111 : decode cX2_handInVersion 111 = .ok (.aload_n 0, 1) := by decide +kernel
theorem dX2_handInVersion_112 : decode cX2_handInVersion 112 = .ok (.getfield 25, 3) := by decide +kernel
theorem dX2_handInVersion_115 : decode cX2_handInVersion 115 = .ok (.getfield 147, 3) := by decide +kernel
theorem dX2_handInVersion_118 : decode cX2_handInVersion 118 = .ok (.iastore, 1) := by decide +kernel
theorem dX2_handInVersion_119 : decode cX2_handInVersion 119 = .ok (.aload 4, 2) := by decide +kernel
theorem dX2_handInVersion_121 : decode cX2_handInVersion 121 = .ok (.aload_n 0, 1) := by decide +kernel
theorem dX2_handInVersion_122 : decode cX2_handInVersion 122 = .ok (.getfield 25, 3) := by decide +kernel
theorem dX2_handInVersion_125 : decode cX2_handInVersion 125 = .ok (.getfield 115, 3) := by decide +kernel
theorem dX2_handInVersion_128 : decode cX2_handInVersion 128 = .ok (.getfield 116, 3) := by decide +kernel
theorem dX2_handInVersion_131 : decode cX2_handInVersion 131 = .ok (.iload_n 2, 1) := by decide +kernel
theorem dX2_handInVersion_132 : decode cX2_handInVersion 132 = .ok (.iaload, 1) := by decide +kernel
theorem dX2_handInVersion_133 : decode cX2_handInVersion 133 = .ok (.aload_n 0, 1) := by decide +kernel
theorem dX2_handInVersion_134 : decode cX2_handInVersion 134 = .ok (.getfield 25, 3) := by decide +kernel
theorem dX2_handInVersion_137 : decode cX2_handInVersion 137 = .ok (.getfield 115, 3) := by decide +kernel
theorem dX2_handInVersion_140 : decode cX2_handInVersion 140 = .ok (.getfield 119, 3) := by decide +kernel
theorem dX2_handInVersion_143 : decode cX2_handInVersion 143 = .ok (.iload_n 2, 1) := by decide +kernel
theorem dX2_handInVersion_144 : decode cX2_handInVersion 144 = .ok (.iaload, 1) := by decide +kernel
theorem dX2_handInVersion_145 : decode cX2_handInVersion 145 = .ok (.aload_n 0, 1) := by decide +kernel
theorem dX2_handInVersion_146 : decode cX2_handInVersion 146 = .ok (.getfield 15, 3) := by decide +kernel
theorem dX2_handInVersion_149 : decode cX2_handInVersion 149 = .ok (.invokevirtual 144, 3) := by decide +kernel
theorem dX2_handInVersion_152 : decode cX2_handInVersion 152 = .ok (.aload_n 1, 1) := by decide +kernel
theorem dX2_handInVersion_153 : decode cX2_handInVersion 153 = .ok (.getfield 83, 3) := by decide +kernel
theorem dX2_handInVersion_156 : decode cX2_handInVersion 156 = .ok (.getfield 102, 3) := by decide +kernel
theorem dX2_handInVersion_159 : decode cX2_handInVersion 159 = .ok (.iload_n 2, 1) := by decide +kernel
theorem dX2_handInVersion_160 : decode cX2_handInVersion 160 = .ok (.aaload, 1) := by decide +kernel
theorem dX2_handInVersion_161 : decode cX2_handInVersion 161 = .ok (.aload_n 0, 1) := by decide +kernel
theorem dX2_handInVersion_162 : decode cX2_handInVersion 162 = .ok (.getfield 15, 3) := by decide +kernel
theorem dX2_handInVersion_165 : decode cX2_handInVersion 165 = .ok (.invokestatic 157, 3) := by decide +kernel
theorem dX2_handInVersion_168 : decode cX2_handInVersion 168 = .ok (.aload_n 0, 1) := by decide +kernel
theorem dX2_handInVersion_169 : decode cX2_handInVersion 169 = .ok (.getfield 9, 3) := by decide +kernel
theorem dX2_handInVersion_172 : decode cX2_handInVersion 172 = .ok (.iconst 1, 1) := by decide +kernel
theorem dX2_handInVersion_173 : decode cX2_handInVersion 173 = .ok (.aload_n 0, 1) := by decide +kernel
theorem dX2_handInVersion_174 : decode cX2_handInVersion 174 = .ok (.getfield 37, 3) := by decide +kernel
theorem dX2_handInVersion_177 : decode cX2_handInVersion 177 = .ok (.ishl, 1) := by decide +kernel
theorem dX2_handInVersion_178 : decode cX2_handInVersion 178 = .ok (.iload_n 2, 1) := by decide +kernel
theorem dX2_handInVersion_179 : decode cX2_handInVersion 179 = .ok (.invokevirtual 160, 3) := by decide +kernel
theorem dX2_handInVersion_182 : decode cX2_handInVersion 182 = .ok (.aload_n 0, 1) := by decide +kernel
theorem dX2_handInVersion_183 : decode cX2_handInVersion 183 = .ok (.getfield 9, 3) := by decide +kernel
theorem dX2_handInVersion_186 : decode cX2_handInVersion 186 = .ok (.iconst 1, 1) := by decide +kernel
theorem dX2_handInVersion_187 : decode cX2_handInVersion 187 = .ok (.aload_n 0, 1) := by decide +kernel
theorem dX2_handInVersion_188 : decode cX2_handInVersion 188 = .ok (.getfield 37, 3) := by decide +kernel
theorem dX2_handInVersion_191 : decode cX2_handInVersion 191 = .ok (.ishl, 1) := by decide +kernel
theorem dX2_handInVersion_192 : decode cX2_handInVersion 192 = .ok (.iload_n 2, 1) := by decide +kernel
theorem dX2_handInVersion_193 : decode cX2_handInVersion 193 = .ok (.invokevirtual 130, 3) := by decide +kernel
theorem dX2_handInVersion_196 : decode cX2_handInVersion 196 = .ok (.return_, 1) := by decide +kernel
abbrev wmX2_handInVersion : List Cond := .code yX2_handInVersion cX2_handInVersion 5 none :: cBig
def f_X2_handInVersion (N : Nat) (M : gM) (i1 : Nat) (a2 : Int32) (a3 : gI) : Option gM :=
  ix a2 48 (fun v1 => o1 (f_X9_isFull N M (48 * i1 + v1)) (fun v3 => (if v3 = 0 then lt (M (60, (48 * i1 + v1), 0) 3) (fun v5 => jn (fun (M6 : gM) => ix (M6 (11, 0, 0) 2) 4 (fun v7 => lt (M6 (30, v7, 0) 11) (fun v8 => lt (gset M6 (30, v7, 0) 11 (v8 + (1 : Int32))) (fun M9 => o1 (f_X10_assign N M9 (12, 0, 0) a3) (fun M11 => ix (M11 (11, 0, 0) 2) 4 (fun v12 => lt (M11 (30, v12, 0) 0) (fun v13 => ix (M11 (11, 0, 0) 2) 4 (fun v14 => lt (M11 (30, v14, 0) 11) (fun v15 => wr M11 (12, 0, 0) (N + 4) ((nI N) + v13) v15 (fun M16 => ix (M16 (11, 0, 0) 2) 4 (fun v17 => rd M16 (52, (4 + v17), 0) 48 a2 (fun v18 => ix (M16 (11, 0, 0) 2) 4 (fun v19 => rd M16 (53, (4 + v19), 0) 48 a2 (fun v20 => o1 (f_X9_add N M16 (48 * i1 + v1) v18 v20 (12, 0, 0)) (fun M22 => ix a2 48 (fun v23 => o1 (f_X10_raise N M22 (55, i1, v23) (12, 0, 0)) (fun M25 => lt (M25 (11, 0, 0) 4) (fun v26 => o1 (f_X6_countAll N M25 ((1 : Int32) <<< (v26 &&& 31)) a2) (fun M28 => lt (M28 (11, 0, 0) 4) (fun v29 => o1 (f_X6_endPromises N M28 ((1 : Int32) <<< (v29 &&& 31)) a2) (fun M31 => some M31))))))))))))))))))))) (fun J70 => (if v5 = 0 then rd M (52, i1, 0) 48 a2 (fun v33 => rd M (53, i1, 0) 48 a2 (fun v34 => ix a2 48 (fun v35 => o1 (f_X9_add N M (48 * i1 + v1) v33 v34 (55, i1, v35)) (fun M37 => J70 M37)))) else J70 M))) else rd M (9, 0, 0) 8 (2 : Int32) (fun v38 => wr M (9, 0, 0) 8 (2 : Int32) (v38 + (1 : Int32)) (fun M39 => some M39)))))
set_option maxHeartbeats 4000000 in
set_option maxRecDepth 100000 in
theorem t_X2_handInVersion (l : Launch) (N : Nat) (D : va_G) (dA : Nat → ClassId) (A : gI → Nat) (hJ : gJ (cLive N) A) {M : gM} {i1 : Nat} {a2 : Int32} {a3 : gI} (hi1 : cLive N (20, i1, 0)) (ha3 : cArr N a3) {y : gM} (h : f_X2_handInVersion N M i1 a2 a3 = some y) : cMv l yX2_handInVersion wmX2_handInVersion ({ frames := 3, cells := 0, slots := 0, locals := 68 } : Room) N D dA A [.ref (A (11, 0, 0)), .ref (A (20, i1, 0)), .int a2, .ref (A a3)] M y := by
  refine Met.ofW (cc := cX2_handInVersion) (maxL := 5) (ret := none) (by decide) rfl ?_
  intro p e s m args below meth c s₁ B hml hv
  obtain ⟨rfl, hP, hK, hN⟩ := hv
  generalize hargs : ([.ref (A (11, 0, 0)), .ref (A (20, i1, 0)), .int a2, .ref (A a3)] : List Value).toArray = args at B ⊢
  have S : CallFix p m c cX2_handInVersion 5 s args wmX2_handInVersion RX2 := ⟨B.exec, B.bytes, hml, findClass_of_methodNamed B.named, atoms_spec (ws := wmX2_handInVersion) B.pre⟩
  obtain ⟨hx, hb, -, hown, hts⟩ := id S
  have hr := B.returns
  have hlocks := B.notSynchronized
  have X : gX D vwCl dA (cLive N) A (gA (cLive N) A) s := ⟨hK, hJ, fun i hi => ⟨i, hi, rfl⟩⟩
  have Z : gZ D (cLay N) dA (cLive N) A (gA (cLive N) A) s.heap M s.heap [] := ⟨hP, va_S.rf⟩
  have hin_X1 : ∀ w ∈ wsX10, w ∈ wmX2_handInVersion := cin_X1
  have hin_X2 : ∀ w ∈ wsX20, w ∈ wmX2_handInVersion := cin_X2
  have hin_X6 : ∀ w ∈ wsX60, w ∈ wmX2_handInVersion := cin_X6
  have hin_X7 : ∀ w ∈ wsX70, w ∈ wmX2_handInVersion := cin_X7
  have hin_X8 : ∀ w ∈ wsX80, w ∈ wmX2_handInVersion := cin_X8
  have hin_X9 : ∀ w ∈ wsX90, w ∈ wmX2_handInVersion := cin_X9
  have hl_9 := hts (.fieldLink RX2 9 "ReplicaFiles$HandingIn" "replicas" "LReplicaFiles$Replicas;") (cBc 172 rfl)
  have hl_15 := hts (.fieldLink RX2 15 "ReplicaFiles$HandingIn" "vector" "[I") (cBc 173 rfl)
  have hl_25 := hts (.fieldLink RX2 25 "ReplicaFiles$HandingIn" "client" "LReplicaFiles$Client;") (cBc 174 rfl)
  have hl_37 := hts (.fieldLink RX2 37 "ReplicaFiles$HandingIn" "least" "I") (cBc 209 rfl)
  have hl_79 := va_Nw.use (A := args) rfl (hN.1 ("ReplicaFiles$HandingIn", 79, "ReplicaFiles$Replicas", "servers", "[LReplicaFiles$Server;", "ReplicaFiles") (by decide +kernel))
  have hl_83 := va_Nw.use (A := args) rfl (hN.1 ("ReplicaFiles$HandingIn", 83, "ReplicaFiles$Server", "tree", "LReplicaFiles$Tree;", "ReplicaFiles") (by decide +kernel))
  have hl_95 := va_Nw.use (A := args) rfl (hN.1 ("ReplicaFiles$HandingIn", 95, "ReplicaFiles$Replicas", "tallies", "[I", "ReplicaFiles") (by decide +kernel))
  have hl_102 := va_Nw.use (A := args) rfl (hN.1 ("ReplicaFiles$HandingIn", 102, "ReplicaFiles$Tree", "counts", "[[I", "ReplicaFiles") (by decide +kernel))
  have hl_115 := va_Nw.use (A := args) rfl (hN.1 ("ReplicaFiles$HandingIn", 115, "ReplicaFiles$Client", "tree", "LReplicaFiles$Tree;", "ReplicaFiles") (by decide +kernel))
  have hl_116 := va_Nw.use (A := args) rfl (hN.1 ("ReplicaFiles$HandingIn", 116, "ReplicaFiles$Tree", "value", "[I", "ReplicaFiles") (by decide +kernel))
  have hl_119 := va_Nw.use (A := args) rfl (hN.1 ("ReplicaFiles$HandingIn", 119, "ReplicaFiles$Tree", "size", "[I", "ReplicaFiles") (by decide +kernel))
  have hl_133 := va_Nw.use (A := args) rfl (hN.1 ("ReplicaFiles$HandingIn", 133, "ReplicaFiles$Server", "versions", "[LReplicaFiles$Versions;", "ReplicaFiles") (by decide +kernel))
  have hl_143 := va_Nw.use (A := args) rfl (hN.1 ("ReplicaFiles$HandingIn", 143, "ReplicaFiles$Versions", "length", "I", "ReplicaFiles") (by decide +kernel))
  have hl_147 := va_Nw.use (A := args) rfl (hN.1 ("ReplicaFiles$HandingIn", 147, "ReplicaFiles$Client", "versionsTold", "I", "ReplicaFiles") (by decide +kernel))
  have hl_154 := va_Nw.use (A := args) rfl (hN.1 ("ReplicaFiles$HandingIn", 154, "ReplicaFiles$Client", "number", "I", "ReplicaFiles") (by decide +kernel))
  have hl := lv_entry ([.ref (A (11, 0, 0)), .ref (A (20, i1, 0)), .int a2, .ref (A a3)]) (n := 5) (Nat.le_of_ble_eq_true rfl)
  rw [← hargs, lg_entry_eq, hargs]
  generalize (lg_sl ([.ref (A (11, 0, 0)), .ref (A (20, i1, 0)), .int a2, .ref (A a3)]) ++ List.replicate (5 - (lg_sl ([.ref (A (11, 0, 0)), .ref (A (20, i1, 0)), .int a2, .ref (A a3)])).length) Slot.unset).toArray = ls at hl ⊢
  have hl : lv_has ls 5 [(0, .ref (A (11, 0, 0))), (1, .ref (A (20, i1, 0))), (2, .int a2), (3, .ref (A a3))] := hl
  unfold f_X2_handInVersion at h
  refine lv_aload_n hx hb dX2_handInVersion_0 rfl (lv_at hl 1 rfl) ?_
  refine cn_X7_versions (a := i1) S X Z hin_X7 hi1 hl_133 dX2_handInVersion_1 ?_
  refine lv_iload_n hx hb dX2_handInVersion_4 rfl (lv_at hl 2 rfl) ?_
  refine g_aald (i := (21, i1, 0)) (ca := 4) ⟨rfl, rfl⟩ S X Z (cl_X7_versions hi1) rfl dX2_handInVersion_5 h (fun v1 hv1 h => ?_)
  refine lv_astore (lv' := [(4, .ref (A (60, (48 * i1 + v1), 0))), (0, .ref (A (11, 0, 0))), (1, .ref (A (20, i1, 0))), (2, .int a2), (3, .ref (A a3))]) hx hb dX2_handInVersion_6 hl (by decide) rfl (fun ls hl => ?_)
  refine lv_aload hx hb dX2_handInVersion_8 (lv_at hl 0 rfl) ?_
  obtain ⟨v3, hc2, h⟩ := o1_e h
  refine c_i X Z (c_V (i := (60, (48 * i1 + v1), 0)) (As := []) (rest := []) S X hN Z (cl_ver (cl_X7_versions hi1) hv1) rfl rfl (t_X9_isFull l N D dA A hJ (cl_ver (cl_X7_versions hi1) hv1) hc2) (cwV 0 hts (cGV (cB 210 rfl) (cB 189 rfl) (cB 190 rfl) (cB 191 rfl) (cB 182 rfl)) rfl rfl rfl (by decide +kernel) ⟨Nat.le_of_ble_eq_true rfl, Nat.le_of_ble_eq_true rfl⟩) rfl hl.1 rfl (Nat.le_of_ble_eq_true rfl) dX2_handInVersion_10 ⟨Nat.zero_le _, Nat.zero_le _⟩) (fun H locs Z => ?_)
  refine lv_if_eq (tgt := 30) hx hb dX2_handInVersion_13 (by decide) (fun c4 => ?_) (fun c4 => ?_)
  · have h := if_t c4 h
    refine lv_aload hx hb dX2_handInVersion_30 (lv_at hl 0 rfl) ?_
    refine cn_X9_length (a := (48 * i1 + v1)) S X Z hin_X9 (cl_ver (cl_X7_versions hi1) hv1) hl_143 dX2_handInVersion_32 h (fun v5 h => ?_)
    obtain ⟨J70, eJ70, h⟩ := jn_e h
    have hJ70 : ∀ (M6 : gM) (H : Heap) (locs : List Loc) (ls : Array Slot), gZ D (cLay N) dA (cLive N) A (gA (cLive N) A) s.heap M6 H locs → lv_has ls 5 [(0, .ref (A (11, 0, 0))), (1, .ref (A (20, i1, 0))), (2, .int a2), (3, .ref (A a3)), (4, .ref (A (60, (48 * i1 + v1), 0)))] → J70 M6 = some y → W p l e (headSpec wmX2_handInVersion ({ frames := 3, cells := 0, slots := 0, locals := 68 } : Room)).room s m args below meth c H locs 0 0 (MQ below (cQv N D dA A y) args s 0 0 (gA (cLive N) A)) (F0 m 70 ls []) := by
      intro M6 H locs ls Z hl h
      rw [eJ70] at h
      try dsimp only at h
      refine lv_aload_n hx hb dX2_handInVersion_70 rfl (lv_at hl 0 rfl) ?_
      refine cr_X2_client S X Z hin_X2 (cl_one N 11 (by decide)) hl_25 dX2_handInVersion_71 h (fun v7 hv7 h => ?_)
      refine lv_dup hx hb dX2_handInVersion_74 rfl ?_
      refine cn_X1_versionsTold (a := v7) S X Z hin_X1 (cl_cli hv7) hl_147 dX2_handInVersion_75 h (fun v8 h => ?_)
      refine lv_iconst (v := (1 : Int32)) hx hb dX2_handInVersion_78 (by decide) ?_
      refine lv_iadd hx hb dX2_handInVersion_79 ?_
      refine cq_X1_versionsTold (a := v7) S X Z hin_X1 (cl_cli hv7) hl_147 dX2_handInVersion_80 h (fun M9 H locs Z h => ?_)
      refine lv_aload_n hx hb dX2_handInVersion_83 rfl (lv_at hl 0 rfl) ?_
      refine cr_X2_vector S X Z hin_X2 (cl_one N 11 (by decide)) hl_15 dX2_handInVersion_84 ?_
      refine lv_aload_n hx hb dX2_handInVersion_87 rfl (lv_at hl 3 rfl) ?_
      obtain ⟨M11, hc10, h⟩ := o1_e h
      refine c_v X Z (c_SN (As := [.ref (A (12, 0, 0)), .ref (A a3)]) (rest := []) S X hN Z (t_X10_assign l N D dA A hJ ⟨(cl_one N 12 (by decide)), rfl⟩ ha3 hc10) ⟨va_cnB 2 hts (cG (cB 104 rfl)) rfl rfl rfl (hN.2 ("ReplicaFiles$HandingIn", 150, yX10_assign, "ReplicaFiles") (by decide +kernel)) (hts (.initialized RX10) (cBc 107 rfl)) (by decide +kernel) ⟨Nat.le_of_ble_eq_true rfl, Nat.le_of_ble_eq_true rfl⟩, hts (.static yX10_assign) (cBc 106 rfl), trivial⟩ rfl hl.1 rfl (Nat.le_of_ble_eq_true rfl) dX2_handInVersion_88 ⟨Nat.zero_le _, Nat.zero_le _⟩) (fun H locs Z => ?_)
      refine lv_aload_n hx hb dX2_handInVersion_91 rfl (lv_at hl 0 rfl) ?_
      refine cr_X2_vector S X Z hin_X2 (cl_one N 11 (by decide)) hl_15 dX2_handInVersion_92 ?_
      refine lv_aload_n hx hb dX2_handInVersion_95 rfl (lv_at hl 0 rfl) ?_
      refine cr_X2_replicas S X Z hin_X2 (cl_one N 11 (by decide)) hl_9 dX2_handInVersion_96 ?_
      refine cn_X6_servers S X Z hin_X6 (cl_one N 10 (by decide)) hl_79 dX2_handInVersion_99 ?_
      refine g_alR (i := (7, 0, 0)) (ca := 2) rfl S X Z (cl_one N 7 (by decide)) rfl dX2_handInVersion_102 ?_
      refine lv_aload_n hx hb dX2_handInVersion_103 rfl (lv_at hl 0 rfl) ?_
      refine cr_X2_client S X Z hin_X2 (cl_one N 11 (by decide)) hl_25 dX2_handInVersion_104 h (fun v12 hv12 h => ?_)
      refine cn_X1_number (a := v12) S X Z hin_X1 (cl_cli hv12) hl_154 dX2_handInVersion_107 h (fun v13 h => ?_)
      refine lv_iadd hx hb dX2_handInVersion_110 ?_
      refine lv_aload_n hx hb dX2_handInVersion_111 rfl (lv_at hl 0 rfl) ?_
      refine cr_X2_client S X Z hin_X2 (cl_one N 11 (by decide)) hl_25 dX2_handInVersion_112 h (fun v14 hv14 h => ?_)
      refine cn_X1_versionsTold (a := v14) S X Z hin_X1 (cl_cli hv14) hl_147 dX2_handInVersion_115 h (fun v15 h => ?_)
      refine g_iast (i := (12, 0, 0)) (n := (N + 4)) S X Z (cl_one N 12 (by decide)) rfl dX2_handInVersion_118 h (fun M16 H locs Z h => ?_)
      refine lv_aload hx hb dX2_handInVersion_119 (lv_at hl 4 rfl) ?_
      refine lv_aload_n hx hb dX2_handInVersion_121 rfl (lv_at hl 0 rfl) ?_
      refine cr_X2_client S X Z hin_X2 (cl_one N 11 (by decide)) hl_25 dX2_handInVersion_122 h (fun v17 hv17 h => ?_)
      refine cn_X1_tree (a := v17) S X Z hin_X1 (cl_cli hv17) hl_115 dX2_handInVersion_125 ?_
      refine cn_X8_value (a := (4 + v17)) S X Z hin_X8 (cl_ct (cl_cli hv17)) hl_116 dX2_handInVersion_128 ?_
      refine lv_iload_n hx hb dX2_handInVersion_131 rfl (lv_at hl 2 rfl) ?_
      refine g_iald (i := (52, (4 + v17), 0)) (n := 48) S X Z (cl_X8_value (cl_ct (cl_cli hv17))) rfl dX2_handInVersion_132 h (fun v18 h => ?_)
      refine lv_aload_n hx hb dX2_handInVersion_133 rfl (lv_at hl 0 rfl) ?_
      refine cr_X2_client S X Z hin_X2 (cl_one N 11 (by decide)) hl_25 dX2_handInVersion_134 h (fun v19 hv19 h => ?_)
      refine cn_X1_tree (a := v19) S X Z hin_X1 (cl_cli hv19) hl_115 dX2_handInVersion_137 ?_
      refine cn_X8_size (a := (4 + v19)) S X Z hin_X8 (cl_ct (cl_cli hv19)) hl_119 dX2_handInVersion_140 ?_
      refine lv_iload_n hx hb dX2_handInVersion_143 rfl (lv_at hl 2 rfl) ?_
      refine g_iald (i := (53, (4 + v19), 0)) (n := 48) S X Z (cl_X8_size (cl_ct (cl_cli hv19))) rfl dX2_handInVersion_144 h (fun v20 h => ?_)
      refine lv_aload_n hx hb dX2_handInVersion_145 rfl (lv_at hl 0 rfl) ?_
      refine cr_X2_vector S X Z hin_X2 (cl_one N 11 (by decide)) hl_15 dX2_handInVersion_146 ?_
      obtain ⟨M22, hc21, h⟩ := o1_e h
      refine c_v X Z (c_V (i := (60, (48 * i1 + v1), 0)) (As := [.int v18, .int v20, .ref (A (12, 0, 0))]) (rest := []) S X hN Z (cl_ver (cl_X7_versions hi1) hv1) rfl rfl (t_X9_add l N D dA A hJ (cl_ver (cl_X7_versions hi1) hv1) ⟨(cl_one N 12 (by decide)), rfl⟩ hc21) (cwV 3 hts (cGV (cB 211 rfl) (cB 212 rfl) (cB 213 rfl) (cB 191 rfl) (cB 185 rfl)) rfl rfl rfl (by decide +kernel) ⟨Nat.le_of_ble_eq_true rfl, Nat.le_of_ble_eq_true rfl⟩) rfl hl.1 rfl (Nat.le_of_ble_eq_true rfl) dX2_handInVersion_149 ⟨Nat.zero_le _, Nat.zero_le _⟩) (fun H locs Z => ?_)
      refine lv_aload_n hx hb dX2_handInVersion_152 rfl (lv_at hl 1 rfl) ?_
      refine cn_X7_tree (a := i1) S X Z hin_X7 hi1 hl_83 dX2_handInVersion_153 ?_
      refine cn_X8_counts (a := i1) S X Z hin_X8 (cl_st hi1) hl_102 dX2_handInVersion_156 ?_
      refine lv_iload_n hx hb dX2_handInVersion_159 rfl (lv_at hl 2 rfl) ?_
      refine g_aald (i := (54, i1, 0)) (ca := 5) ⟨rfl, rfl⟩ S X Z (cl_X8_counts (cl_st hi1)) rfl dX2_handInVersion_160 h (fun v23 hv23 h => ?_)
      refine lv_aload_n hx hb dX2_handInVersion_161 rfl (lv_at hl 0 rfl) ?_
      refine cr_X2_vector S X Z hin_X2 (cl_one N 11 (by decide)) hl_15 dX2_handInVersion_162 ?_
      obtain ⟨M25, hc24, h⟩ := o1_e h
      refine c_v X Z (c_SN (As := [.ref (A (55, i1, v23)), .ref (A (12, 0, 0))]) (rest := []) S X hN Z (t_X10_raise l N D dA A hJ ⟨(cl_55 (cl_X8_counts (cl_st hi1)) hv23), rfl⟩ ⟨(cl_one N 12 (by decide)), rfl⟩ hc24) ⟨va_cnB 2 hts (cG (cB 192 rfl)) rfl rfl rfl (hN.2 ("ReplicaFiles$HandingIn", 157, yX10_raise, "ReplicaFiles") (by decide +kernel)) (hts (.initialized RX10) (cBc 107 rfl)) (by decide +kernel) ⟨Nat.le_of_ble_eq_true rfl, Nat.le_of_ble_eq_true rfl⟩, hts (.static yX10_raise) (cBc 214 rfl), trivial⟩ rfl hl.1 rfl (Nat.le_of_ble_eq_true rfl) dX2_handInVersion_165 ⟨Nat.zero_le _, Nat.zero_le _⟩) (fun H locs Z => ?_)
      refine lv_aload_n hx hb dX2_handInVersion_168 rfl (lv_at hl 0 rfl) ?_
      refine cr_X2_replicas S X Z hin_X2 (cl_one N 11 (by decide)) hl_9 dX2_handInVersion_169 ?_
      refine lv_iconst (v := (1 : Int32)) hx hb dX2_handInVersion_172 (by decide) ?_
      refine lv_aload_n hx hb dX2_handInVersion_173 rfl (lv_at hl 0 rfl) ?_
      refine cr_X2_least S X Z hin_X2 (cl_one N 11 (by decide)) hl_37 dX2_handInVersion_174 h (fun v26 h => ?_)
      refine lv_ishl hx hb dX2_handInVersion_177 ?_
      refine lv_iload_n hx hb dX2_handInVersion_178 rfl (lv_at hl 2 rfl) ?_
      obtain ⟨M28, hc27, h⟩ := o1_e h
      refine c_v X Z (c_V (i := (10, 0, 0)) (As := [.int ((1 : Int32) <<< (v26 &&& 31)), .int a2]) (rest := []) S X hN Z (cl_one N 10 (by decide)) rfl rfl (t_X6_countAll l N D dA A hJ  hc27) (cwV 2 hts (cGV (cB 215 rfl) (cB 216 rfl) (cB 217 rfl) (cB 203 rfl) (cB 199 rfl)) rfl rfl rfl (by decide +kernel) ⟨Nat.le_of_ble_eq_true rfl, Nat.le_of_ble_eq_true rfl⟩) rfl hl.1 rfl (Nat.le_of_ble_eq_true rfl) dX2_handInVersion_179 ⟨Nat.zero_le _, Nat.zero_le _⟩) (fun H locs Z => ?_)
      refine lv_aload_n hx hb dX2_handInVersion_182 rfl (lv_at hl 0 rfl) ?_
      refine cr_X2_replicas S X Z hin_X2 (cl_one N 11 (by decide)) hl_9 dX2_handInVersion_183 ?_
      refine lv_iconst (v := (1 : Int32)) hx hb dX2_handInVersion_186 (by decide) ?_
      refine lv_aload_n hx hb dX2_handInVersion_187 rfl (lv_at hl 0 rfl) ?_
      refine cr_X2_least S X Z hin_X2 (cl_one N 11 (by decide)) hl_37 dX2_handInVersion_188 h (fun v29 h => ?_)
      refine lv_ishl hx hb dX2_handInVersion_191 ?_
      refine lv_iload_n hx hb dX2_handInVersion_192 rfl (lv_at hl 2 rfl) ?_
      obtain ⟨M31, hc30, h⟩ := o1_e h
      refine c_v X Z (c_V (i := (10, 0, 0)) (As := [.int ((1 : Int32) <<< (v29 &&& 31)), .int a2]) (rest := []) S X hN Z (cl_one N 10 (by decide)) rfl rfl (t_X6_endPromises l N D dA A hJ  hc30) (cwV 2 hts (cGV (cB 218 rfl) (cB 219 rfl) (cB 220 rfl) (cB 203 rfl) (cB 207 rfl)) rfl rfl rfl (by decide +kernel) ⟨Nat.le_of_ble_eq_true rfl, Nat.le_of_ble_eq_true rfl⟩) rfl hl.1 rfl (Nat.le_of_ble_eq_true rfl) dX2_handInVersion_193 ⟨Nat.zero_le _, Nat.zero_le _⟩) (fun H locs Z => ?_)
      have hy := Option.some.inj h
      subst hy
      exact g_rv S Z hr hlocks dX2_handInVersion_196
    refine lv_if_ne (tgt := 70) hx hb dX2_handInVersion_35 (by decide) (fun c32 => ?_) (fun c32 => ?_)
    · have h := if_f c32 h
      exact hJ70 M _ _ _ Z (lv_sub hl [1, 2, 3, 4, 0] rfl) h
    · have h := if_t c32 h
      refine lv_aload hx hb dX2_handInVersion_38 (lv_at hl 0 rfl) ?_
      refine lv_aload_n hx hb dX2_handInVersion_40 rfl (lv_at hl 2 rfl) ?_
      refine cn_X7_tree (a := i1) S X Z hin_X7 hi1 hl_83 dX2_handInVersion_41 ?_
      refine cn_X8_value (a := i1) S X Z hin_X8 (cl_st hi1) hl_116 dX2_handInVersion_44 ?_
      refine lv_iload_n hx hb dX2_handInVersion_47 rfl (lv_at hl 3 rfl) ?_
      refine g_iald (i := (52, i1, 0)) (n := 48) S X Z (cl_X8_value (cl_st hi1)) rfl dX2_handInVersion_48 h (fun v33 h => ?_)
      refine lv_aload_n hx hb dX2_handInVersion_49 rfl (lv_at hl 2 rfl) ?_
      refine cn_X7_tree (a := i1) S X Z hin_X7 hi1 hl_83 dX2_handInVersion_50 ?_
      refine cn_X8_size (a := i1) S X Z hin_X8 (cl_st hi1) hl_119 dX2_handInVersion_53 ?_
      refine lv_iload_n hx hb dX2_handInVersion_56 rfl (lv_at hl 3 rfl) ?_
      refine g_iald (i := (53, i1, 0)) (n := 48) S X Z (cl_X8_size (cl_st hi1)) rfl dX2_handInVersion_57 h (fun v34 h => ?_)
      refine lv_aload_n hx hb dX2_handInVersion_58 rfl (lv_at hl 2 rfl) ?_
      refine cn_X7_tree (a := i1) S X Z hin_X7 hi1 hl_83 dX2_handInVersion_59 ?_
      refine cn_X8_counts (a := i1) S X Z hin_X8 (cl_st hi1) hl_102 dX2_handInVersion_62 ?_
      refine lv_iload_n hx hb dX2_handInVersion_65 rfl (lv_at hl 3 rfl) ?_
      refine g_aald (i := (54, i1, 0)) (ca := 5) ⟨rfl, rfl⟩ S X Z (cl_X8_counts (cl_st hi1)) rfl dX2_handInVersion_66 h (fun v35 hv35 h => ?_)
      obtain ⟨M37, hc36, h⟩ := o1_e h
      refine c_v X Z (c_V (i := (60, (48 * i1 + v1), 0)) (As := [.int v33, .int v34, .ref (A (55, i1, v35))]) (rest := []) S X hN Z (cl_ver (cl_X7_versions hi1) hv1) rfl rfl (t_X9_add l N D dA A hJ (cl_ver (cl_X7_versions hi1) hv1) ⟨(cl_55 (cl_X8_counts (cl_st hi1)) hv35), rfl⟩ hc36) (cwV 3 hts (cGV (cB 211 rfl) (cB 212 rfl) (cB 213 rfl) (cB 191 rfl) (cB 185 rfl)) rfl rfl rfl (by decide +kernel) ⟨Nat.le_of_ble_eq_true rfl, Nat.le_of_ble_eq_true rfl⟩) rfl hl.1 rfl (Nat.le_of_ble_eq_true rfl) dX2_handInVersion_67 ⟨Nat.zero_le _, Nat.zero_le _⟩) (fun H locs Z => ?_)
      exact hJ70 M37 _ _ _ Z (lv_sub hl [1, 2, 3, 4, 0] rfl) h
  · have h := if_f c4 h
    refine lv_aload_n hx hb dX2_handInVersion_16 rfl (lv_at hl 1 rfl) ?_
    refine cr_X2_replicas S X Z hin_X2 (cl_one N 11 (by decide)) hl_9 dX2_handInVersion_17 ?_
    refine cn_X6_tallies S X Z hin_X6 (cl_one N 10 (by decide)) hl_95 dX2_handInVersion_20 ?_
    refine lv_iconst (v := (2 : Int32)) hx hb dX2_handInVersion_23 (by decide) ?_
    refine lv_dup2_11 hx hb dX2_handInVersion_24 rfl rfl ?_
    refine g_iald (i := (9, 0, 0)) (n := 8) S X Z (cl_one N 9 (by decide)) rfl dX2_handInVersion_25 h (fun v38 h => ?_)
    refine lv_iconst (v := (1 : Int32)) hx hb dX2_handInVersion_26 (by decide) ?_
    refine lv_iadd hx hb dX2_handInVersion_27 ?_
    refine g_iast (i := (9, 0, 0)) (n := 8) S X Z (cl_one N 9 (by decide)) rfl dX2_handInVersion_28 h (fun M39 H locs Z h => ?_)
    have hy := Option.some.inj h
    subst hy
    exact g_rv S Z hr hlocks dX2_handInVersion_29
-- X6_holders (II)I: 32 instructions
theorem dX6_holders_0 : decode cX6_holders 0 = .ok (.iconst 0, 1) := by decide +kernel
theorem dX6_holders_1 : decode cX6_holders 1 = .ok (.istore_n 3, 1) := by decide +kernel
theorem dX6_holders_2 : decode cX6_holders 2 = .ok (.iconst 0, 1) := by decide +kernel
theorem dX6_holders_3 : decode cX6_holders 3 = .ok (.istore 4, 2) := by decide +kernel
theorem dX6_holders_5 : decode cX6_holders 5 = .ok (.iload 4, 2) := by decide +kernel
theorem dX6_holders_7 : decode cX6_holders 7 = .ok (.aload_n 0, 1) := by decide +kernel
theorem dX6_holders_8 : decode cX6_holders 8 = .ok (.getfield 15, 3) := by decide +kernel
theorem dX6_holders_11 : decode cX6_holders 11 = .ok (.arraylength, 1) := by decide +kernel
theorem dX6_holders_12 : decode cX6_holders 12 = .ok (.if_icmp .ge 43, 3) := by decide +kernel
theorem dX6_holders_15 : decode cX6_holders 15 = .ok (.iload_n 1, 1) := by decide +kernel
theorem dX6_holders_16 : decode cX6_holders 16 = .ok (.iload 4, 2) := by decide +kernel
theorem dX6_holders_18 : decode cX6_holders 18 = .ok (.invokestatic 27, 3) := by decide +kernel
theorem dX6_holders_21 : decode cX6_holders 21 = .ok (.ifCond .eq 28, 3) := by decide +kernel
theorem dX6_holders_24 : decode cX6_holders 24 = .ok (.aload_n 0, 1) := by decide +kernel
theorem dX6_holders_25 : decode cX6_holders 25 = .ok (.getfield 15, 3) := by decide +kernel
theorem dX6_holders_28 : decode cX6_holders 28 = .ok (.iload 4, 2) := by decide +kernel
theorem dX6_holders_30 : decode cX6_holders 30 = .ok (.aaload, 1) := by decide +kernel
theorem dX6_holders_31 : decode cX6_holders 31 = .ok (.getfield 31, 3) := by decide +kernel
theorem dX6_holders_34 : decode cX6_holders 34 = .ok (.getfield 37, 3) := by decide +kernel
theorem dX6_holders_37 : decode cX6_holders 37 = .ok (.iload_n 2, 1) := by decide +kernel
theorem dX6_holders_38 : decode cX6_holders 38 = .ok (.baload, 1) := by decide +kernel
theorem dX6_holders_39 : decode cX6_holders 39 = .ok (.ifCond .eq 10, 3) := by decide +kernel
theorem dX6_holders_42 : decode cX6_holders 42 = .ok (.iload_n 3, 1) := by decide +kernel
theorem dX6_holders_43 : decode cX6_holders 43 = .ok (.iconst 1, 1) := by decide +kernel
theorem dX6_holders_44 : decode cX6_holders 44 = .ok (.iload 4, 2) := by decide +kernel
theorem dX6_holders_46 : decode cX6_holders 46 = .ok (.ishl, 1) := by decide +kernel
theorem dX6_holders_47 : decode cX6_holders 47 = .ok (.ior, 1) := by decide +kernel
theorem dX6_holders_48 : decode cX6_holders 48 = .ok (.istore_n 3, 1) := by decide +kernel
theorem dX6_holders_49 : decode cX6_holders 49 = .ok (.iinc 4 1, 3) := by decide +kernel
theorem dX6_holders_52 : decode cX6_holders 52 = .ok (.goto (-47), 3) := by decide +kernel
theorem dX6_holders_55 : decode cX6_holders 55 = .ok (.iload_n 3, 1) := by decide +kernel
theorem dX6_holders_56 : decode cX6_holders 56 = .ok (.ireturn, 1) := by decide +kernel
abbrev wmX6_holders : List Cond := .code yX6_holders cX6_holders 5 (some .int) :: cBig
def f_X6_holders_L5 (N : Nat) (M3 : gM) (a1 : Int32) (a2 : Int32) : Nat → Int32 → Int32 → Option Int32
  | 0, _, _ => none
  | n4 + 1, x1, x2 => (if (nI N) ≤ x2 then some x1 else o1 (f_X10_isIn N M3 a1 x2) (fun v7 => jn (fun (b8 : Int32) => lt (x2 + 1) (fun x9 => f_X6_holders_L5 N M3 a1 a2 n4 b8 x9)) (fun J49 => (if v7 = 0 then J49 x1 else ix x2 N (fun v11 => rd M3 (51, v11, 0) 48 a2 (fun v12 => (if v12 = 0 then J49 x1 else lt ((x1 ||| ((1 : Int32) <<< (x2 &&& 31)))) (fun x14 => J49 x14))))))))
def f_X6_holders (N : Nat) (M : gM) (a1 : Int32) (a2 : Int32) : Option Int32 :=
  f_X6_holders_L5 N M a1 a2 100 (0 : Int32) (0 : Int32)
set_option maxHeartbeats 4000000 in
set_option maxRecDepth 100000 in
theorem t_X6_holders (l : Launch) (N : Nat) (D : va_G) (dA : Nat → ClassId) (A : gI → Nat) (hJ : gJ (cLive N) A) {M : gM} {a1 : Int32} {a2 : Int32}  {y : Int32} (h : f_X6_holders N M a1 a2 = some y) : cMi l yX6_holders wmX6_holders ({ frames := 1, cells := 0, slots := 0, locals := 21 } : Room) N D dA A [.ref (A (10, 0, 0)), .int a1, .int a2] M y M := by
  refine Met.ofW (cc := cX6_holders) (maxL := 5) (ret := (some .int)) (by decide) rfl ?_
  intro p e s m args below meth c s₁ B hml hv
  obtain ⟨rfl, hP, hK, hN⟩ := hv
  generalize hargs : ([.ref (A (10, 0, 0)), .int a1, .int a2] : List Value).toArray = args at B ⊢
  have S : CallFix p m c cX6_holders 5 s args wmX6_holders RX6 := ⟨B.exec, B.bytes, hml, findClass_of_methodNamed B.named, atoms_spec (ws := wmX6_holders) B.pre⟩
  obtain ⟨hx, hb, -, hown, hts⟩ := id S
  have hr := B.returns
  have hlocks := B.notSynchronized
  have X : gX D vwCl dA (cLive N) A (gA (cLive N) A) s := ⟨hK, hJ, fun i hi => ⟨i, hi, rfl⟩⟩
  have Z : gZ D (cLay N) dA (cLive N) A (gA (cLive N) A) s.heap M s.heap [] := ⟨hP, va_S.rf⟩
  have hin_X6 : ∀ w ∈ wsX60, w ∈ wmX6_holders := cin_X6
  have hin_X7 : ∀ w ∈ wsX70, w ∈ wmX6_holders := cin_X7
  have hin_X8 : ∀ w ∈ wsX80, w ∈ wmX6_holders := cin_X8
  have hl_15 := hts (.fieldLink RX6 15 "ReplicaFiles$Replicas" "servers" "[LReplicaFiles$Server;") (cBc 177 rfl)
  have hl_31 := va_Nw.use (A := args) rfl (hN.1 ("ReplicaFiles$Replicas", 31, "ReplicaFiles$Server", "tree", "LReplicaFiles$Tree;", "ReplicaFiles") (by decide +kernel))
  have hl_37 := va_Nw.use (A := args) rfl (hN.1 ("ReplicaFiles$Replicas", 37, "ReplicaFiles$Tree", "held", "[Z", "ReplicaFiles") (by decide +kernel))
  have hl := lv_entry ([.ref (A (10, 0, 0)), .int a1, .int a2]) (n := 5) (Nat.le_of_ble_eq_true rfl)
  rw [← hargs, lg_entry_eq, hargs]
  generalize (lg_sl ([.ref (A (10, 0, 0)), .int a1, .int a2]) ++ List.replicate (5 - (lg_sl ([.ref (A (10, 0, 0)), .int a1, .int a2])).length) Slot.unset).toArray = ls at hl ⊢
  have hl : lv_has ls 5 [(0, .ref (A (10, 0, 0))), (1, .int a1), (2, .int a2)] := hl
  unfold f_X6_holders at h
  refine lv_iconst (v := (0 : Int32)) hx hb dX6_holders_0 (by decide) ?_
  refine lv_istore_n (lv' := [(3, .int (0 : Int32)), (0, .ref (A (10, 0, 0))), (1, .int a1), (2, .int a2)]) hx hb dX6_holders_1 rfl hl (by decide) rfl (fun ls hl => ?_)
  refine lv_iconst (v := (0 : Int32)) hx hb dX6_holders_2 (by decide) ?_
  refine lv_istore (lv' := [(4, .int (0 : Int32)), (3, .int (0 : Int32)), (0, .ref (A (10, 0, 0))), (1, .int a1), (2, .int a2)]) hx hb dX6_holders_3 hl (by decide) rfl (fun ls hl => ?_)
  have hL5 : ∀ (n : Nat) (x1 : Int32) (x2 : Int32) (H : Heap) (locs : List Loc) (ls : Array Slot), gZ D (cLay N) dA (cLive N) A (gA (cLive N) A) s.heap M H locs → lv_has ls 5 [(0, .ref (A (10, 0, 0))), (1, .int a1), (2, .int a2), (3, .int x1), (4, .int x2)] → f_X6_holders_L5 N M a1 a2 n x1 x2 = some y → W p l e (headSpec wmX6_holders ({ frames := 1, cells := 0, slots := 0, locals := 21 } : Room)).room s m args below meth c H locs 0 0 (MQ below (cQi N D dA A (y, M)) args s 0 0 (gA (cLive N) A)) (F0 m 5 ls []) := by
    intro n
    induction n with
    | zero =>
      intro x1 x2 H locs ls Z hl h
      rw [f_X6_holders_L5] at h
      cases h
    | succ n4 ih5 =>
      intro x1 x2 H locs ls Z hl h
      rw [f_X6_holders_L5] at h
      refine lv_iload hx hb dX6_holders_5 (lv_at hl 4 rfl) ?_
      refine lv_aload_n hx hb dX6_holders_7 rfl (lv_at hl 0 rfl) ?_
      refine cr_X6_servers S X Z hin_X6 (cl_one N 10 (by decide)) hl_15 dX6_holders_8 ?_
      refine g_alR (i := (7, 0, 0)) (ca := 2) rfl S X Z (cl_one N 7 (by decide)) rfl dX6_holders_11 ?_
      refine lv_icmp_ge (tgt := 55) hx hb dX6_holders_12 (by decide) (fun c5 => ?_) (fun c5 => ?_)
      · have h := if_t c5 h
        refine lv_iload_n hx hb dX6_holders_55 rfl (lv_at hl 3 rfl) ?_
        have hy := Option.some.inj h
        subst hy
        exact g_ri S Z hr hlocks dX6_holders_56
      · have h := if_f c5 h
        refine lv_iload_n hx hb dX6_holders_15 rfl (lv_at hl 1 rfl) ?_
        refine lv_iload hx hb dX6_holders_16 (lv_at hl 4 rfl) ?_
        obtain ⟨v7, hc6, h⟩ := o1_e h
        refine c_i X Z (c_SN (As := [.int a1, .int x2]) (rest := []) S X hN Z (t_X10_isIn l N D dA A hJ  hc6) ⟨va_cnB 2 hts (cG (cB 175 rfl)) rfl rfl rfl (hN.2 ("ReplicaFiles$Replicas", 27, yX10_isIn, "ReplicaFiles") (by decide +kernel)) (hts (.initialized RX10) (cBc 107 rfl)) (by decide +kernel) ⟨Nat.le_of_ble_eq_true rfl, Nat.le_of_ble_eq_true rfl⟩, hts (.static yX10_isIn) (cBc 178 rfl), trivial⟩ rfl hl.1 rfl (Nat.le_of_ble_eq_true rfl) dX6_holders_18 ⟨Nat.zero_le _, Nat.zero_le _⟩) (fun H locs Z => ?_)
        obtain ⟨J49, eJ49, h⟩ := jn_e h
        have hJ49 : ∀ (b8 : Int32) (H : Heap) (locs : List Loc) (ls : Array Slot), gZ D (cLay N) dA (cLive N) A (gA (cLive N) A) s.heap M H locs → lv_has ls 5 [(0, .ref (A (10, 0, 0))), (1, .int a1), (2, .int a2), (3, .int b8), (4, .int x2)] → J49 b8 = some y → W p l e (headSpec wmX6_holders ({ frames := 1, cells := 0, slots := 0, locals := 21 } : Room)).room s m args below meth c H locs 0 0 (MQ below (cQi N D dA A (y, M)) args s 0 0 (gA (cLive N) A)) (F0 m 49 ls []) := by
          intro b8 H locs ls Z hl h
          rw [eJ49] at h
          try dsimp only at h
          obtain ⟨x9, ex9, h⟩ := lt_e h
          refine lv_iinc (v := x9) (lv' := [(4, .int x9), (0, .ref (A (10, 0, 0))), (1, .int a1), (2, .int a2), (3, .int b8)]) hx hb dX6_holders_49 hl (k := 4) rfl (by rw [ex9]; rfl) (by decide) rfl (fun ls hl => ?_)
          refine lv_goto (tgt := 5) hx hb dX6_holders_52 (by decide) ?_
          exact ih5 b8 x9 _ _ _ Z (lv_sub hl [1, 2, 3, 4, 0] rfl) h
        refine lv_if_eq (tgt := 49) hx hb dX6_holders_21 (by decide) (fun c10 => ?_) (fun c10 => ?_)
        · have h := if_t c10 h
          exact hJ49 x1 _ _ _ Z (lv_sub hl [0, 1, 2, 3, 4] rfl) h
        · have h := if_f c10 h
          refine lv_aload_n hx hb dX6_holders_24 rfl (lv_at hl 0 rfl) ?_
          refine cr_X6_servers S X Z hin_X6 (cl_one N 10 (by decide)) hl_15 dX6_holders_25 ?_
          refine lv_iload hx hb dX6_holders_28 (lv_at hl 4 rfl) ?_
          refine g_aald (i := (7, 0, 0)) (ca := 2) ⟨rfl, rfl⟩ S X Z (cl_one N 7 (by decide)) rfl dX6_holders_30 h (fun v11 hv11 h => ?_)
          refine cn_X7_tree (a := v11) S X Z hin_X7 (cl_srv hv11) hl_31 dX6_holders_31 ?_
          refine cn_X8_held (a := v11) S X Z hin_X8 (cl_st (cl_srv hv11)) hl_37 dX6_holders_34 ?_
          refine lv_iload_n hx hb dX6_holders_37 rfl (lv_at hl 2 rfl) ?_
          refine g_zald (i := (51, v11, 0)) (n := 48) S X Z (cl_X8_held (cl_st (cl_srv hv11))) rfl dX6_holders_38 h (fun v12 h => ?_)
          refine lv_if_eq (tgt := 49) hx hb dX6_holders_39 (by decide) (fun c13 => ?_) (fun c13 => ?_)
          · have h := if_t c13 h
            exact hJ49 x1 _ _ _ Z (lv_sub hl [0, 1, 2, 3, 4] rfl) h
          · have h := if_f c13 h
            refine lv_iload_n hx hb dX6_holders_42 rfl (lv_at hl 3 rfl) ?_
            refine lv_iconst (v := (1 : Int32)) hx hb dX6_holders_43 (by decide) ?_
            refine lv_iload hx hb dX6_holders_44 (lv_at hl 4 rfl) ?_
            refine lv_ishl hx hb dX6_holders_46 ?_
            refine lv_ior hx hb dX6_holders_47 ?_
            refine g_topi h (fun x14 h => ?_)
            refine lv_istore_n (lv' := [(3, .int x14), (0, .ref (A (10, 0, 0))), (1, .int a1), (2, .int a2), (4, .int x2)]) hx hb dX6_holders_48 rfl hl (by decide) rfl (fun ls hl => ?_)
            exact hJ49 x14 _ _ _ Z (lv_sub hl [1, 2, 3, 0, 4] rfl) h
  exact hL5 100 (0 : Int32) (0 : Int32) _ _ _ Z (lv_sub hl [2, 3, 4, 1, 0] rfl) h
-- X6_holdersWith (II[I)I: 39 instructions
theorem dX6_holdersWith_0 : decode cX6_holdersWith 0 = .ok (.aload_n 0, 1) := by decide +kernel
theorem dX6_holdersWith_1 : decode cX6_holdersWith 1 = .ok (.iload_n 1, 1) := by decide +kernel
theorem dX6_holdersWith_2 : decode cX6_holdersWith 2 = .ok (.iload_n 2, 1) := by decide +kernel
theorem dX6_holdersWith_3 : decode cX6_holdersWith 3 = .ok (.invokevirtual 43, 3) := by decide +kernel
theorem dX6_holdersWith_6 : decode cX6_holdersWith 6 = .ok (.istore 4, 2) := by decide +kernel
theorem dX6_holdersWith_8 : decode cX6_holdersWith 8 = .ok (.iconst 0, 1) := by decide +kernel
theorem dX6_holdersWith_9 : decode cX6_holdersWith 9 = .ok (.istore 5, 2) := by decide +kernel
theorem dX6_holdersWith_11 : decode cX6_holdersWith 11 = .ok (.iload 5, 2) := by decide +kernel
theorem dX6_holdersWith_13 : decode cX6_holdersWith 13 = .ok (.aload_n 0, 1) := by decide +kernel
theorem dX6_holdersWith_14 : decode cX6_holdersWith 14 = .ok (.getfield 15, 3) := by decide +kernel
theorem dX6_holdersWith_17 : decode cX6_holdersWith 17 = .ok (.arraylength, 1) := by decide +kernel
theorem dX6_holdersWith_18 : decode cX6_holdersWith 18 = .ok (.if_icmp .ge 52, 3) := by decide +kernel
theorem dX6_holdersWith_21 : decode cX6_holdersWith 21 = .ok (.iload 4, 2) := by decide +kernel
theorem dX6_holdersWith_23 : decode cX6_holdersWith 23 = .ok (.iload 5, 2) := by decide +kernel
theorem dX6_holdersWith_25 : decode cX6_holdersWith 25 = .ok (.invokestatic 27, 3) := by decide +kernel
theorem dX6_holdersWith_28 : decode cX6_holdersWith 28 = .ok (.ifCond .eq 36, 3) := by decide +kernel
theorem dX6_holdersWith_31 : decode cX6_holdersWith 31 = .ok (.aload_n 0, 1) := by decide +kernel
theorem dX6_holdersWith_32 : decode cX6_holdersWith 32 = .ok (.getfield 15, 3) := by decide +kernel
theorem dX6_holdersWith_35 : decode cX6_holdersWith 35 = .ok (.iload 5, 2) := by decide +kernel
theorem dX6_holdersWith_37 : decode cX6_holdersWith 37 = .ok (.aaload, 1) := by decide +kernel
theorem dX6_holdersWith_38 : decode cX6_holdersWith 38 = .ok (.getfield 31, 3) := by decide +kernel
theorem dX6_holdersWith_41 : decode cX6_holdersWith 41 = .ok (.getfield 47, 3) := by decide +kernel
theorem dX6_holdersWith_44 : decode cX6_holdersWith 44 = .ok (.iload_n 2, 1) := by decide +kernel
theorem dX6_holdersWith_45 : decode cX6_holdersWith 45 = .ok (.aaload, 1) := by decide +kernel
theorem dX6_holdersWith_46 : decode cX6_holdersWith 46 = .ok (.aload_n 3, 1) := by decide +kernel
theorem dX6_holdersWith_47 : decode cX6_holdersWith 47 = .ok (.invokestatic 51, 3) := by decide +kernel
theorem dX6_holdersWith_50 : decode cX6_holdersWith 50 = .ok (.ifCond .ne 14, 3) := by decide +kernel
theorem dX6_holdersWith_53 : decode cX6_holdersWith 53 = .ok (.iload 4, 2) := by decide +kernel
theorem dX6_holdersWith_55 : decode cX6_holdersWith 55 = .ok (.iconst 1, 1) := by decide +kernel
theorem dX6_holdersWith_56 : decode cX6_holdersWith 56 = .ok (.iload 5, 2) := by decide +kernel
theorem dX6_holdersWith_58 : decode cX6_holdersWith 58 = .ok (.ishl, 1) := by decide +kernel
theorem dX6_holdersWith_59 : decode cX6_holdersWith 59 = .ok (.iconst (-1), 1) := by decide +kernel
theorem dX6_holdersWith_60 : decode cX6_holdersWith 60 = .ok (.ixor, 1) := by decide +kernel
theorem dX6_holdersWith_61 : decode cX6_holdersWith 61 = .ok (.iand, 1) := by decide +kernel
theorem dX6_holdersWith_62 : decode cX6_holdersWith 62 = .ok (.istore 4, 2) := by decide +kernel
theorem dX6_holdersWith_64 : decode cX6_holdersWith 64 = .ok (.iinc 5 1, 3) := by decide +kernel
theorem dX6_holdersWith_67 : decode cX6_holdersWith 67 = .ok (.goto (-56), 3) := by decide +kernel
theorem dX6_holdersWith_70 : decode cX6_holdersWith 70 = .ok (.iload 4, 2) := by decide +kernel
theorem dX6_holdersWith_72 : decode cX6_holdersWith 72 = .ok (.ireturn, 1) := by decide +kernel
abbrev wmX6_holdersWith : List Cond := .code yX6_holdersWith cX6_holdersWith 6 (some .int) :: cBig
def f_X6_holdersWith_L11 (N : Nat) (M5 : gM) (a2 : Int32) (a3 : gI) : Nat → Int32 → Int32 → Option Int32
  | 0, _, _ => none
  | n6 + 1, x3, x4 => (if (nI N) ≤ x4 then some x3 else o1 (f_X10_isIn N M5 x3 x4) (fun v9 => jn (fun (b10 : Int32) => lt (x4 + 1) (fun x11 => f_X6_holdersWith_L11 N M5 a2 a3 n6 b10 x11)) (fun J64 => (if v9 = 0 then J64 x3 else ix x4 N (fun v13 => ix a2 48 (fun v14 => o1 (f_X10_isSame N M5 (55, v13, v14) a3) (fun v16 => (if v16 = 0 then lt ((x3 &&& (((1 : Int32) <<< (x4 &&& 31)) ^^^ (-1 : Int32)))) (fun x18 => J64 x18) else J64 x3))))))))
def f_X6_holdersWith (N : Nat) (M : gM) (a1 : Int32) (a2 : Int32) (a3 : gI) : Option Int32 :=
  o1 (f_X6_holders N M a1 a2) (fun v2 => f_X6_holdersWith_L11 N M a2 a3 100 v2 (0 : Int32))
set_option maxHeartbeats 4000000 in
set_option maxRecDepth 100000 in
theorem t_X6_holdersWith (l : Launch) (N : Nat) (D : va_G) (dA : Nat → ClassId) (A : gI → Nat) (hJ : gJ (cLive N) A) {M : gM} {a1 : Int32} {a2 : Int32} {a3 : gI} (ha3 : cArr N a3) {y : Int32} (h : f_X6_holdersWith N M a1 a2 a3 = some y) : cMi l yX6_holdersWith wmX6_holdersWith ({ frames := 2, cells := 0, slots := 0, locals := 45 } : Room) N D dA A [.ref (A (10, 0, 0)), .int a1, .int a2, .ref (A a3)] M y M := by
  refine Met.ofW (cc := cX6_holdersWith) (maxL := 6) (ret := (some .int)) (by decide) rfl ?_
  intro p e s m args below meth c s₁ B hml hv
  obtain ⟨rfl, hP, hK, hN⟩ := hv
  generalize hargs : ([.ref (A (10, 0, 0)), .int a1, .int a2, .ref (A a3)] : List Value).toArray = args at B ⊢
  have S : CallFix p m c cX6_holdersWith 6 s args wmX6_holdersWith RX6 := ⟨B.exec, B.bytes, hml, findClass_of_methodNamed B.named, atoms_spec (ws := wmX6_holdersWith) B.pre⟩
  obtain ⟨hx, hb, -, hown, hts⟩ := id S
  have hr := B.returns
  have hlocks := B.notSynchronized
  have X : gX D vwCl dA (cLive N) A (gA (cLive N) A) s := ⟨hK, hJ, fun i hi => ⟨i, hi, rfl⟩⟩
  have Z : gZ D (cLay N) dA (cLive N) A (gA (cLive N) A) s.heap M s.heap [] := ⟨hP, va_S.rf⟩
  have hin_X6 : ∀ w ∈ wsX60, w ∈ wmX6_holdersWith := cin_X6
  have hin_X7 : ∀ w ∈ wsX70, w ∈ wmX6_holdersWith := cin_X7
  have hin_X8 : ∀ w ∈ wsX80, w ∈ wmX6_holdersWith := cin_X8
  have hl_15 := hts (.fieldLink RX6 15 "ReplicaFiles$Replicas" "servers" "[LReplicaFiles$Server;") (cBc 177 rfl)
  have hl_31 := va_Nw.use (A := args) rfl (hN.1 ("ReplicaFiles$Replicas", 31, "ReplicaFiles$Server", "tree", "LReplicaFiles$Tree;", "ReplicaFiles") (by decide +kernel))
  have hl_47 := va_Nw.use (A := args) rfl (hN.1 ("ReplicaFiles$Replicas", 47, "ReplicaFiles$Tree", "counts", "[[I", "ReplicaFiles") (by decide +kernel))
  have hl := lv_entry ([.ref (A (10, 0, 0)), .int a1, .int a2, .ref (A a3)]) (n := 6) (Nat.le_of_ble_eq_true rfl)
  rw [← hargs, lg_entry_eq, hargs]
  generalize (lg_sl ([.ref (A (10, 0, 0)), .int a1, .int a2, .ref (A a3)]) ++ List.replicate (6 - (lg_sl ([.ref (A (10, 0, 0)), .int a1, .int a2, .ref (A a3)])).length) Slot.unset).toArray = ls at hl ⊢
  have hl : lv_has ls 6 [(0, .ref (A (10, 0, 0))), (1, .int a1), (2, .int a2), (3, .ref (A a3))] := hl
  unfold f_X6_holdersWith at h
  refine lv_aload_n hx hb dX6_holdersWith_0 rfl (lv_at hl 0 rfl) ?_
  refine lv_iload_n hx hb dX6_holdersWith_1 rfl (lv_at hl 1 rfl) ?_
  refine lv_iload_n hx hb dX6_holdersWith_2 rfl (lv_at hl 2 rfl) ?_
  obtain ⟨v2, hc1, h⟩ := o1_e h
  refine c_i X Z (c_V (i := (10, 0, 0)) (As := [.int a1, .int a2]) (rest := []) S X hN Z (cl_one N 10 (by decide)) rfl rfl (t_X6_holders l N D dA A hJ  hc1) (cwV 2 hts (cGV (cB 224 rfl) (cB 225 rfl) (cB 226 rfl) (cB 203 rfl) (cB 222 rfl)) rfl rfl rfl (by decide +kernel) ⟨Nat.le_of_ble_eq_true rfl, Nat.le_of_ble_eq_true rfl⟩) rfl hl.1 rfl (Nat.le_of_ble_eq_true rfl) dX6_holdersWith_3 ⟨Nat.zero_le _, Nat.zero_le _⟩) (fun H locs Z => ?_)
  refine lv_istore (lv' := [(4, .int v2), (0, .ref (A (10, 0, 0))), (1, .int a1), (2, .int a2), (3, .ref (A a3))]) hx hb dX6_holdersWith_6 hl (by decide) rfl (fun ls hl => ?_)
  refine lv_iconst (v := (0 : Int32)) hx hb dX6_holdersWith_8 (by decide) ?_
  refine lv_istore (lv' := [(5, .int (0 : Int32)), (4, .int v2), (0, .ref (A (10, 0, 0))), (1, .int a1), (2, .int a2), (3, .ref (A a3))]) hx hb dX6_holdersWith_9 hl (by decide) rfl (fun ls hl => ?_)
  have hL11 : ∀ (n : Nat) (x3 : Int32) (x4 : Int32) (H : Heap) (locs : List Loc) (ls : Array Slot), gZ D (cLay N) dA (cLive N) A (gA (cLive N) A) s.heap M H locs → lv_has ls 6 [(0, .ref (A (10, 0, 0))), (2, .int a2), (3, .ref (A a3)), (4, .int x3), (5, .int x4)] → f_X6_holdersWith_L11 N M a2 a3 n x3 x4 = some y → W p l e (headSpec wmX6_holdersWith ({ frames := 2, cells := 0, slots := 0, locals := 45 } : Room)).room s m args below meth c H locs 0 0 (MQ below (cQi N D dA A (y, M)) args s 0 0 (gA (cLive N) A)) (F0 m 11 ls []) := by
    intro n
    induction n with
    | zero =>
      intro x3 x4 H locs ls Z hl h
      rw [f_X6_holdersWith_L11] at h
      cases h
    | succ n6 ih11 =>
      intro x3 x4 H locs ls Z hl h
      rw [f_X6_holdersWith_L11] at h
      refine lv_iload hx hb dX6_holdersWith_11 (lv_at hl 4 rfl) ?_
      refine lv_aload_n hx hb dX6_holdersWith_13 rfl (lv_at hl 0 rfl) ?_
      refine cr_X6_servers S X Z hin_X6 (cl_one N 10 (by decide)) hl_15 dX6_holdersWith_14 ?_
      refine g_alR (i := (7, 0, 0)) (ca := 2) rfl S X Z (cl_one N 7 (by decide)) rfl dX6_holdersWith_17 ?_
      refine lv_icmp_ge (tgt := 70) hx hb dX6_holdersWith_18 (by decide) (fun c7 => ?_) (fun c7 => ?_)
      · have h := if_t c7 h
        refine lv_iload hx hb dX6_holdersWith_70 (lv_at hl 3 rfl) ?_
        have hy := Option.some.inj h
        subst hy
        exact g_ri S Z hr hlocks dX6_holdersWith_72
      · have h := if_f c7 h
        refine lv_iload hx hb dX6_holdersWith_21 (lv_at hl 3 rfl) ?_
        refine lv_iload hx hb dX6_holdersWith_23 (lv_at hl 4 rfl) ?_
        obtain ⟨v9, hc8, h⟩ := o1_e h
        refine c_i X Z (c_SN (As := [.int x3, .int x4]) (rest := []) S X hN Z (t_X10_isIn l N D dA A hJ  hc8) ⟨va_cnB 2 hts (cG (cB 175 rfl)) rfl rfl rfl (hN.2 ("ReplicaFiles$Replicas", 27, yX10_isIn, "ReplicaFiles") (by decide +kernel)) (hts (.initialized RX10) (cBc 107 rfl)) (by decide +kernel) ⟨Nat.le_of_ble_eq_true rfl, Nat.le_of_ble_eq_true rfl⟩, hts (.static yX10_isIn) (cBc 178 rfl), trivial⟩ rfl hl.1 rfl (Nat.le_of_ble_eq_true rfl) dX6_holdersWith_25 ⟨Nat.zero_le _, Nat.zero_le _⟩) (fun H locs Z => ?_)
        obtain ⟨J64, eJ64, h⟩ := jn_e h
        have hJ64 : ∀ (b10 : Int32) (H : Heap) (locs : List Loc) (ls : Array Slot), gZ D (cLay N) dA (cLive N) A (gA (cLive N) A) s.heap M H locs → lv_has ls 6 [(0, .ref (A (10, 0, 0))), (2, .int a2), (3, .ref (A a3)), (4, .int b10), (5, .int x4)] → J64 b10 = some y → W p l e (headSpec wmX6_holdersWith ({ frames := 2, cells := 0, slots := 0, locals := 45 } : Room)).room s m args below meth c H locs 0 0 (MQ below (cQi N D dA A (y, M)) args s 0 0 (gA (cLive N) A)) (F0 m 64 ls []) := by
          intro b10 H locs ls Z hl h
          rw [eJ64] at h
          try dsimp only at h
          obtain ⟨x11, ex11, h⟩ := lt_e h
          refine lv_iinc (v := x11) (lv' := [(5, .int x11), (0, .ref (A (10, 0, 0))), (2, .int a2), (3, .ref (A a3)), (4, .int b10)]) hx hb dX6_holdersWith_64 hl (k := 4) rfl (by rw [ex11]; rfl) (by decide) rfl (fun ls hl => ?_)
          refine lv_goto (tgt := 11) hx hb dX6_holdersWith_67 (by decide) ?_
          exact ih11 b10 x11 _ _ _ Z (lv_sub hl [1, 2, 3, 4, 0] rfl) h
        refine lv_if_eq (tgt := 64) hx hb dX6_holdersWith_28 (by decide) (fun c12 => ?_) (fun c12 => ?_)
        · have h := if_t c12 h
          exact hJ64 x3 _ _ _ Z (lv_sub hl [0, 1, 2, 3, 4] rfl) h
        · have h := if_f c12 h
          refine lv_aload_n hx hb dX6_holdersWith_31 rfl (lv_at hl 0 rfl) ?_
          refine cr_X6_servers S X Z hin_X6 (cl_one N 10 (by decide)) hl_15 dX6_holdersWith_32 ?_
          refine lv_iload hx hb dX6_holdersWith_35 (lv_at hl 4 rfl) ?_
          refine g_aald (i := (7, 0, 0)) (ca := 2) ⟨rfl, rfl⟩ S X Z (cl_one N 7 (by decide)) rfl dX6_holdersWith_37 h (fun v13 hv13 h => ?_)
          refine cn_X7_tree (a := v13) S X Z hin_X7 (cl_srv hv13) hl_31 dX6_holdersWith_38 ?_
          refine cn_X8_counts (a := v13) S X Z hin_X8 (cl_st (cl_srv hv13)) hl_47 dX6_holdersWith_41 ?_
          refine lv_iload_n hx hb dX6_holdersWith_44 rfl (lv_at hl 1 rfl) ?_
          refine g_aald (i := (54, v13, 0)) (ca := 5) ⟨rfl, rfl⟩ S X Z (cl_X8_counts (cl_st (cl_srv hv13))) rfl dX6_holdersWith_45 h (fun v14 hv14 h => ?_)
          refine lv_aload_n hx hb dX6_holdersWith_46 rfl (lv_at hl 2 rfl) ?_
          obtain ⟨v16, hc15, h⟩ := o1_e h
          refine c_i X Z (c_SN (As := [.ref (A (55, v13, v14)), .ref (A a3)]) (rest := []) S X hN Z (t_X10_isSame l N D dA A hJ ⟨(cl_55 (cl_X8_counts (cl_st (cl_srv hv13))) hv14), rfl⟩ ha3 hc15) ⟨va_cnB 2 hts (cG (cB 181 rfl)) rfl rfl rfl (hN.2 ("ReplicaFiles$Replicas", 51, yX10_isSame, "ReplicaFiles") (by decide +kernel)) (hts (.initialized RX10) (cBc 107 rfl)) (by decide +kernel) ⟨Nat.le_of_ble_eq_true rfl, Nat.le_of_ble_eq_true rfl⟩, hts (.static yX10_isSame) (cBc 227 rfl), trivial⟩ rfl hl.1 rfl (Nat.le_of_ble_eq_true rfl) dX6_holdersWith_47 ⟨Nat.zero_le _, Nat.zero_le _⟩) (fun H locs Z => ?_)
          refine lv_if_ne (tgt := 64) hx hb dX6_holdersWith_50 (by decide) (fun c17 => ?_) (fun c17 => ?_)
          · have h := if_f c17 h
            exact hJ64 x3 _ _ _ Z (lv_sub hl [0, 1, 2, 3, 4] rfl) h
          · have h := if_t c17 h
            refine lv_iload hx hb dX6_holdersWith_53 (lv_at hl 3 rfl) ?_
            refine lv_iconst (v := (1 : Int32)) hx hb dX6_holdersWith_55 (by decide) ?_
            refine lv_iload hx hb dX6_holdersWith_56 (lv_at hl 4 rfl) ?_
            refine lv_ishl hx hb dX6_holdersWith_58 ?_
            refine lv_iconst (v := (-1 : Int32)) hx hb dX6_holdersWith_59 (by decide) ?_
            refine lv_ixor hx hb dX6_holdersWith_60 ?_
            refine lv_iand hx hb dX6_holdersWith_61 ?_
            refine g_topi h (fun x18 h => ?_)
            refine lv_istore (lv' := [(4, .int x18), (0, .ref (A (10, 0, 0))), (2, .int a2), (3, .ref (A a3)), (5, .int x4)]) hx hb dX6_holdersWith_62 hl (by decide) rfl (fun ls hl => ?_)
            exact hJ64 x18 _ _ _ Z (lv_sub hl [1, 2, 3, 0, 4] rfl) h
  exact hL11 100 v2 (0 : Int32) _ _ _ Z (lv_sub hl [2, 4, 5, 1, 0] rfl) h
-- X6_holdersOf (II[I)I: 36 instructions
theorem dX6_holdersOf_0 : decode cX6_holdersOf 0 = .ok (.aload_n 0, 1) := by decide +kernel
theorem dX6_holdersOf_1 : decode cX6_holdersOf 1 = .ok (.iload_n 1, 1) := by decide +kernel
theorem dX6_holdersOf_2 : decode cX6_holdersOf 2 = .ok (.iload_n 2, 1) := by decide +kernel
theorem dX6_holdersOf_3 : decode cX6_holdersOf 3 = .ok (.aload_n 3, 1) := by decide +kernel
theorem dX6_holdersOf_4 : decode cX6_holdersOf 4 = .ok (.invokevirtual 55, 3) := by decide +kernel
theorem dX6_holdersOf_7 : decode cX6_holdersOf 7 = .ok (.istore 4, 2) := by decide +kernel
theorem dX6_holdersOf_9 : decode cX6_holdersOf 9 = .ok (.iconst 0, 1) := by decide +kernel
theorem dX6_holdersOf_10 : decode cX6_holdersOf 10 = .ok (.istore 5, 2) := by decide +kernel
theorem dX6_holdersOf_12 : decode cX6_holdersOf 12 = .ok (.iload 5, 2) := by decide +kernel
theorem dX6_holdersOf_14 : decode cX6_holdersOf 14 = .ok (.aload_n 0, 1) := by decide +kernel
theorem dX6_holdersOf_15 : decode cX6_holdersOf 15 = .ok (.getfield 15, 3) := by decide +kernel
theorem dX6_holdersOf_18 : decode cX6_holdersOf 18 = .ok (.arraylength, 1) := by decide +kernel
theorem dX6_holdersOf_19 : decode cX6_holdersOf 19 = .ok (.if_icmp .ge 44, 3) := by decide +kernel
theorem dX6_holdersOf_22 : decode cX6_holdersOf 22 = .ok (.iload 4, 2) := by decide +kernel
theorem dX6_holdersOf_24 : decode cX6_holdersOf 24 = .ok (.iload 5, 2) := by decide +kernel
theorem dX6_holdersOf_26 : decode cX6_holdersOf 26 = .ok (.invokestatic 27, 3) := by decide +kernel
theorem dX6_holdersOf_29 : decode cX6_holdersOf 29 = .ok (.ifCond .eq 28, 3) := by decide +kernel
theorem dX6_holdersOf_32 : decode cX6_holdersOf 32 = .ok (.aload_n 0, 1) := by decide +kernel
theorem dX6_holdersOf_33 : decode cX6_holdersOf 33 = .ok (.getfield 15, 3) := by decide +kernel
theorem dX6_holdersOf_36 : decode cX6_holdersOf 36 = .ok (.iload 5, 2) := by decide +kernel
theorem dX6_holdersOf_38 : decode cX6_holdersOf 38 = .ok (.aaload, 1) := by decide +kernel
theorem dX6_holdersOf_39 : decode cX6_holdersOf 39 = .ok (.iload_n 2, 1) := by decide +kernel
theorem dX6_holdersOf_40 : decode cX6_holdersOf 40 = .ok (.invokevirtual 59, 3) := by decide +kernel
theorem dX6_holdersOf_43 : decode cX6_holdersOf 43 = .ok (.ifCond .eq 14, 3) := by decide +kernel
theorem dX6_holdersOf_46 : decode cX6_holdersOf 46 = .ok (.iload 4, 2) := by decide +kernel
theorem dX6_holdersOf_48 : decode cX6_holdersOf 48 = .ok (.iconst 1, 1) := by decide +kernel
theorem dX6_holdersOf_49 : decode cX6_holdersOf 49 = .ok (.iload 5, 2) := by decide +kernel
theorem dX6_holdersOf_51 : decode cX6_holdersOf 51 = .ok (.ishl, 1) := by decide +kernel
theorem dX6_holdersOf_52 : decode cX6_holdersOf 52 = .ok (.iconst (-1), 1) := by decide +kernel
theorem dX6_holdersOf_53 : decode cX6_holdersOf 53 = .ok (.ixor, 1) := by decide +kernel
theorem dX6_holdersOf_54 : decode cX6_holdersOf 54 = .ok (.iand, 1) := by decide +kernel
theorem dX6_holdersOf_55 : decode cX6_holdersOf 55 = .ok (.istore 4, 2) := by decide +kernel
theorem dX6_holdersOf_57 : decode cX6_holdersOf 57 = .ok (.iinc 5 1, 3) := by decide +kernel
theorem dX6_holdersOf_60 : decode cX6_holdersOf 60 = .ok (.goto (-48), 3) := by decide +kernel
theorem dX6_holdersOf_63 : decode cX6_holdersOf 63 = .ok (.iload 4, 2) := by decide +kernel
theorem dX6_holdersOf_65 : decode cX6_holdersOf 65 = .ok (.ireturn, 1) := by decide +kernel
abbrev wmX6_holdersOf : List Cond := .code yX6_holdersOf cX6_holdersOf 6 (some .int) :: cBig
def f_X6_holdersOf_L12 (N : Nat) (M5 : gM) (a2 : Int32) : Nat → Int32 → Int32 → Option Int32
  | 0, _, _ => none
  | n6 + 1, x3, x4 => (if (nI N) ≤ x4 then some x3 else o1 (f_X10_isIn N M5 x3 x4) (fun v9 => jn (fun (b10 : Int32) => lt (x4 + 1) (fun x11 => f_X6_holdersOf_L12 N M5 a2 n6 b10 x11)) (fun J57 => (if v9 = 0 then J57 x3 else ix x4 N (fun v13 => o1 (f_X7_isInConflict N M5 v13 a2) (fun v15 => (if v15 = 0 then J57 x3 else lt ((x3 &&& (((1 : Int32) <<< (x4 &&& 31)) ^^^ (-1 : Int32)))) (fun x17 => J57 x17))))))))
def f_X6_holdersOf (N : Nat) (M : gM) (a1 : Int32) (a2 : Int32) (a3 : gI) : Option Int32 :=
  o1 (f_X6_holdersWith N M a1 a2 a3) (fun v2 => f_X6_holdersOf_L12 N M a2 100 v2 (0 : Int32))
set_option maxHeartbeats 4000000 in
set_option maxRecDepth 100000 in
theorem t_X6_holdersOf (l : Launch) (N : Nat) (D : va_G) (dA : Nat → ClassId) (A : gI → Nat) (hJ : gJ (cLive N) A) {M : gM} {a1 : Int32} {a2 : Int32} {a3 : gI} (ha3 : cArr N a3) {y : Int32} (h : f_X6_holdersOf N M a1 a2 a3 = some y) : cMi l yX6_holdersOf wmX6_holdersOf ({ frames := 3, cells := 0, slots := 0, locals := 70 } : Room) N D dA A [.ref (A (10, 0, 0)), .int a1, .int a2, .ref (A a3)] M y M := by
  refine Met.ofW (cc := cX6_holdersOf) (maxL := 6) (ret := (some .int)) (by decide) rfl ?_
  intro p e s m args below meth c s₁ B hml hv
  obtain ⟨rfl, hP, hK, hN⟩ := hv
  generalize hargs : ([.ref (A (10, 0, 0)), .int a1, .int a2, .ref (A a3)] : List Value).toArray = args at B ⊢
  have S : CallFix p m c cX6_holdersOf 6 s args wmX6_holdersOf RX6 := ⟨B.exec, B.bytes, hml, findClass_of_methodNamed B.named, atoms_spec (ws := wmX6_holdersOf) B.pre⟩
  obtain ⟨hx, hb, -, hown, hts⟩ := id S
  have hr := B.returns
  have hlocks := B.notSynchronized
  have X : gX D vwCl dA (cLive N) A (gA (cLive N) A) s := ⟨hK, hJ, fun i hi => ⟨i, hi, rfl⟩⟩
  have Z : gZ D (cLay N) dA (cLive N) A (gA (cLive N) A) s.heap M s.heap [] := ⟨hP, va_S.rf⟩
  have hin_X6 : ∀ w ∈ wsX60, w ∈ wmX6_holdersOf := cin_X6
  have hl_15 := hts (.fieldLink RX6 15 "ReplicaFiles$Replicas" "servers" "[LReplicaFiles$Server;") (cBc 177 rfl)
  have hl := lv_entry ([.ref (A (10, 0, 0)), .int a1, .int a2, .ref (A a3)]) (n := 6) (Nat.le_of_ble_eq_true rfl)
  rw [← hargs, lg_entry_eq, hargs]
  generalize (lg_sl ([.ref (A (10, 0, 0)), .int a1, .int a2, .ref (A a3)]) ++ List.replicate (6 - (lg_sl ([.ref (A (10, 0, 0)), .int a1, .int a2, .ref (A a3)])).length) Slot.unset).toArray = ls at hl ⊢
  have hl : lv_has ls 6 [(0, .ref (A (10, 0, 0))), (1, .int a1), (2, .int a2), (3, .ref (A a3))] := hl
  unfold f_X6_holdersOf at h
  refine lv_aload_n hx hb dX6_holdersOf_0 rfl (lv_at hl 0 rfl) ?_
  refine lv_iload_n hx hb dX6_holdersOf_1 rfl (lv_at hl 1 rfl) ?_
  refine lv_iload_n hx hb dX6_holdersOf_2 rfl (lv_at hl 2 rfl) ?_
  refine lv_aload_n hx hb dX6_holdersOf_3 rfl (lv_at hl 3 rfl) ?_
  obtain ⟨v2, hc1, h⟩ := o1_e h
  refine c_i X Z (c_V (i := (10, 0, 0)) (As := [.int a1, .int a2, .ref (A a3)]) (rest := []) S X hN Z (cl_one N 10 (by decide)) rfl rfl (t_X6_holdersWith l N D dA A hJ ha3 hc1) (cwV 3 hts (cGV (cB 229 rfl) (cB 230 rfl) (cB 231 rfl) (cB 203 rfl) (cB 223 rfl)) rfl rfl rfl (by decide +kernel) ⟨Nat.le_of_ble_eq_true rfl, Nat.le_of_ble_eq_true rfl⟩) rfl hl.1 rfl (Nat.le_of_ble_eq_true rfl) dX6_holdersOf_4 ⟨Nat.zero_le _, Nat.zero_le _⟩) (fun H locs Z => ?_)
  refine lv_istore (lv' := [(4, .int v2), (0, .ref (A (10, 0, 0))), (1, .int a1), (2, .int a2), (3, .ref (A a3))]) hx hb dX6_holdersOf_7 hl (by decide) rfl (fun ls hl => ?_)
  refine lv_iconst (v := (0 : Int32)) hx hb dX6_holdersOf_9 (by decide) ?_
  refine lv_istore (lv' := [(5, .int (0 : Int32)), (4, .int v2), (0, .ref (A (10, 0, 0))), (1, .int a1), (2, .int a2), (3, .ref (A a3))]) hx hb dX6_holdersOf_10 hl (by decide) rfl (fun ls hl => ?_)
  have hL12 : ∀ (n : Nat) (x3 : Int32) (x4 : Int32) (H : Heap) (locs : List Loc) (ls : Array Slot), gZ D (cLay N) dA (cLive N) A (gA (cLive N) A) s.heap M H locs → lv_has ls 6 [(0, .ref (A (10, 0, 0))), (2, .int a2), (4, .int x3), (5, .int x4)] → f_X6_holdersOf_L12 N M a2 n x3 x4 = some y → W p l e (headSpec wmX6_holdersOf ({ frames := 3, cells := 0, slots := 0, locals := 70 } : Room)).room s m args below meth c H locs 0 0 (MQ below (cQi N D dA A (y, M)) args s 0 0 (gA (cLive N) A)) (F0 m 12 ls []) := by
    intro n
    induction n with
    | zero =>
      intro x3 x4 H locs ls Z hl h
      rw [f_X6_holdersOf_L12] at h
      cases h
    | succ n6 ih12 =>
      intro x3 x4 H locs ls Z hl h
      rw [f_X6_holdersOf_L12] at h
      refine lv_iload hx hb dX6_holdersOf_12 (lv_at hl 3 rfl) ?_
      refine lv_aload_n hx hb dX6_holdersOf_14 rfl (lv_at hl 0 rfl) ?_
      refine cr_X6_servers S X Z hin_X6 (cl_one N 10 (by decide)) hl_15 dX6_holdersOf_15 ?_
      refine g_alR (i := (7, 0, 0)) (ca := 2) rfl S X Z (cl_one N 7 (by decide)) rfl dX6_holdersOf_18 ?_
      refine lv_icmp_ge (tgt := 63) hx hb dX6_holdersOf_19 (by decide) (fun c7 => ?_) (fun c7 => ?_)
      · have h := if_t c7 h
        refine lv_iload hx hb dX6_holdersOf_63 (lv_at hl 2 rfl) ?_
        have hy := Option.some.inj h
        subst hy
        exact g_ri S Z hr hlocks dX6_holdersOf_65
      · have h := if_f c7 h
        refine lv_iload hx hb dX6_holdersOf_22 (lv_at hl 2 rfl) ?_
        refine lv_iload hx hb dX6_holdersOf_24 (lv_at hl 3 rfl) ?_
        obtain ⟨v9, hc8, h⟩ := o1_e h
        refine c_i X Z (c_SN (As := [.int x3, .int x4]) (rest := []) S X hN Z (t_X10_isIn l N D dA A hJ  hc8) ⟨va_cnB 2 hts (cG (cB 175 rfl)) rfl rfl rfl (hN.2 ("ReplicaFiles$Replicas", 27, yX10_isIn, "ReplicaFiles") (by decide +kernel)) (hts (.initialized RX10) (cBc 107 rfl)) (by decide +kernel) ⟨Nat.le_of_ble_eq_true rfl, Nat.le_of_ble_eq_true rfl⟩, hts (.static yX10_isIn) (cBc 178 rfl), trivial⟩ rfl hl.1 rfl (Nat.le_of_ble_eq_true rfl) dX6_holdersOf_26 ⟨Nat.zero_le _, Nat.zero_le _⟩) (fun H locs Z => ?_)
        obtain ⟨J57, eJ57, h⟩ := jn_e h
        have hJ57 : ∀ (b10 : Int32) (H : Heap) (locs : List Loc) (ls : Array Slot), gZ D (cLay N) dA (cLive N) A (gA (cLive N) A) s.heap M H locs → lv_has ls 6 [(0, .ref (A (10, 0, 0))), (2, .int a2), (4, .int b10), (5, .int x4)] → J57 b10 = some y → W p l e (headSpec wmX6_holdersOf ({ frames := 3, cells := 0, slots := 0, locals := 70 } : Room)).room s m args below meth c H locs 0 0 (MQ below (cQi N D dA A (y, M)) args s 0 0 (gA (cLive N) A)) (F0 m 57 ls []) := by
          intro b10 H locs ls Z hl h
          rw [eJ57] at h
          try dsimp only at h
          obtain ⟨x11, ex11, h⟩ := lt_e h
          refine lv_iinc (v := x11) (lv' := [(5, .int x11), (0, .ref (A (10, 0, 0))), (2, .int a2), (4, .int b10)]) hx hb dX6_holdersOf_57 hl (k := 3) rfl (by rw [ex11]; rfl) (by decide) rfl (fun ls hl => ?_)
          refine lv_goto (tgt := 12) hx hb dX6_holdersOf_60 (by decide) ?_
          exact ih12 b10 x11 _ _ _ Z (lv_sub hl [1, 2, 3, 0] rfl) h
        refine lv_if_eq (tgt := 57) hx hb dX6_holdersOf_29 (by decide) (fun c12 => ?_) (fun c12 => ?_)
        · have h := if_t c12 h
          exact hJ57 x3 _ _ _ Z (lv_sub hl [0, 1, 2, 3] rfl) h
        · have h := if_f c12 h
          refine lv_aload_n hx hb dX6_holdersOf_32 rfl (lv_at hl 0 rfl) ?_
          refine cr_X6_servers S X Z hin_X6 (cl_one N 10 (by decide)) hl_15 dX6_holdersOf_33 ?_
          refine lv_iload hx hb dX6_holdersOf_36 (lv_at hl 3 rfl) ?_
          refine g_aald (i := (7, 0, 0)) (ca := 2) ⟨rfl, rfl⟩ S X Z (cl_one N 7 (by decide)) rfl dX6_holdersOf_38 h (fun v13 hv13 h => ?_)
          refine lv_iload_n hx hb dX6_holdersOf_39 rfl (lv_at hl 1 rfl) ?_
          obtain ⟨v15, hc14, h⟩ := o1_e h
          refine c_i X Z (c_V (i := (20, v13, 0)) (As := [.int a2]) (rest := []) S X hN Z (cl_srv hv13) rfl rfl (t_X7_isInConflict l N D dA A hJ (cl_srv hv13) hc14) (cwV 1 hts (cGV (cB 232 rfl) (cB 233 rfl) (cB 234 rfl) (cB 235 rfl) (cB 179 rfl)) rfl rfl rfl (by decide +kernel) ⟨Nat.le_of_ble_eq_true rfl, Nat.le_of_ble_eq_true rfl⟩) rfl hl.1 rfl (Nat.le_of_ble_eq_true rfl) dX6_holdersOf_40 ⟨Nat.zero_le _, Nat.zero_le _⟩) (fun H locs Z => ?_)
          refine lv_if_eq (tgt := 57) hx hb dX6_holdersOf_43 (by decide) (fun c16 => ?_) (fun c16 => ?_)
          · have h := if_t c16 h
            exact hJ57 x3 _ _ _ Z (lv_sub hl [0, 1, 2, 3] rfl) h
          · have h := if_f c16 h
            refine lv_iload hx hb dX6_holdersOf_46 (lv_at hl 2 rfl) ?_
            refine lv_iconst (v := (1 : Int32)) hx hb dX6_holdersOf_48 (by decide) ?_
            refine lv_iload hx hb dX6_holdersOf_49 (lv_at hl 3 rfl) ?_
            refine lv_ishl hx hb dX6_holdersOf_51 ?_
            refine lv_iconst (v := (-1 : Int32)) hx hb dX6_holdersOf_52 (by decide) ?_
            refine lv_ixor hx hb dX6_holdersOf_53 ?_
            refine lv_iand hx hb dX6_holdersOf_54 ?_
            refine g_topi h (fun x17 h => ?_)
            refine lv_istore (lv' := [(4, .int x17), (0, .ref (A (10, 0, 0))), (2, .int a2), (5, .int x4)]) hx hb dX6_holdersOf_55 hl (by decide) rfl (fun ls hl => ?_)
            exact hJ57 x17 _ _ _ Z (lv_sub hl [1, 2, 0, 3] rfl) h
  exact hL12 100 v2 (0 : Int32) _ _ _ Z (lv_sub hl [2, 4, 1, 0] rfl) h
-- X6_writeAt (IIII)V: 31 instructions
theorem dX6_writeAt_0 : decode cX6_writeAt 0 = .ok (.iconst 0, 1) := by decide +kernel
theorem dX6_writeAt_1 : decode cX6_writeAt 1 = .ok (.istore 5, 2) := by decide +kernel
theorem dX6_writeAt_3 : decode cX6_writeAt 3 = .ok (.iload 5, 2) := by decide +kernel
theorem dX6_writeAt_5 : decode cX6_writeAt 5 = .ok (.aload_n 0, 1) := by decide +kernel
theorem dX6_writeAt_6 : decode cX6_writeAt 6 = .ok (.getfield 15, 3) := by decide +kernel
theorem dX6_writeAt_9 : decode cX6_writeAt 9 = .ok (.arraylength, 1) := by decide +kernel
theorem dX6_writeAt_10 : decode cX6_writeAt 10 = .ok (.if_icmp .ge 45, 3) := by decide +kernel
theorem dX6_writeAt_13 : decode cX6_writeAt 13 = .ok (.iload_n 1, 1) := by decide +kernel
theorem dX6_writeAt_14 : decode cX6_writeAt 14 = .ok (.iload 5, 2) := by decide +kernel
theorem dX6_writeAt_16 : decode cX6_writeAt 16 = .ok (.invokestatic 27, 3) := by decide +kernel
theorem dX6_writeAt_19 : decode cX6_writeAt 19 = .ok (.ifCond .eq 30, 3) := by decide +kernel
theorem dX6_writeAt_22 : decode cX6_writeAt 22 = .ok (.aload_n 0, 1) := by decide +kernel
theorem dX6_writeAt_23 : decode cX6_writeAt 23 = .ok (.getfield 15, 3) := by decide +kernel
theorem dX6_writeAt_26 : decode cX6_writeAt 26 = .ok (.iload 5, 2) := by decide +kernel
theorem dX6_writeAt_28 : decode cX6_writeAt 28 = .ok (.aaload, 1) := by decide +kernel
theorem dX6_writeAt_29 : decode cX6_writeAt 29 = .ok (.getfield 31, 3) := by decide +kernel
theorem dX6_writeAt_32 : decode cX6_writeAt 32 = .ok (.iload_n 2, 1) := by decide +kernel
theorem dX6_writeAt_33 : decode cX6_writeAt 33 = .ok (.iload_n 3, 1) := by decide +kernel
theorem dX6_writeAt_34 : decode cX6_writeAt 34 = .ok (.iload 4, 2) := by decide +kernel
theorem dX6_writeAt_36 : decode cX6_writeAt 36 = .ok (.invokevirtual 70, 3) := by decide +kernel
theorem dX6_writeAt_39 : decode cX6_writeAt 39 = .ok (.aload_n 0, 1) := by decide +kernel
theorem dX6_writeAt_40 : decode cX6_writeAt 40 = .ok (.getfield 23, 3) := by decide +kernel
theorem dX6_writeAt_43 : decode cX6_writeAt 43 = .ok (.iconst 1, 1) := by decide +kernel
theorem dX6_writeAt_44 : decode cX6_writeAt 44 = .ok (.dup2, 1) := by decide +kernel
theorem dX6_writeAt_45 : decode cX6_writeAt 45 = .ok (.iaload, 1) := by decide +kernel
theorem dX6_writeAt_46 : decode cX6_writeAt 46 = .ok (.iconst 1, 1) := by decide +kernel
theorem dX6_writeAt_47 : decode cX6_writeAt 47 = .ok (.iadd, 1) := by decide +kernel
theorem dX6_writeAt_48 : decode cX6_writeAt 48 = .ok (.iastore, 1) := by decide +kernel
theorem dX6_writeAt_49 : decode cX6_writeAt 49 = .ok (.iinc 5 1, 3) := by decide +kernel
theorem dX6_writeAt_52 : decode cX6_writeAt 52 = .ok (.goto (-49), 3) := by decide +kernel
theorem dX6_writeAt_55 : decode cX6_writeAt 55 = .ok (.return_, 1) := by decide +kernel
abbrev wmX6_writeAt : List Cond := .code yX6_writeAt cX6_writeAt 6 none :: cBig
def f_X6_writeAt_L3 (N : Nat) (a1 : Int32) (a2 : Int32) (a3 : Int32) (a4 : Int32) : Nat → Int32 → gM → Option gM
  | 0, _, _ => none
  | n3 + 1, x1, M2 => (if (nI N) ≤ x1 then some M2 else o1 (f_X10_isIn N M2 a1 x1) (fun v6 => jn (fun (M7 : gM) => lt (x1 + 1) (fun x8 => f_X6_writeAt_L3 N a1 a2 a3 a4 n3 x8 M7)) (fun J49 => (if v6 = 0 then J49 M2 else ix x1 N (fun v10 => o1 (f_X8_setFile N M2 v10 a2 a3 a4) (fun M12 => rd M12 (9, 0, 0) 8 (1 : Int32) (fun v13 => wr M12 (9, 0, 0) 8 (1 : Int32) (v13 + (1 : Int32)) (fun M14 => J49 M14))))))))
def f_X6_writeAt (N : Nat) (M : gM) (a1 : Int32) (a2 : Int32) (a3 : Int32) (a4 : Int32) : Option gM :=
  f_X6_writeAt_L3 N a1 a2 a3 a4 100 (0 : Int32) M
set_option maxHeartbeats 4000000 in
set_option maxRecDepth 100000 in
theorem t_X6_writeAt (l : Launch) (N : Nat) (D : va_G) (dA : Nat → ClassId) (A : gI → Nat) (hJ : gJ (cLive N) A) {M : gM} {a1 : Int32} {a2 : Int32} {a3 : Int32} {a4 : Int32}  {y : gM} (h : f_X6_writeAt N M a1 a2 a3 a4 = some y) : cMv l yX6_writeAt wmX6_writeAt ({ frames := 1, cells := 0, slots := 0, locals := 23 } : Room) N D dA A [.ref (A (10, 0, 0)), .int a1, .int a2, .int a3, .int a4] M y := by
  refine Met.ofW (cc := cX6_writeAt) (maxL := 6) (ret := none) (by decide) rfl ?_
  intro p e s m args below meth c s₁ B hml hv
  obtain ⟨rfl, hP, hK, hN⟩ := hv
  generalize hargs : ([.ref (A (10, 0, 0)), .int a1, .int a2, .int a3, .int a4] : List Value).toArray = args at B ⊢
  have S : CallFix p m c cX6_writeAt 6 s args wmX6_writeAt RX6 := ⟨B.exec, B.bytes, hml, findClass_of_methodNamed B.named, atoms_spec (ws := wmX6_writeAt) B.pre⟩
  obtain ⟨hx, hb, -, hown, hts⟩ := id S
  have hr := B.returns
  have hlocks := B.notSynchronized
  have X : gX D vwCl dA (cLive N) A (gA (cLive N) A) s := ⟨hK, hJ, fun i hi => ⟨i, hi, rfl⟩⟩
  have Z : gZ D (cLay N) dA (cLive N) A (gA (cLive N) A) s.heap M s.heap [] := ⟨hP, va_S.rf⟩
  have hin_X6 : ∀ w ∈ wsX60, w ∈ wmX6_writeAt := cin_X6
  have hin_X7 : ∀ w ∈ wsX70, w ∈ wmX6_writeAt := cin_X7
  have hl_15 := hts (.fieldLink RX6 15 "ReplicaFiles$Replicas" "servers" "[LReplicaFiles$Server;") (cBc 177 rfl)
  have hl_23 := hts (.fieldLink RX6 23 "ReplicaFiles$Replicas" "tallies" "[I") (cBc 237 rfl)
  have hl_31 := va_Nw.use (A := args) rfl (hN.1 ("ReplicaFiles$Replicas", 31, "ReplicaFiles$Server", "tree", "LReplicaFiles$Tree;", "ReplicaFiles") (by decide +kernel))
  have hl := lv_entry ([.ref (A (10, 0, 0)), .int a1, .int a2, .int a3, .int a4]) (n := 6) (Nat.le_of_ble_eq_true rfl)
  rw [← hargs, lg_entry_eq, hargs]
  generalize (lg_sl ([.ref (A (10, 0, 0)), .int a1, .int a2, .int a3, .int a4]) ++ List.replicate (6 - (lg_sl ([.ref (A (10, 0, 0)), .int a1, .int a2, .int a3, .int a4])).length) Slot.unset).toArray = ls at hl ⊢
  have hl : lv_has ls 6 [(0, .ref (A (10, 0, 0))), (1, .int a1), (2, .int a2), (3, .int a3), (4, .int a4)] := hl
  unfold f_X6_writeAt at h
  refine lv_iconst (v := (0 : Int32)) hx hb dX6_writeAt_0 (by decide) ?_
  refine lv_istore (lv' := [(5, .int (0 : Int32)), (0, .ref (A (10, 0, 0))), (1, .int a1), (2, .int a2), (3, .int a3), (4, .int a4)]) hx hb dX6_writeAt_1 hl (by decide) rfl (fun ls hl => ?_)
  have hL3 : ∀ (n : Nat) (x1 : Int32) (M2 : gM) (H : Heap) (locs : List Loc) (ls : Array Slot), gZ D (cLay N) dA (cLive N) A (gA (cLive N) A) s.heap M2 H locs → lv_has ls 6 [(0, .ref (A (10, 0, 0))), (1, .int a1), (2, .int a2), (3, .int a3), (4, .int a4), (5, .int x1)] → f_X6_writeAt_L3 N a1 a2 a3 a4 n x1 M2 = some y → W p l e (headSpec wmX6_writeAt ({ frames := 1, cells := 0, slots := 0, locals := 23 } : Room)).room s m args below meth c H locs 0 0 (MQ below (cQv N D dA A y) args s 0 0 (gA (cLive N) A)) (F0 m 3 ls []) := by
    intro n
    induction n with
    | zero =>
      intro x1 M2 H locs ls Z hl h
      rw [f_X6_writeAt_L3] at h
      cases h
    | succ n3 ih3 =>
      intro x1 M2 H locs ls Z hl h
      rw [f_X6_writeAt_L3] at h
      refine lv_iload hx hb dX6_writeAt_3 (lv_at hl 5 rfl) ?_
      refine lv_aload_n hx hb dX6_writeAt_5 rfl (lv_at hl 0 rfl) ?_
      refine cr_X6_servers S X Z hin_X6 (cl_one N 10 (by decide)) hl_15 dX6_writeAt_6 ?_
      refine g_alR (i := (7, 0, 0)) (ca := 2) rfl S X Z (cl_one N 7 (by decide)) rfl dX6_writeAt_9 ?_
      refine lv_icmp_ge (tgt := 55) hx hb dX6_writeAt_10 (by decide) (fun c4 => ?_) (fun c4 => ?_)
      · have h := if_t c4 h
        have hy := Option.some.inj h
        subst hy
        exact g_rv S Z hr hlocks dX6_writeAt_55
      · have h := if_f c4 h
        refine lv_iload_n hx hb dX6_writeAt_13 rfl (lv_at hl 1 rfl) ?_
        refine lv_iload hx hb dX6_writeAt_14 (lv_at hl 5 rfl) ?_
        obtain ⟨v6, hc5, h⟩ := o1_e h
        refine c_i X Z (c_SN (As := [.int a1, .int x1]) (rest := []) S X hN Z (t_X10_isIn l N D dA A hJ  hc5) ⟨va_cnB 2 hts (cG (cB 175 rfl)) rfl rfl rfl (hN.2 ("ReplicaFiles$Replicas", 27, yX10_isIn, "ReplicaFiles") (by decide +kernel)) (hts (.initialized RX10) (cBc 107 rfl)) (by decide +kernel) ⟨Nat.le_of_ble_eq_true rfl, Nat.le_of_ble_eq_true rfl⟩, hts (.static yX10_isIn) (cBc 178 rfl), trivial⟩ rfl hl.1 rfl (Nat.le_of_ble_eq_true rfl) dX6_writeAt_16 ⟨Nat.zero_le _, Nat.zero_le _⟩) (fun H locs Z => ?_)
        obtain ⟨J49, eJ49, h⟩ := jn_e h
        have hJ49 : ∀ (M7 : gM) (H : Heap) (locs : List Loc) (ls : Array Slot), gZ D (cLay N) dA (cLive N) A (gA (cLive N) A) s.heap M7 H locs → lv_has ls 6 [(0, .ref (A (10, 0, 0))), (1, .int a1), (2, .int a2), (3, .int a3), (4, .int a4), (5, .int x1)] → J49 M7 = some y → W p l e (headSpec wmX6_writeAt ({ frames := 1, cells := 0, slots := 0, locals := 23 } : Room)).room s m args below meth c H locs 0 0 (MQ below (cQv N D dA A y) args s 0 0 (gA (cLive N) A)) (F0 m 49 ls []) := by
          intro M7 H locs ls Z hl h
          rw [eJ49] at h
          try dsimp only at h
          obtain ⟨x8, ex8, h⟩ := lt_e h
          refine lv_iinc (v := x8) (lv' := [(5, .int x8), (0, .ref (A (10, 0, 0))), (1, .int a1), (2, .int a2), (3, .int a3), (4, .int a4)]) hx hb dX6_writeAt_49 hl (k := 5) rfl (by rw [ex8]; rfl) (by decide) rfl (fun ls hl => ?_)
          refine lv_goto (tgt := 3) hx hb dX6_writeAt_52 (by decide) ?_
          exact ih3 x8 M7 _ _ _ Z (lv_sub hl [1, 2, 3, 4, 5, 0] rfl) h
        refine lv_if_eq (tgt := 49) hx hb dX6_writeAt_19 (by decide) (fun c9 => ?_) (fun c9 => ?_)
        · have h := if_t c9 h
          exact hJ49 M2 _ _ _ Z (lv_sub hl [0, 1, 2, 3, 4, 5] rfl) h
        · have h := if_f c9 h
          refine lv_aload_n hx hb dX6_writeAt_22 rfl (lv_at hl 0 rfl) ?_
          refine cr_X6_servers S X Z hin_X6 (cl_one N 10 (by decide)) hl_15 dX6_writeAt_23 ?_
          refine lv_iload hx hb dX6_writeAt_26 (lv_at hl 5 rfl) ?_
          refine g_aald (i := (7, 0, 0)) (ca := 2) ⟨rfl, rfl⟩ S X Z (cl_one N 7 (by decide)) rfl dX6_writeAt_28 h (fun v10 hv10 h => ?_)
          refine cn_X7_tree (a := v10) S X Z hin_X7 (cl_srv hv10) hl_31 dX6_writeAt_29 ?_
          refine lv_iload_n hx hb dX6_writeAt_32 rfl (lv_at hl 2 rfl) ?_
          refine lv_iload_n hx hb dX6_writeAt_33 rfl (lv_at hl 3 rfl) ?_
          refine lv_iload hx hb dX6_writeAt_34 (lv_at hl 4 rfl) ?_
          obtain ⟨M12, hc11, h⟩ := o1_e h
          refine c_v X Z (c_V (i := (50, v10, 0)) (As := [.int a2, .int a3, .int a4]) (rest := []) S X hN Z (cl_st (cl_srv hv10)) rfl rfl (t_X8_setFile l N D dA A hJ (cl_st (cl_srv hv10)) hc11) (cwV 3 hts (cGV (cB 238 rfl) (cB 71 rfl) (cB 72 rfl) (cB 44 rfl) (cB 67 rfl)) rfl rfl rfl (by decide +kernel) ⟨Nat.le_of_ble_eq_true rfl, Nat.le_of_ble_eq_true rfl⟩) rfl hl.1 rfl (Nat.le_of_ble_eq_true rfl) dX6_writeAt_36 ⟨Nat.zero_le _, Nat.zero_le _⟩) (fun H locs Z => ?_)
          refine lv_aload_n hx hb dX6_writeAt_39 rfl (lv_at hl 0 rfl) ?_
          refine cr_X6_tallies S X Z hin_X6 (cl_one N 10 (by decide)) hl_23 dX6_writeAt_40 ?_
          refine lv_iconst (v := (1 : Int32)) hx hb dX6_writeAt_43 (by decide) ?_
          refine lv_dup2_11 hx hb dX6_writeAt_44 rfl rfl ?_
          refine g_iald (i := (9, 0, 0)) (n := 8) S X Z (cl_one N 9 (by decide)) rfl dX6_writeAt_45 h (fun v13 h => ?_)
          refine lv_iconst (v := (1 : Int32)) hx hb dX6_writeAt_46 (by decide) ?_
          refine lv_iadd hx hb dX6_writeAt_47 ?_
          refine g_iast (i := (9, 0, 0)) (n := 8) S X Z (cl_one N 9 (by decide)) rfl dX6_writeAt_48 h (fun M14 H locs Z h => ?_)
          exact hJ49 M14 _ _ _ Z (lv_sub hl [0, 1, 2, 3, 4, 5] rfl) h
  exact hL3 100 (0 : Int32) M _ _ _ Z (lv_sub hl [1, 2, 3, 4, 5, 0] rfl) h
-- X6_countAct (II)I: 68 instructions
theorem dX6_countAct_0 : decode cX6_countAct 0 = .ok (.aload_n 0, 1) := by decide +kernel
theorem dX6_countAct_1 : decode cX6_countAct 1 = .ok (.iload_n 1, 1) := by decide +kernel
theorem dX6_countAct_2 : decode cX6_countAct 2 = .ok (.iload_n 2, 1) := by decide +kernel
theorem dX6_countAct_3 : decode cX6_countAct 3 = .ok (.invokevirtual 98, 3) := by decide +kernel
theorem dX6_countAct_6 : decode cX6_countAct 6 = .ok (.iconst 0, 1) := by decide +kernel
theorem dX6_countAct_7 : decode cX6_countAct 7 = .ok (.istore_n 3, 1) := by decide +kernel
theorem dX6_countAct_8 : decode cX6_countAct 8 = .ok (.iconst 0, 1) := by decide +kernel
theorem dX6_countAct_9 : decode cX6_countAct 9 = .ok (.istore 4, 2) := by decide +kernel
theorem dX6_countAct_11 : decode cX6_countAct 11 = .ok (.iload 4, 2) := by decide +kernel
theorem dX6_countAct_13 : decode cX6_countAct 13 = .ok (.aload_n 0, 1) := by decide +kernel
theorem dX6_countAct_14 : decode cX6_countAct 14 = .ok (.getfield 15, 3) := by decide +kernel
theorem dX6_countAct_17 : decode cX6_countAct 17 = .ok (.arraylength, 1) := by decide +kernel
theorem dX6_countAct_18 : decode cX6_countAct 18 = .ok (.if_icmp .ge 99, 3) := by decide +kernel
theorem dX6_countAct_21 : decode cX6_countAct 21 = .ok (.iload_n 1, 1) := by decide +kernel
theorem dX6_countAct_22 : decode cX6_countAct 22 = .ok (.iload 4, 2) := by decide +kernel
theorem dX6_countAct_24 : decode cX6_countAct 24 = .ok (.invokestatic 27, 3) := by decide +kernel
theorem dX6_countAct_27 : decode cX6_countAct 27 = .ok (.ifCond .ne 6, 3) := by decide +kernel
theorem dX6_countAct_30 : decode cX6_countAct 30 = .ok (.goto 81, 3) := by decide +kernel
theorem dX6_countAct_33 : decode cX6_countAct 33 = .ok (.aload_n 0, 1) := by decide +kernel
theorem dX6_countAct_34 : decode cX6_countAct 34 = .ok (.getfield 15, 3) := by decide +kernel
theorem dX6_countAct_37 : decode cX6_countAct 37 = .ok (.iload 4, 2) := by decide +kernel
theorem dX6_countAct_39 : decode cX6_countAct 39 = .ok (.aaload, 1) := by decide +kernel
theorem dX6_countAct_40 : decode cX6_countAct 40 = .ok (.getfield 102, 3) := by decide +kernel
theorem dX6_countAct_43 : decode cX6_countAct 43 = .ok (.istore 5, 2) := by decide +kernel
theorem dX6_countAct_45 : decode cX6_countAct 45 = .ok (.aload_n 0, 1) := by decide +kernel
theorem dX6_countAct_46 : decode cX6_countAct 46 = .ok (.iload 5, 2) := by decide +kernel
theorem dX6_countAct_48 : decode cX6_countAct 48 = .ok (.ifCond .eq 10, 3) := by decide +kernel
theorem dX6_countAct_51 : decode cX6_countAct 51 = .ok (.iconst 1, 1) := by decide +kernel
theorem dX6_countAct_52 : decode cX6_countAct 52 = .ok (.iload 4, 2) := by decide +kernel
theorem dX6_countAct_54 : decode cX6_countAct 54 = .ok (.ishl, 1) := by decide +kernel
theorem dX6_countAct_55 : decode cX6_countAct 55 = .ok (.goto 4, 3) := by decide +kernel
theorem dX6_countAct_58 : decode cX6_countAct 58 = .ok (.iload_n 1, 1) := by decide +kernel
theorem dX6_countAct_59 : decode cX6_countAct 59 = .ok (.iload_n 2, 1) := by decide +kernel
theorem dX6_countAct_60 : decode cX6_countAct 60 = .ok (.aload_n 0, 1) := by decide +kernel
theorem dX6_countAct_61 : decode cX6_countAct 61 = .ok (.getfield 15, 3) := by decide +kernel
theorem dX6_countAct_64 : decode cX6_countAct 64 = .ok (.iload 4, 2) := by decide +kernel
theorem dX6_countAct_66 : decode cX6_countAct 66 = .ok (.aaload, 1) := by decide +kernel
theorem dX6_countAct_67 : decode cX6_countAct 67 = .ok (.getfield 31, 3) := by decide +kernel
theorem dX6_countAct_70 : decode cX6_countAct 70 = .ok (.getfield 47, 3) := by decide +kernel
theorem dX6_countAct_73 : decode cX6_countAct 73 = .ok (.iload_n 2, 1) := by decide +kernel
theorem dX6_countAct_74 : decode cX6_countAct 74 = .ok (.aaload, 1) := by decide +kernel
theorem dX6_countAct_75 : decode cX6_countAct 75 = .ok (.invokevirtual 106, 3) := by decide +kernel
theorem dX6_countAct_78 : decode cX6_countAct 78 = .ok (.iload 5, 2) := by decide +kernel
theorem dX6_countAct_80 : decode cX6_countAct 80 = .ok (.ifCond .eq 31, 3) := by decide +kernel
theorem dX6_countAct_83 : decode cX6_countAct 83 = .ok (.aload_n 0, 1) := by decide +kernel
theorem dX6_countAct_84 : decode cX6_countAct 84 = .ok (.getfield 15, 3) := by decide +kernel
theorem dX6_countAct_87 : decode cX6_countAct 87 = .ok (.iload 4, 2) := by decide +kernel
theorem dX6_countAct_89 : decode cX6_countAct 89 = .ok (.aaload, 1) := by decide +kernel
theorem dX6_countAct_90 : decode cX6_countAct 90 = .ok (.iconst 0, 1) := by decide +kernel
theorem dX6_countAct_91 : decode cX6_countAct 91 = .ok (.putfield 102, 3) := by decide +kernel
theorem dX6_countAct_94 : decode cX6_countAct 94 = .ok (.aload_n 0, 1) := by decide +kernel
theorem dX6_countAct_95 : decode cX6_countAct 95 = .ok (.getfield 23, 3) := by decide +kernel
theorem dX6_countAct_98 : decode cX6_countAct 98 = .ok (.iconst 4, 1) := by decide +kernel
theorem dX6_countAct_99 : decode cX6_countAct 99 = .ok (.dup2, 1) := by decide +kernel
theorem dX6_countAct_100 : decode cX6_countAct 100 = .ok (.iaload, 1) := by decide +kernel
theorem dX6_countAct_101 : decode cX6_countAct 101 = .ok (.iconst 1, 1) := by decide +kernel
theorem dX6_countAct_102 : decode cX6_countAct 102 = .ok (.iadd, 1) := by decide +kernel
theorem dX6_countAct_103 : decode cX6_countAct 103 = .ok (.iastore, 1) := by decide +kernel
theorem dX6_countAct_104 : decode cX6_countAct 104 = .ok (.iload_n 3, 1) := by decide +kernel
theorem dX6_countAct_105 : decode cX6_countAct 105 = .ok (.iconst 1, 1) := by decide +kernel
theorem dX6_countAct_106 : decode cX6_countAct 106 = .ok (.iload 4, 2) := by decide +kernel
theorem dX6_countAct_108 : decode cX6_countAct 108 = .ok (.ishl, 1) := by decide +kernel
theorem dX6_countAct_109 : decode cX6_countAct 109 = .ok (.ior, 1) := by decide +kernel
theorem dX6_countAct_110 : decode cX6_countAct 110 = .ok (.istore_n 3, 1) := by decide +kernel
theorem dX6_countAct_111 : decode cX6_countAct 111 = .ok (.iinc 4 1, 3) := by decide +kernel
theorem dX6_countAct_114 : decode cX6_countAct 114 = .ok (.goto (-103), 3) := by decide +kernel
theorem dX6_countAct_117 : decode cX6_countAct 117 = .ok (.iload_n 3, 1) := by decide +kernel
theorem dX6_countAct_118 : decode cX6_countAct 118 = .ok (.ireturn, 1) := by decide +kernel
abbrev wmX6_countAct : List Cond := .code yX6_countAct cX6_countAct 6 (some .int) :: cBig
def f_X6_countAct_L11 (N : Nat) (a1 : Int32) (a2 : Int32) : Nat → Int32 → Int32 → gM → Option (Int32 × gM)
  | 0, _, _, _ => none
  | n6 + 1, x3, x4, M5 => (if (nI N) ≤ x4 then some (x3, M5) else o1 (f_X10_isIn N M5 a1 x4) (fun v9 => jn (fun (q : (Int32 × gM)) => match q with | (b10, M11) => lt (x4 + 1) (fun x12 => f_X6_countAct_L11 N a1 a2 n6 b10 x12 M11)) (fun J111 => (if v9 = 0 then J111 (x3, M5) else ix x4 N (fun v14 => lt (M5 (20, v14, 0) 3) (fun v15 => jn (fun (q : (Int32 × gM)) => match q with | (b16, M17) => ix x4 N (fun v18 => ix a2 48 (fun v19 => o1 (f_X6_copyMarks N M17 b16 a2 (55, v18, v19)) (fun M21 => (if v15 = 0 then J111 (x3, M21) else ix x4 N (fun v23 => gz (0 : Int32) (lt (gset M21 (20, v23, 0) 3 (0 : Int32)) (fun M24 => rd M24 (9, 0, 0) 8 (4 : Int32) (fun v25 => wr M24 (9, 0, 0) 8 (4 : Int32) (v25 + (1 : Int32)) (fun M26 => lt ((x3 ||| ((1 : Int32) <<< (x4 &&& 31)))) (fun x27 => J111 (x27, M26)))))))))))) (fun J59 => (if v15 = 0 then J59 (a1, M5) else J59 (((1 : Int32) <<< (x4 &&& 31)), M5)))))))))
def f_X6_countAct (N : Nat) (M : gM) (a1 : Int32) (a2 : Int32) : Option (Int32 × gM) :=
  o1 (f_X6_growMarks N M a1 a2) (fun M2 => f_X6_countAct_L11 N a1 a2 100 (0 : Int32) (0 : Int32) M2)
set_option maxHeartbeats 4000000 in
set_option maxRecDepth 100000 in
theorem t_X6_countAct (l : Launch) (N : Nat) (D : va_G) (dA : Nat → ClassId) (A : gI → Nat) (hJ : gJ (cLive N) A) {M : gM} {a1 : Int32} {a2 : Int32}  {y : (Int32 × gM)} (h : f_X6_countAct N M a1 a2 = some y) : cMi l yX6_countAct wmX6_countAct ({ frames := 2, cells := 0, slots := 0, locals := 45 } : Room) N D dA A [.ref (A (10, 0, 0)), .int a1, .int a2] M y.1 y.2 := by
  refine Met.ofW (cc := cX6_countAct) (maxL := 6) (ret := (some .int)) (by decide) rfl ?_
  intro p e s m args below meth c s₁ B hml hv
  obtain ⟨rfl, hP, hK, hN⟩ := hv
  generalize hargs : ([.ref (A (10, 0, 0)), .int a1, .int a2] : List Value).toArray = args at B ⊢
  have S : CallFix p m c cX6_countAct 6 s args wmX6_countAct RX6 := ⟨B.exec, B.bytes, hml, findClass_of_methodNamed B.named, atoms_spec (ws := wmX6_countAct) B.pre⟩
  obtain ⟨hx, hb, -, hown, hts⟩ := id S
  have hr := B.returns
  have hlocks := B.notSynchronized
  have X : gX D vwCl dA (cLive N) A (gA (cLive N) A) s := ⟨hK, hJ, fun i hi => ⟨i, hi, rfl⟩⟩
  have Z : gZ D (cLay N) dA (cLive N) A (gA (cLive N) A) s.heap M s.heap [] := ⟨hP, va_S.rf⟩
  have hin_X6 : ∀ w ∈ wsX60, w ∈ wmX6_countAct := cin_X6
  have hin_X7 : ∀ w ∈ wsX70, w ∈ wmX6_countAct := cin_X7
  have hin_X8 : ∀ w ∈ wsX80, w ∈ wmX6_countAct := cin_X8
  have hl_15 := hts (.fieldLink RX6 15 "ReplicaFiles$Replicas" "servers" "[LReplicaFiles$Server;") (cBc 177 rfl)
  have hl_23 := hts (.fieldLink RX6 23 "ReplicaFiles$Replicas" "tallies" "[I") (cBc 237 rfl)
  have hl_31 := va_Nw.use (A := args) rfl (hN.1 ("ReplicaFiles$Replicas", 31, "ReplicaFiles$Server", "tree", "LReplicaFiles$Tree;", "ReplicaFiles") (by decide +kernel))
  have hl_47 := va_Nw.use (A := args) rfl (hN.1 ("ReplicaFiles$Replicas", 47, "ReplicaFiles$Tree", "counts", "[[I", "ReplicaFiles") (by decide +kernel))
  have hl_102 := va_Nw.use (A := args) rfl (hN.1 ("ReplicaFiles$Replicas", 102, "ReplicaFiles$Server", "losesPhase", "Z", "ReplicaFiles") (by decide +kernel))
  have hl := lv_entry ([.ref (A (10, 0, 0)), .int a1, .int a2]) (n := 6) (Nat.le_of_ble_eq_true rfl)
  rw [← hargs, lg_entry_eq, hargs]
  generalize (lg_sl ([.ref (A (10, 0, 0)), .int a1, .int a2]) ++ List.replicate (6 - (lg_sl ([.ref (A (10, 0, 0)), .int a1, .int a2])).length) Slot.unset).toArray = ls at hl ⊢
  have hl : lv_has ls 6 [(0, .ref (A (10, 0, 0))), (1, .int a1), (2, .int a2)] := hl
  unfold f_X6_countAct at h
  refine lv_aload_n hx hb dX6_countAct_0 rfl (lv_at hl 0 rfl) ?_
  refine lv_iload_n hx hb dX6_countAct_1 rfl (lv_at hl 1 rfl) ?_
  refine lv_iload_n hx hb dX6_countAct_2 rfl (lv_at hl 2 rfl) ?_
  obtain ⟨M2, hc1, h⟩ := o1_e h
  refine c_v X Z (c_V (i := (10, 0, 0)) (As := [.int a1, .int a2]) (rest := []) S X hN Z (cl_one N 10 (by decide)) rfl rfl (t_X6_growMarks l N D dA A hJ  hc1) (cwV 2 hts (cGV (cB 200 rfl) (cB 201 rfl) (cB 202 rfl) (cB 203 rfl) (cB 197 rfl)) rfl rfl rfl (by decide +kernel) ⟨Nat.le_of_ble_eq_true rfl, Nat.le_of_ble_eq_true rfl⟩) rfl hl.1 rfl (Nat.le_of_ble_eq_true rfl) dX6_countAct_3 ⟨Nat.zero_le _, Nat.zero_le _⟩) (fun H locs Z => ?_)
  refine lv_iconst (v := (0 : Int32)) hx hb dX6_countAct_6 (by decide) ?_
  refine lv_istore_n (lv' := [(3, .int (0 : Int32)), (0, .ref (A (10, 0, 0))), (1, .int a1), (2, .int a2)]) hx hb dX6_countAct_7 rfl hl (by decide) rfl (fun ls hl => ?_)
  refine lv_iconst (v := (0 : Int32)) hx hb dX6_countAct_8 (by decide) ?_
  refine lv_istore (lv' := [(4, .int (0 : Int32)), (3, .int (0 : Int32)), (0, .ref (A (10, 0, 0))), (1, .int a1), (2, .int a2)]) hx hb dX6_countAct_9 hl (by decide) rfl (fun ls hl => ?_)
  have hL11 : ∀ (n : Nat) (x3 : Int32) (x4 : Int32) (M5 : gM) (H : Heap) (locs : List Loc) (ls : Array Slot), gZ D (cLay N) dA (cLive N) A (gA (cLive N) A) s.heap M5 H locs → lv_has ls 6 [(0, .ref (A (10, 0, 0))), (1, .int a1), (2, .int a2), (3, .int x3), (4, .int x4)] → f_X6_countAct_L11 N a1 a2 n x3 x4 M5 = some y → W p l e (headSpec wmX6_countAct ({ frames := 2, cells := 0, slots := 0, locals := 45 } : Room)).room s m args below meth c H locs 0 0 (MQ below (cQi N D dA A y) args s 0 0 (gA (cLive N) A)) (F0 m 11 ls []) := by
    intro n
    induction n with
    | zero =>
      intro x3 x4 M5 H locs ls Z hl h
      rw [f_X6_countAct_L11] at h
      cases h
    | succ n6 ih11 =>
      intro x3 x4 M5 H locs ls Z hl h
      rw [f_X6_countAct_L11] at h
      refine lv_iload hx hb dX6_countAct_11 (lv_at hl 4 rfl) ?_
      refine lv_aload_n hx hb dX6_countAct_13 rfl (lv_at hl 0 rfl) ?_
      refine cr_X6_servers S X Z hin_X6 (cl_one N 10 (by decide)) hl_15 dX6_countAct_14 ?_
      refine g_alR (i := (7, 0, 0)) (ca := 2) rfl S X Z (cl_one N 7 (by decide)) rfl dX6_countAct_17 ?_
      refine lv_icmp_ge (tgt := 117) hx hb dX6_countAct_18 (by decide) (fun c7 => ?_) (fun c7 => ?_)
      · have h := if_t c7 h
        refine lv_iload_n hx hb dX6_countAct_117 rfl (lv_at hl 3 rfl) ?_
        have hy := Option.some.inj h
        subst hy
        exact g_ri S Z hr hlocks dX6_countAct_118
      · have h := if_f c7 h
        refine lv_iload_n hx hb dX6_countAct_21 rfl (lv_at hl 1 rfl) ?_
        refine lv_iload hx hb dX6_countAct_22 (lv_at hl 4 rfl) ?_
        obtain ⟨v9, hc8, h⟩ := o1_e h
        refine c_i X Z (c_SN (As := [.int a1, .int x4]) (rest := []) S X hN Z (t_X10_isIn l N D dA A hJ  hc8) ⟨va_cnB 2 hts (cG (cB 175 rfl)) rfl rfl rfl (hN.2 ("ReplicaFiles$Replicas", 27, yX10_isIn, "ReplicaFiles") (by decide +kernel)) (hts (.initialized RX10) (cBc 107 rfl)) (by decide +kernel) ⟨Nat.le_of_ble_eq_true rfl, Nat.le_of_ble_eq_true rfl⟩, hts (.static yX10_isIn) (cBc 178 rfl), trivial⟩ rfl hl.1 rfl (Nat.le_of_ble_eq_true rfl) dX6_countAct_24 ⟨Nat.zero_le _, Nat.zero_le _⟩) (fun H locs Z => ?_)
        obtain ⟨J111, eJ111, h⟩ := jn_e h
        have hJ111 : ∀ (b10 : Int32) (M11 : gM) (H : Heap) (locs : List Loc) (ls : Array Slot), gZ D (cLay N) dA (cLive N) A (gA (cLive N) A) s.heap M11 H locs → lv_has ls 6 [(0, .ref (A (10, 0, 0))), (1, .int a1), (2, .int a2), (3, .int b10), (4, .int x4)] → J111 (b10, M11) = some y → W p l e (headSpec wmX6_countAct ({ frames := 2, cells := 0, slots := 0, locals := 45 } : Room)).room s m args below meth c H locs 0 0 (MQ below (cQi N D dA A y) args s 0 0 (gA (cLive N) A)) (F0 m 111 ls []) := by
          intro b10 M11 H locs ls Z hl h
          rw [eJ111] at h
          try dsimp only at h
          obtain ⟨x12, ex12, h⟩ := lt_e h
          refine lv_iinc (v := x12) (lv' := [(4, .int x12), (0, .ref (A (10, 0, 0))), (1, .int a1), (2, .int a2), (3, .int b10)]) hx hb dX6_countAct_111 hl (k := 4) rfl (by rw [ex12]; rfl) (by decide) rfl (fun ls hl => ?_)
          refine lv_goto (tgt := 11) hx hb dX6_countAct_114 (by decide) ?_
          exact ih11 b10 x12 M11 _ _ _ Z (lv_sub hl [1, 2, 3, 4, 0] rfl) h
        refine lv_if_ne (tgt := 33) hx hb dX6_countAct_27 (by decide) (fun c13 => ?_) (fun c13 => ?_)
        · have h := if_f c13 h
          refine lv_aload_n hx hb dX6_countAct_33 rfl (lv_at hl 0 rfl) ?_
          refine cr_X6_servers S X Z hin_X6 (cl_one N 10 (by decide)) hl_15 dX6_countAct_34 ?_
          refine lv_iload hx hb dX6_countAct_37 (lv_at hl 4 rfl) ?_
          refine g_aald (i := (7, 0, 0)) (ca := 2) ⟨rfl, rfl⟩ S X Z (cl_one N 7 (by decide)) rfl dX6_countAct_39 h (fun v14 hv14 h => ?_)
          refine cn_X7_losesPhase (a := v14) S X Z hin_X7 (cl_srv hv14) hl_102 dX6_countAct_40 h (fun v15 h => ?_)
          refine lv_istore (lv' := [(5, .int v15), (0, .ref (A (10, 0, 0))), (1, .int a1), (2, .int a2), (3, .int x3), (4, .int x4)]) hx hb dX6_countAct_43 hl (by decide) rfl (fun ls hl => ?_)
          refine lv_aload_n hx hb dX6_countAct_45 rfl (lv_at hl 1 rfl) ?_
          refine lv_iload hx hb dX6_countAct_46 (lv_at hl 0 rfl) ?_
          obtain ⟨J59, eJ59, h⟩ := jn_e h
          have hJ59 : ∀ (b16 : Int32) (M17 : gM) (H : Heap) (locs : List Loc) (ls : Array Slot), gZ D (cLay N) dA (cLive N) A (gA (cLive N) A) s.heap M17 H locs → lv_has ls 6 [(0, .ref (A (10, 0, 0))), (1, .int a1), (2, .int a2), (3, .int x3), (4, .int x4), (5, .int v15)] → J59 (b16, M17) = some y → W p l e (headSpec wmX6_countAct ({ frames := 2, cells := 0, slots := 0, locals := 45 } : Room)).room s m args below meth c H locs 0 0 (MQ below (cQi N D dA A y) args s 0 0 (gA (cLive N) A)) (F0 m 59 ls [.int b16, .ref (A (10, 0, 0))]) := by
            intro b16 M17 H locs ls Z hl h
            rw [eJ59] at h
            try dsimp only at h
            refine lv_iload_n hx hb dX6_countAct_59 rfl (lv_at hl 2 rfl) ?_
            refine lv_aload_n hx hb dX6_countAct_60 rfl (lv_at hl 0 rfl) ?_
            refine cr_X6_servers S X Z hin_X6 (cl_one N 10 (by decide)) hl_15 dX6_countAct_61 ?_
            refine lv_iload hx hb dX6_countAct_64 (lv_at hl 4 rfl) ?_
            refine g_aald (i := (7, 0, 0)) (ca := 2) ⟨rfl, rfl⟩ S X Z (cl_one N 7 (by decide)) rfl dX6_countAct_66 h (fun v18 hv18 h => ?_)
            refine cn_X7_tree (a := v18) S X Z hin_X7 (cl_srv hv18) hl_31 dX6_countAct_67 ?_
            refine cn_X8_counts (a := v18) S X Z hin_X8 (cl_st (cl_srv hv18)) hl_47 dX6_countAct_70 ?_
            refine lv_iload_n hx hb dX6_countAct_73 rfl (lv_at hl 2 rfl) ?_
            refine g_aald (i := (54, v18, 0)) (ca := 5) ⟨rfl, rfl⟩ S X Z (cl_X8_counts (cl_st (cl_srv hv18))) rfl dX6_countAct_74 h (fun v19 hv19 h => ?_)
            obtain ⟨M21, hc20, h⟩ := o1_e h
            refine c_v X Z (c_V (i := (10, 0, 0)) (As := [.int b16, .int a2, .ref (A (55, v18, v19))]) (rest := []) S X hN Z (cl_one N 10 (by decide)) rfl rfl (t_X6_copyMarks l N D dA A hJ ⟨(cl_55 (cl_X8_counts (cl_st (cl_srv hv18))) hv19), rfl⟩ hc20) (cwV 3 hts (cGV (cB 204 rfl) (cB 205 rfl) (cB 206 rfl) (cB 203 rfl) (cB 198 rfl)) rfl rfl rfl (by decide +kernel) ⟨Nat.le_of_ble_eq_true rfl, Nat.le_of_ble_eq_true rfl⟩) rfl hl.1 rfl (Nat.le_of_ble_eq_true rfl) dX6_countAct_75 ⟨Nat.zero_le _, Nat.zero_le _⟩) (fun H locs Z => ?_)
            refine lv_iload hx hb dX6_countAct_78 (lv_at hl 5 rfl) ?_
            refine lv_if_eq (tgt := 111) hx hb dX6_countAct_80 (by decide) (fun c22 => ?_) (fun c22 => ?_)
            · have h := if_t c22 h
              exact hJ111 x3 M21 _ _ _ Z (lv_sub hl [0, 1, 2, 3, 4] rfl) h
            · have h := if_f c22 h
              refine lv_aload_n hx hb dX6_countAct_83 rfl (lv_at hl 0 rfl) ?_
              refine cr_X6_servers S X Z hin_X6 (cl_one N 10 (by decide)) hl_15 dX6_countAct_84 ?_
              refine lv_iload hx hb dX6_countAct_87 (lv_at hl 4 rfl) ?_
              refine g_aald (i := (7, 0, 0)) (ca := 2) ⟨rfl, rfl⟩ S X Z (cl_one N 7 (by decide)) rfl dX6_countAct_89 h (fun v23 hv23 h => ?_)
              refine lv_iconst (v := (0 : Int32)) hx hb dX6_countAct_90 (by decide) ?_
              refine cq_X7_losesPhase (a := v23) S X Z hin_X7 (cl_srv hv23) hl_102 dX6_countAct_91 h (fun M24 H locs Z h => ?_)
              refine lv_aload_n hx hb dX6_countAct_94 rfl (lv_at hl 0 rfl) ?_
              refine cr_X6_tallies S X Z hin_X6 (cl_one N 10 (by decide)) hl_23 dX6_countAct_95 ?_
              refine lv_iconst (v := (4 : Int32)) hx hb dX6_countAct_98 (by decide) ?_
              refine lv_dup2_11 hx hb dX6_countAct_99 rfl rfl ?_
              refine g_iald (i := (9, 0, 0)) (n := 8) S X Z (cl_one N 9 (by decide)) rfl dX6_countAct_100 h (fun v25 h => ?_)
              refine lv_iconst (v := (1 : Int32)) hx hb dX6_countAct_101 (by decide) ?_
              refine lv_iadd hx hb dX6_countAct_102 ?_
              refine g_iast (i := (9, 0, 0)) (n := 8) S X Z (cl_one N 9 (by decide)) rfl dX6_countAct_103 h (fun M26 H locs Z h => ?_)
              refine lv_iload_n hx hb dX6_countAct_104 rfl (lv_at hl 3 rfl) ?_
              refine lv_iconst (v := (1 : Int32)) hx hb dX6_countAct_105 (by decide) ?_
              refine lv_iload hx hb dX6_countAct_106 (lv_at hl 4 rfl) ?_
              refine lv_ishl hx hb dX6_countAct_108 ?_
              refine lv_ior hx hb dX6_countAct_109 ?_
              refine g_topi h (fun x27 h => ?_)
              refine lv_istore_n (lv' := [(3, .int x27), (0, .ref (A (10, 0, 0))), (1, .int a1), (2, .int a2), (4, .int x4), (5, .int v15)]) hx hb dX6_countAct_110 rfl hl (by decide) rfl (fun ls hl => ?_)
              exact hJ111 x27 M26 _ _ _ Z (lv_sub hl [1, 2, 3, 0, 4] rfl) h
          refine lv_if_eq (tgt := 58) hx hb dX6_countAct_48 (by decide) (fun c28 => ?_) (fun c28 => ?_)
          · have h := if_t c28 h
            refine lv_iload_n hx hb dX6_countAct_58 rfl (lv_at hl 2 rfl) ?_
            exact hJ59 a1 M5 _ _ _ Z (lv_sub hl [1, 2, 3, 4, 5, 0] rfl) h
          · have h := if_f c28 h
            refine lv_iconst (v := (1 : Int32)) hx hb dX6_countAct_51 (by decide) ?_
            refine lv_iload hx hb dX6_countAct_52 (lv_at hl 5 rfl) ?_
            refine lv_ishl hx hb dX6_countAct_54 ?_
            refine lv_goto (tgt := 59) hx hb dX6_countAct_55 (by decide) ?_
            exact hJ59 ((1 : Int32) <<< (x4 &&& 31)) M5 _ _ _ Z (lv_sub hl [1, 2, 3, 4, 5, 0] rfl) h
        · have h := if_t c13 h
          refine lv_goto (tgt := 111) hx hb dX6_countAct_30 (by decide) ?_
          exact hJ111 x3 M5 _ _ _ Z (lv_sub hl [0, 1, 2, 3, 4] rfl) h
  exact hL11 100 (0 : Int32) (0 : Int32) M2 _ _ _ Z (lv_sub hl [2, 3, 4, 1, 0] rfl) h
-- X2_handInWrite (I[I)V: 78 instructions
theorem dX2_handInWrite_0 : decode cX2_handInWrite 0 = .ok (.aload_n 0, 1) := by decide +kernel
theorem dX2_handInWrite_1 : decode cX2_handInWrite 1 = .ok (.getfield 9, 3) := by decide +kernel
theorem dX2_handInWrite_4 : decode cX2_handInWrite 4 = .ok (.getfield 79, 3) := by decide +kernel
theorem dX2_handInWrite_7 : decode cX2_handInWrite 7 = .ok (.aload_n 0, 1) := by decide +kernel
theorem dX2_handInWrite_8 : decode cX2_handInWrite 8 = .ok (.getfield 37, 3) := by decide +kernel
theorem dX2_handInWrite_11 : decode cX2_handInWrite 11 = .ok (.aaload, 1) := by decide +kernel
theorem dX2_handInWrite_12 : decode cX2_handInWrite 12 = .ok (.astore_n 3, 1) := by decide +kernel
theorem dX2_handInWrite_13 : decode cX2_handInWrite 13 = .ok (.aload_n 3, 1) := by decide +kernel
theorem dX2_handInWrite_14 : decode cX2_handInWrite 14 = .ok (.getfield 83, 3) := by decide +kernel
theorem dX2_handInWrite_17 : decode cX2_handInWrite 17 = .ok (.getfield 89, 3) := by decide +kernel
theorem dX2_handInWrite_20 : decode cX2_handInWrite 20 = .ok (.iload_n 1, 1) := by decide +kernel
theorem dX2_handInWrite_21 : decode cX2_handInWrite 21 = .ok (.baload, 1) := by decide +kernel
theorem dX2_handInWrite_22 : decode cX2_handInWrite 22 = .ok (.ifCond .ne 17, 3) := by decide +kernel
theorem dX2_handInWrite_25 : decode cX2_handInWrite 25 = .ok (.aload_n 0, 1) := by decide +kernel
theorem dX2_handInWrite_26 : decode cX2_handInWrite 26 = .ok (.getfield 9, 3) := by decide +kernel
theorem dX2_handInWrite_29 : decode cX2_handInWrite 29 = .ok (.getfield 95, 3) := by decide +kernel
theorem dX2_handInWrite_32 : decode cX2_handInWrite 32 = .ok (.iconst 2, 1) := by decide +kernel
theorem dX2_handInWrite_33 : decode cX2_handInWrite 33 = .ok (.dup2, 1) := by decide +kernel
theorem dX2_handInWrite_34 : decode cX2_handInWrite 34 = .ok (.iaload, 1) := by decide +kernel
theorem dX2_handInWrite_35 : decode cX2_handInWrite 35 = .ok (.iconst 1, 1) := by decide +kernel
theorem dX2_handInWrite_36 : decode cX2_handInWrite 36 = .ok (.iadd, 1) := by decide +kernel
theorem dX2_handInWrite_37 : decode cX2_handInWrite 37 = .ok (.iastore, 1) := by decide +kernel
theorem dX2_handInWrite_38 : decode cX2_handInWrite 38 = .ok (.return_, 1) := by decide +kernel
theorem dX2_handInWrite_39 : decode cX2_handInWrite 39 = .ok (.aload_n 3, 1) := by decide +kernel
theorem dX2_handInWrite_40 : decode cX2_handInWrite 40 = .ok (.iload_n 1, 1) := by decide +kernel
theorem dX2_handInWrite_41 : decode cX2_handInWrite 41 = .ok (.invokevirtual 98, 3) := by decide +kernel
theorem dX2_handInWrite_44 : decode cX2_handInWrite 44 = .ok (.ifCond .ne 19, 3) := by decide +kernel
theorem dX2_handInWrite_47 : decode cX2_handInWrite 47 = .ok (.aload_n 3, 1) := by decide +kernel
theorem dX2_handInWrite_48 : decode cX2_handInWrite 48 = .ok (.getfield 83, 3) := by decide +kernel
theorem dX2_handInWrite_51 : decode cX2_handInWrite 51 = .ok (.getfield 102, 3) := by decide +kernel
theorem dX2_handInWrite_54 : decode cX2_handInWrite 54 = .ok (.iload_n 1, 1) := by decide +kernel
theorem dX2_handInWrite_55 : decode cX2_handInWrite 55 = .ok (.aaload, 1) := by decide +kernel
theorem dX2_handInWrite_56 : decode cX2_handInWrite 56 = .ok (.aload_n 2, 1) := by decide +kernel
theorem dX2_handInWrite_57 : decode cX2_handInWrite 57 = .ok (.invokestatic 103, 3) := by decide +kernel
theorem dX2_handInWrite_60 : decode cX2_handInWrite 60 = .ok (.ifCond .ne 11, 3) := by decide +kernel
theorem dX2_handInWrite_63 : decode cX2_handInWrite 63 = .ok (.aload_n 0, 1) := by decide +kernel
theorem dX2_handInWrite_64 : decode cX2_handInWrite 64 = .ok (.aload_n 3, 1) := by decide +kernel
theorem dX2_handInWrite_65 : decode cX2_handInWrite 65 = .ok (.iload_n 1, 1) := by decide +kernel
theorem dX2_handInWrite_66 : decode cX2_handInWrite 66 = .ok (.aload_n 2, 1) := by decide +kernel
theorem dX2_handInWrite_67 : decode cX2_handInWrite 67 = .ok (.invokevirtual 107, 3) := by decide +kernel
theorem dX2_handInWrite_70 : decode cX2_handInWrite 70 = .ok (.return_, 1) := by decide +kernel
theorem dX2_handInWrite_71 : decode cX2_handInWrite 71 = .ok (.aload_n 0, 1) := by decide +kernel
theorem dX2_handInWrite_72 : decode cX2_handInWrite 72 = .ok (.getfield 9, 3) := by decide +kernel
theorem dX2_handInWrite_75 : decode cX2_handInWrite 75 = .ok (.aload_n 0, 1) := by decide +kernel
theorem dX2_handInWrite_76 : decode cX2_handInWrite 76 = .ok (.getfield 29, 3) := by decide +kernel
theorem dX2_handInWrite_79 : decode cX2_handInWrite 79 = .ok (.iload_n 1, 1) := by decide +kernel
theorem dX2_handInWrite_80 : decode cX2_handInWrite 80 = .ok (.aload_n 2, 1) := by decide +kernel
theorem dX2_handInWrite_81 : decode cX2_handInWrite 81 = .ok (.invokevirtual 111, 3) := by decide +kernel
theorem dX2_handInWrite_84 : decode cX2_handInWrite 84 = .ok (.istore 4, 2) := by decide +kernel
theorem dX2_handInWrite_86 : decode cX2_handInWrite 86 = .ok (.aload_n 0, 1) := by decide +kernel
theorem dX2_handInWrite_87 : decode cX2_handInWrite 87 = .ok (.getfield 9, 3) := by decide +kernel
theorem dX2_handInWrite_90 : decode cX2_handInWrite 90 = .ok (.iload 4, 2) := by decide +kernel
theorem dX2_handInWrite_92 : decode cX2_handInWrite 92 = .ok (.iload_n 1, 1) := by decide +kernel
theorem dX2_handInWrite_93 : decode cX2_handInWrite 93 = .ok (.aload_n 0, 1) := by decide +kernel
theorem dX2_handInWrite_94 : decode cX2_handInWrite 94 = .ok (.getfield 25, 3) := by decide +kernel
theorem dX2_handInWrite_97 : decode cX2_handInWrite 97 = .ok (.getfield 115, 3) := by decide +kernel
theorem dX2_handInWrite_100 : decode cX2_handInWrite 100 = .ok (.getfield 116, 3) := by decide +kernel
theorem dX2_handInWrite_103 : decode cX2_handInWrite 103 = .ok (.iload_n 1, 1) := by decide +kernel
theorem dX2_handInWrite_104 : decode cX2_handInWrite 104 = .ok (.iaload, 1) := by decide +kernel
theorem dX2_handInWrite_105 : decode cX2_handInWrite 105 = .ok (.aload_n 0, 1) := by decide +kernel
theorem dX2_handInWrite_106 : decode cX2_handInWrite 106 = .ok (.getfield 25, 3) := by decide +kernel
theorem dX2_handInWrite_109 : decode cX2_handInWrite 109 = .ok (.getfield 115, 3) := by decide +kernel
theorem dX2_handInWrite_112 : decode cX2_handInWrite 112 = .ok (.getfield 119, 3) := by decide +kernel
theorem dX2_handInWrite_115 : decode cX2_handInWrite 115 = .ok (.iload_n 1, 1) := by decide +kernel
theorem dX2_handInWrite_116 : decode cX2_handInWrite 116 = .ok (.iaload, 1) := by decide +kernel
theorem dX2_handInWrite_117 : decode cX2_handInWrite 117 = .ok (.invokevirtual 122, 3) := by decide +kernel
theorem dX2_handInWrite_120 : decode cX2_handInWrite 120 = .ok (.aload_n 0, 1) := by decide +kernel
theorem dX2_handInWrite_121 : decode cX2_handInWrite 121 = .ok (.getfield 9, 3) := by decide +kernel
theorem dX2_handInWrite_124 : decode cX2_handInWrite 124 = .ok (.iload 4, 2) := by decide +kernel
theorem dX2_handInWrite_126 : decode cX2_handInWrite 126 = .ok (.iload_n 1, 1) := by decide +kernel
theorem dX2_handInWrite_127 : decode cX2_handInWrite 127 = .ok (.invokevirtual 126, 3) := by decide +kernel
theorem dX2_handInWrite_130 : decode cX2_handInWrite 130 = .ok (.pop, 1) := by decide +kernel
theorem dX2_handInWrite_131 : decode cX2_handInWrite 131 = .ok (.aload_n 0, 1) := by decide +kernel
theorem dX2_handInWrite_132 : decode cX2_handInWrite 132 = .ok (.getfield 9, 3) := by decide +kernel
theorem dX2_handInWrite_135 : decode cX2_handInWrite 135 = .ok (.iload 4, 2) := by decide +kernel
theorem dX2_handInWrite_137 : decode cX2_handInWrite 137 = .ok (.iload_n 1, 1) := by decide +kernel
theorem dX2_handInWrite_138 : decode cX2_handInWrite 138 = .ok (.invokevirtual 130, 3) := by decide +kernel
theorem dX2_handInWrite_141 : decode cX2_handInWrite 141 = .ok (.return_, 1) := by decide +kernel
abbrev wmX2_handInWrite : List Cond := .code yX2_handInWrite cX2_handInWrite 5 none :: cBig
def f_X2_handInWrite (N : Nat) (M : gM) (a1 : Int32) (a2 : gI) : Option gM :=
  lt (M (11, 0, 0) 4) (fun v1 => ix v1 N (fun v2 => rd M (51, v2, 0) 48 a1 (fun v3 => (if v3 = 0 then rd M (9, 0, 0) 8 (2 : Int32) (fun v29 => wr M (9, 0, 0) 8 (2 : Int32) (v29 + (1 : Int32)) (fun M30 => some M30)) else o1 (f_X7_isInConflict N M v2 a1) (fun v6 => jn (fun (M7 : gM) => o1 (f_X2_handInVersion N M7 v2 a1 a2) (fun M9 => some M9)) (fun J63 => (if v6 = 0 then ix a1 48 (fun v11 => o1 (f_X10_isSame N M (55, v2, v11) a2) (fun v13 => (if v13 = 0 then J63 M else lt (M (11, 0, 0) 3) (fun v15 => o1 (f_X6_holdersOf N M v15 a1 a2) (fun v17 => ix (M (11, 0, 0) 2) 4 (fun v18 => rd M (52, (4 + v18), 0) 48 a1 (fun v19 => ix (M (11, 0, 0) 2) 4 (fun v20 => rd M (53, (4 + v20), 0) 48 a1 (fun v21 => o1 (f_X6_writeAt N M v17 a1 v19 v21) (fun M23 => ob (f_X6_countAct N M23 v17 a1) (fun v26 M25 => o1 (f_X6_endPromises N M25 v17 a1) (fun M28 => some M28)))))))))))) else J63 M)))))))
set_option maxHeartbeats 4000000 in
set_option maxRecDepth 100000 in
theorem t_X2_handInWrite (l : Launch) (N : Nat) (D : va_G) (dA : Nat → ClassId) (A : gI → Nat) (hJ : gJ (cLive N) A) {M : gM} {a1 : Int32} {a2 : gI} (ha2 : cArr N a2) {y : gM} (h : f_X2_handInWrite N M a1 a2 = some y) : cMv l yX2_handInWrite wmX2_handInWrite ({ frames := 4, cells := 0, slots := 0, locals := 95 } : Room) N D dA A [.ref (A (11, 0, 0)), .int a1, .ref (A a2)] M y := by
  refine Met.ofW (cc := cX2_handInWrite) (maxL := 5) (ret := none) (by decide) rfl ?_
  intro p e s m args below meth c s₁ B hml hv
  obtain ⟨rfl, hP, hK, hN⟩ := hv
  generalize hargs : ([.ref (A (11, 0, 0)), .int a1, .ref (A a2)] : List Value).toArray = args at B ⊢
  have S : CallFix p m c cX2_handInWrite 5 s args wmX2_handInWrite RX2 := ⟨B.exec, B.bytes, hml, findClass_of_methodNamed B.named, atoms_spec (ws := wmX2_handInWrite) B.pre⟩
  obtain ⟨hx, hb, -, hown, hts⟩ := id S
  have hr := B.returns
  have hlocks := B.notSynchronized
  have X : gX D vwCl dA (cLive N) A (gA (cLive N) A) s := ⟨hK, hJ, fun i hi => ⟨i, hi, rfl⟩⟩
  have Z : gZ D (cLay N) dA (cLive N) A (gA (cLive N) A) s.heap M s.heap [] := ⟨hP, va_S.rf⟩
  have hin_X1 : ∀ w ∈ wsX10, w ∈ wmX2_handInWrite := cin_X1
  have hin_X2 : ∀ w ∈ wsX20, w ∈ wmX2_handInWrite := cin_X2
  have hin_X6 : ∀ w ∈ wsX60, w ∈ wmX2_handInWrite := cin_X6
  have hin_X7 : ∀ w ∈ wsX70, w ∈ wmX2_handInWrite := cin_X7
  have hin_X8 : ∀ w ∈ wsX80, w ∈ wmX2_handInWrite := cin_X8
  have hl_9 := hts (.fieldLink RX2 9 "ReplicaFiles$HandingIn" "replicas" "LReplicaFiles$Replicas;") (cBc 172 rfl)
  have hl_25 := hts (.fieldLink RX2 25 "ReplicaFiles$HandingIn" "client" "LReplicaFiles$Client;") (cBc 174 rfl)
  have hl_29 := hts (.fieldLink RX2 29 "ReplicaFiles$HandingIn" "near" "I") (cBc 240 rfl)
  have hl_37 := hts (.fieldLink RX2 37 "ReplicaFiles$HandingIn" "least" "I") (cBc 209 rfl)
  have hl_79 := va_Nw.use (A := args) rfl (hN.1 ("ReplicaFiles$HandingIn", 79, "ReplicaFiles$Replicas", "servers", "[LReplicaFiles$Server;", "ReplicaFiles") (by decide +kernel))
  have hl_83 := va_Nw.use (A := args) rfl (hN.1 ("ReplicaFiles$HandingIn", 83, "ReplicaFiles$Server", "tree", "LReplicaFiles$Tree;", "ReplicaFiles") (by decide +kernel))
  have hl_89 := va_Nw.use (A := args) rfl (hN.1 ("ReplicaFiles$HandingIn", 89, "ReplicaFiles$Tree", "held", "[Z", "ReplicaFiles") (by decide +kernel))
  have hl_95 := va_Nw.use (A := args) rfl (hN.1 ("ReplicaFiles$HandingIn", 95, "ReplicaFiles$Replicas", "tallies", "[I", "ReplicaFiles") (by decide +kernel))
  have hl_102 := va_Nw.use (A := args) rfl (hN.1 ("ReplicaFiles$HandingIn", 102, "ReplicaFiles$Tree", "counts", "[[I", "ReplicaFiles") (by decide +kernel))
  have hl_115 := va_Nw.use (A := args) rfl (hN.1 ("ReplicaFiles$HandingIn", 115, "ReplicaFiles$Client", "tree", "LReplicaFiles$Tree;", "ReplicaFiles") (by decide +kernel))
  have hl_116 := va_Nw.use (A := args) rfl (hN.1 ("ReplicaFiles$HandingIn", 116, "ReplicaFiles$Tree", "value", "[I", "ReplicaFiles") (by decide +kernel))
  have hl_119 := va_Nw.use (A := args) rfl (hN.1 ("ReplicaFiles$HandingIn", 119, "ReplicaFiles$Tree", "size", "[I", "ReplicaFiles") (by decide +kernel))
  have hl := lv_entry ([.ref (A (11, 0, 0)), .int a1, .ref (A a2)]) (n := 5) (Nat.le_of_ble_eq_true rfl)
  rw [← hargs, lg_entry_eq, hargs]
  generalize (lg_sl ([.ref (A (11, 0, 0)), .int a1, .ref (A a2)]) ++ List.replicate (5 - (lg_sl ([.ref (A (11, 0, 0)), .int a1, .ref (A a2)])).length) Slot.unset).toArray = ls at hl ⊢
  have hl : lv_has ls 5 [(0, .ref (A (11, 0, 0))), (1, .int a1), (2, .ref (A a2))] := hl
  unfold f_X2_handInWrite at h
  refine lv_aload_n hx hb dX2_handInWrite_0 rfl (lv_at hl 0 rfl) ?_
  refine cr_X2_replicas S X Z hin_X2 (cl_one N 11 (by decide)) hl_9 dX2_handInWrite_1 ?_
  refine cn_X6_servers S X Z hin_X6 (cl_one N 10 (by decide)) hl_79 dX2_handInWrite_4 ?_
  refine lv_aload_n hx hb dX2_handInWrite_7 rfl (lv_at hl 0 rfl) ?_
  refine cr_X2_least S X Z hin_X2 (cl_one N 11 (by decide)) hl_37 dX2_handInWrite_8 h (fun v1 h => ?_)
  refine g_aald (i := (7, 0, 0)) (ca := 2) ⟨rfl, rfl⟩ S X Z (cl_one N 7 (by decide)) rfl dX2_handInWrite_11 h (fun v2 hv2 h => ?_)
  refine lv_astore_n (lv' := [(3, .ref (A (20, v2, 0))), (0, .ref (A (11, 0, 0))), (1, .int a1), (2, .ref (A a2))]) hx hb dX2_handInWrite_12 rfl hl (by decide) rfl (fun ls hl => ?_)
  refine lv_aload_n hx hb dX2_handInWrite_13 rfl (lv_at hl 0 rfl) ?_
  refine cn_X7_tree (a := v2) S X Z hin_X7 (cl_srv hv2) hl_83 dX2_handInWrite_14 ?_
  refine cn_X8_held (a := v2) S X Z hin_X8 (cl_st (cl_srv hv2)) hl_89 dX2_handInWrite_17 ?_
  refine lv_iload_n hx hb dX2_handInWrite_20 rfl (lv_at hl 2 rfl) ?_
  refine g_zald (i := (51, v2, 0)) (n := 48) S X Z (cl_X8_held (cl_st (cl_srv hv2))) rfl dX2_handInWrite_21 h (fun v3 h => ?_)
  refine lv_if_ne (tgt := 39) hx hb dX2_handInWrite_22 (by decide) (fun c4 => ?_) (fun c4 => ?_)
  · have h := if_f c4 h
    refine lv_aload_n hx hb dX2_handInWrite_39 rfl (lv_at hl 0 rfl) ?_
    refine lv_iload_n hx hb dX2_handInWrite_40 rfl (lv_at hl 2 rfl) ?_
    obtain ⟨v6, hc5, h⟩ := o1_e h
    refine c_i X Z (c_V (i := (20, v2, 0)) (As := [.int a1]) (rest := []) S X hN Z (cl_srv hv2) rfl rfl (t_X7_isInConflict l N D dA A hJ (cl_srv hv2) hc5) (cwV 1 hts (cGV (cB 241 rfl) (cB 233 rfl) (cB 234 rfl) (cB 235 rfl) (cB 179 rfl)) rfl rfl rfl (by decide +kernel) ⟨Nat.le_of_ble_eq_true rfl, Nat.le_of_ble_eq_true rfl⟩) rfl hl.1 rfl (Nat.le_of_ble_eq_true rfl) dX2_handInWrite_41 ⟨Nat.zero_le _, Nat.zero_le _⟩) (fun H locs Z => ?_)
    obtain ⟨J63, eJ63, h⟩ := jn_e h
    have hJ63 : ∀ (M7 : gM) (H : Heap) (locs : List Loc) (ls : Array Slot), gZ D (cLay N) dA (cLive N) A (gA (cLive N) A) s.heap M7 H locs → lv_has ls 5 [(0, .ref (A (11, 0, 0))), (1, .int a1), (2, .ref (A a2)), (3, .ref (A (20, v2, 0)))] → J63 M7 = some y → W p l e (headSpec wmX2_handInWrite ({ frames := 4, cells := 0, slots := 0, locals := 95 } : Room)).room s m args below meth c H locs 0 0 (MQ below (cQv N D dA A y) args s 0 0 (gA (cLive N) A)) (F0 m 63 ls []) := by
      intro M7 H locs ls Z hl h
      rw [eJ63] at h
      try dsimp only at h
      refine lv_aload_n hx hb dX2_handInWrite_63 rfl (lv_at hl 0 rfl) ?_
      refine lv_aload_n hx hb dX2_handInWrite_64 rfl (lv_at hl 3 rfl) ?_
      refine lv_iload_n hx hb dX2_handInWrite_65 rfl (lv_at hl 1 rfl) ?_
      refine lv_aload_n hx hb dX2_handInWrite_66 rfl (lv_at hl 2 rfl) ?_
      obtain ⟨M9, hc8, h⟩ := o1_e h
      refine c_v X Z (c_V (i := (11, 0, 0)) (As := [.ref (A (20, v2, 0)), .int a1, .ref (A a2)]) (rest := []) S X hN Z (cl_one N 11 (by decide)) rfl rfl (t_X2_handInVersion l N D dA A hJ (cl_srv hv2) ha2 hc8) (cwV 3 hts (cGV (cB 242 rfl) (cB 243 rfl) (cB 244 rfl) (cB 245 rfl) (cB 221 rfl)) rfl rfl rfl (by decide +kernel) ⟨Nat.le_of_ble_eq_true rfl, Nat.le_of_ble_eq_true rfl⟩) rfl hl.1 rfl (Nat.le_of_ble_eq_true rfl) dX2_handInWrite_67 ⟨Nat.zero_le _, Nat.zero_le _⟩) (fun H locs Z => ?_)
      have hy := Option.some.inj h
      subst hy
      exact g_rv S Z hr hlocks dX2_handInWrite_70
    refine lv_if_ne (tgt := 63) hx hb dX2_handInWrite_44 (by decide) (fun c10 => ?_) (fun c10 => ?_)
    · have h := if_f c10 h
      exact hJ63 M _ _ _ Z (lv_sub hl [1, 2, 3, 0] rfl) h
    · have h := if_t c10 h
      refine lv_aload_n hx hb dX2_handInWrite_47 rfl (lv_at hl 0 rfl) ?_
      refine cn_X7_tree (a := v2) S X Z hin_X7 (cl_srv hv2) hl_83 dX2_handInWrite_48 ?_
      refine cn_X8_counts (a := v2) S X Z hin_X8 (cl_st (cl_srv hv2)) hl_102 dX2_handInWrite_51 ?_
      refine lv_iload_n hx hb dX2_handInWrite_54 rfl (lv_at hl 2 rfl) ?_
      refine g_aald (i := (54, v2, 0)) (ca := 5) ⟨rfl, rfl⟩ S X Z (cl_X8_counts (cl_st (cl_srv hv2))) rfl dX2_handInWrite_55 h (fun v11 hv11 h => ?_)
      refine lv_aload_n hx hb dX2_handInWrite_56 rfl (lv_at hl 3 rfl) ?_
      obtain ⟨v13, hc12, h⟩ := o1_e h
      refine c_i X Z (c_SN (As := [.ref (A (55, v2, v11)), .ref (A a2)]) (rest := []) S X hN Z (t_X10_isSame l N D dA A hJ ⟨(cl_55 (cl_X8_counts (cl_st (cl_srv hv2))) hv11), rfl⟩ ha2 hc12) ⟨va_cnB 2 hts (cG (cB 181 rfl)) rfl rfl rfl (hN.2 ("ReplicaFiles$HandingIn", 103, yX10_isSame, "ReplicaFiles") (by decide +kernel)) (hts (.initialized RX10) (cBc 107 rfl)) (by decide +kernel) ⟨Nat.le_of_ble_eq_true rfl, Nat.le_of_ble_eq_true rfl⟩, hts (.static yX10_isSame) (cBc 227 rfl), trivial⟩ rfl hl.1 rfl (Nat.le_of_ble_eq_true rfl) dX2_handInWrite_57 ⟨Nat.zero_le _, Nat.zero_le _⟩) (fun H locs Z => ?_)
      refine lv_if_ne (tgt := 71) hx hb dX2_handInWrite_60 (by decide) (fun c14 => ?_) (fun c14 => ?_)
      · have h := if_f c14 h
        refine lv_aload_n hx hb dX2_handInWrite_71 rfl (lv_at hl 1 rfl) ?_
        refine cr_X2_replicas S X Z hin_X2 (cl_one N 11 (by decide)) hl_9 dX2_handInWrite_72 ?_
        refine lv_aload_n hx hb dX2_handInWrite_75 rfl (lv_at hl 1 rfl) ?_
        refine cr_X2_near S X Z hin_X2 (cl_one N 11 (by decide)) hl_29 dX2_handInWrite_76 h (fun v15 h => ?_)
        refine lv_iload_n hx hb dX2_handInWrite_79 rfl (lv_at hl 2 rfl) ?_
        refine lv_aload_n hx hb dX2_handInWrite_80 rfl (lv_at hl 3 rfl) ?_
        obtain ⟨v17, hc16, h⟩ := o1_e h
        refine c_i X Z (c_V (i := (10, 0, 0)) (As := [.int v15, .int a1, .ref (A a2)]) (rest := []) S X hN Z (cl_one N 10 (by decide)) rfl rfl (t_X6_holdersOf l N D dA A hJ ha2 hc16) (cwV 3 hts (cGV (cB 246 rfl) (cB 247 rfl) (cB 248 rfl) (cB 203 rfl) (cB 228 rfl)) rfl rfl rfl (by decide +kernel) ⟨Nat.le_of_ble_eq_true rfl, Nat.le_of_ble_eq_true rfl⟩) rfl hl.1 rfl (Nat.le_of_ble_eq_true rfl) dX2_handInWrite_81 ⟨Nat.zero_le _, Nat.zero_le _⟩) (fun H locs Z => ?_)
        refine lv_istore (lv' := [(4, .int v17), (3, .ref (A (20, v2, 0))), (0, .ref (A (11, 0, 0))), (1, .int a1), (2, .ref (A a2))]) hx hb dX2_handInWrite_84 hl (by decide) rfl (fun ls hl => ?_)
        refine lv_aload_n hx hb dX2_handInWrite_86 rfl (lv_at hl 2 rfl) ?_
        refine cr_X2_replicas S X Z hin_X2 (cl_one N 11 (by decide)) hl_9 dX2_handInWrite_87 ?_
        refine lv_iload hx hb dX2_handInWrite_90 (lv_at hl 0 rfl) ?_
        refine lv_iload_n hx hb dX2_handInWrite_92 rfl (lv_at hl 3 rfl) ?_
        refine lv_aload_n hx hb dX2_handInWrite_93 rfl (lv_at hl 2 rfl) ?_
        refine cr_X2_client S X Z hin_X2 (cl_one N 11 (by decide)) hl_25 dX2_handInWrite_94 h (fun v18 hv18 h => ?_)
        refine cn_X1_tree (a := v18) S X Z hin_X1 (cl_cli hv18) hl_115 dX2_handInWrite_97 ?_
        refine cn_X8_value (a := (4 + v18)) S X Z hin_X8 (cl_ct (cl_cli hv18)) hl_116 dX2_handInWrite_100 ?_
        refine lv_iload_n hx hb dX2_handInWrite_103 rfl (lv_at hl 3 rfl) ?_
        refine g_iald (i := (52, (4 + v18), 0)) (n := 48) S X Z (cl_X8_value (cl_ct (cl_cli hv18))) rfl dX2_handInWrite_104 h (fun v19 h => ?_)
        refine lv_aload_n hx hb dX2_handInWrite_105 rfl (lv_at hl 2 rfl) ?_
        refine cr_X2_client S X Z hin_X2 (cl_one N 11 (by decide)) hl_25 dX2_handInWrite_106 h (fun v20 hv20 h => ?_)
        refine cn_X1_tree (a := v20) S X Z hin_X1 (cl_cli hv20) hl_115 dX2_handInWrite_109 ?_
        refine cn_X8_size (a := (4 + v20)) S X Z hin_X8 (cl_ct (cl_cli hv20)) hl_119 dX2_handInWrite_112 ?_
        refine lv_iload_n hx hb dX2_handInWrite_115 rfl (lv_at hl 3 rfl) ?_
        refine g_iald (i := (53, (4 + v20), 0)) (n := 48) S X Z (cl_X8_size (cl_ct (cl_cli hv20))) rfl dX2_handInWrite_116 h (fun v21 h => ?_)
        obtain ⟨M23, hc22, h⟩ := o1_e h
        refine c_v X Z (c_V (i := (10, 0, 0)) (As := [.int v17, .int a1, .int v19, .int v21]) (rest := []) S X hN Z (cl_one N 10 (by decide)) rfl rfl (t_X6_writeAt l N D dA A hJ  hc22) (cwV 4 hts (cGV (cB 249 rfl) (cB 250 rfl) (cB 251 rfl) (cB 203 rfl) (cB 236 rfl)) rfl rfl rfl (by decide +kernel) ⟨Nat.le_of_ble_eq_true rfl, Nat.le_of_ble_eq_true rfl⟩) rfl hl.1 rfl (Nat.le_of_ble_eq_true rfl) dX2_handInWrite_117 ⟨Nat.zero_le _, Nat.zero_le _⟩) (fun H locs Z => ?_)
        refine lv_aload_n hx hb dX2_handInWrite_120 rfl (lv_at hl 2 rfl) ?_
        refine cr_X2_replicas S X Z hin_X2 (cl_one N 11 (by decide)) hl_9 dX2_handInWrite_121 ?_
        refine lv_iload hx hb dX2_handInWrite_124 (lv_at hl 0 rfl) ?_
        refine lv_iload_n hx hb dX2_handInWrite_126 rfl (lv_at hl 3 rfl) ?_
        obtain ⟨v26, M25, hc24, h⟩ := ob_e h
        refine c_i X Z (c_V (i := (10, 0, 0)) (As := [.int v17, .int a1]) (rest := []) S X hN Z (cl_one N 10 (by decide)) rfl rfl (t_X6_countAct l N D dA A hJ  hc24) (cwV 2 hts (cGV (cB 252 rfl) (cB 253 rfl) (cB 254 rfl) (cB 203 rfl) (cB 239 rfl)) rfl rfl rfl (by decide +kernel) ⟨Nat.le_of_ble_eq_true rfl, Nat.le_of_ble_eq_true rfl⟩) rfl hl.1 rfl (Nat.le_of_ble_eq_true rfl) dX2_handInWrite_127 ⟨Nat.zero_le _, Nat.zero_le _⟩) (fun H locs Z => ?_)
        refine lv_pop hx hb dX2_handInWrite_130 rfl ?_
        refine lv_aload_n hx hb dX2_handInWrite_131 rfl (lv_at hl 2 rfl) ?_
        refine cr_X2_replicas S X Z hin_X2 (cl_one N 11 (by decide)) hl_9 dX2_handInWrite_132 ?_
        refine lv_iload hx hb dX2_handInWrite_135 (lv_at hl 0 rfl) ?_
        refine lv_iload_n hx hb dX2_handInWrite_137 rfl (lv_at hl 3 rfl) ?_
        obtain ⟨M28, hc27, h⟩ := o1_e h
        refine c_v X Z (c_V (i := (10, 0, 0)) (As := [.int v17, .int a1]) (rest := []) S X hN Z (cl_one N 10 (by decide)) rfl rfl (t_X6_endPromises l N D dA A hJ  hc27) (cwV 2 hts (cGV (cB 218 rfl) (cB 219 rfl) (cB 220 rfl) (cB 203 rfl) (cB 207 rfl)) rfl rfl rfl (by decide +kernel) ⟨Nat.le_of_ble_eq_true rfl, Nat.le_of_ble_eq_true rfl⟩) rfl hl.1 rfl (Nat.le_of_ble_eq_true rfl) dX2_handInWrite_138 ⟨Nat.zero_le _, Nat.zero_le _⟩) (fun H locs Z => ?_)
        have hy := Option.some.inj h
        subst hy
        exact g_rv S Z hr hlocks dX2_handInWrite_141
      · have h := if_t c14 h
        exact hJ63 M _ _ _ Z (lv_sub hl [1, 2, 3, 0] rfl) h
  · have h := if_t c4 h
    refine lv_aload_n hx hb dX2_handInWrite_25 rfl (lv_at hl 1 rfl) ?_
    refine cr_X2_replicas S X Z hin_X2 (cl_one N 11 (by decide)) hl_9 dX2_handInWrite_26 ?_
    refine cn_X6_tallies S X Z hin_X6 (cl_one N 10 (by decide)) hl_95 dX2_handInWrite_29 ?_
    refine lv_iconst (v := (2 : Int32)) hx hb dX2_handInWrite_32 (by decide) ?_
    refine lv_dup2_11 hx hb dX2_handInWrite_33 rfl rfl ?_
    refine g_iald (i := (9, 0, 0)) (n := 8) S X Z (cl_one N 9 (by decide)) rfl dX2_handInWrite_34 h (fun v29 h => ?_)
    refine lv_iconst (v := (1 : Int32)) hx hb dX2_handInWrite_35 (by decide) ?_
    refine lv_iadd hx hb dX2_handInWrite_36 ?_
    refine g_iast (i := (9, 0, 0)) (n := 8) S X Z (cl_one N 9 (by decide)) rfl dX2_handInWrite_37 h (fun M30 H locs Z h => ?_)
    have hy := Option.some.inj h
    subst hy
    exact g_rv S Z hr hlocks dX2_handInWrite_38
-- X6_makeAt (II)V: 36 instructions
theorem dX6_makeAt_0 : decode cX6_makeAt 0 = .ok (.iconst 0, 1) := by decide +kernel
theorem dX6_makeAt_1 : decode cX6_makeAt 1 = .ok (.istore_n 3, 1) := by decide +kernel
theorem dX6_makeAt_2 : decode cX6_makeAt 2 = .ok (.iload_n 3, 1) := by decide +kernel
theorem dX6_makeAt_3 : decode cX6_makeAt 3 = .ok (.aload_n 0, 1) := by decide +kernel
theorem dX6_makeAt_4 : decode cX6_makeAt 4 = .ok (.getfield 15, 3) := by decide +kernel
theorem dX6_makeAt_7 : decode cX6_makeAt 7 = .ok (.arraylength, 1) := by decide +kernel
theorem dX6_makeAt_8 : decode cX6_makeAt 8 = .ok (.if_icmp .ge 53, 3) := by decide +kernel
theorem dX6_makeAt_11 : decode cX6_makeAt 11 = .ok (.iload_n 1, 1) := by decide +kernel
theorem dX6_makeAt_12 : decode cX6_makeAt 12 = .ok (.iload_n 3, 1) := by decide +kernel
theorem dX6_makeAt_13 : decode cX6_makeAt 13 = .ok (.invokestatic 27, 3) := by decide +kernel
theorem dX6_makeAt_16 : decode cX6_makeAt 16 = .ok (.ifCond .eq 39, 3) := by decide +kernel
theorem dX6_makeAt_19 : decode cX6_makeAt 19 = .ok (.aload_n 0, 1) := by decide +kernel
theorem dX6_makeAt_20 : decode cX6_makeAt 20 = .ok (.getfield 15, 3) := by decide +kernel
theorem dX6_makeAt_23 : decode cX6_makeAt 23 = .ok (.iload_n 3, 1) := by decide +kernel
theorem dX6_makeAt_24 : decode cX6_makeAt 24 = .ok (.aaload, 1) := by decide +kernel
theorem dX6_makeAt_25 : decode cX6_makeAt 25 = .ok (.getfield 31, 3) := by decide +kernel
theorem dX6_makeAt_28 : decode cX6_makeAt 28 = .ok (.iload_n 2, 1) := by decide +kernel
theorem dX6_makeAt_29 : decode cX6_makeAt 29 = .ok (.invokevirtual 74, 3) := by decide +kernel
theorem dX6_makeAt_32 : decode cX6_makeAt 32 = .ok (.aload_n 0, 1) := by decide +kernel
theorem dX6_makeAt_33 : decode cX6_makeAt 33 = .ok (.getfield 15, 3) := by decide +kernel
theorem dX6_makeAt_36 : decode cX6_makeAt 36 = .ok (.iload_n 3, 1) := by decide +kernel
theorem dX6_makeAt_37 : decode cX6_makeAt 37 = .ok (.aaload, 1) := by decide +kernel
theorem dX6_makeAt_38 : decode cX6_makeAt 38 = .ok (.getfield 31, 3) := by decide +kernel
theorem dX6_makeAt_41 : decode cX6_makeAt 41 = .ok (.iload_n 2, 1) := by decide +kernel
theorem dX6_makeAt_42 : decode cX6_makeAt 42 = .ok (.invokevirtual 78, 3) := by decide +kernel
theorem dX6_makeAt_45 : decode cX6_makeAt 45 = .ok (.aload_n 0, 1) := by decide +kernel
theorem dX6_makeAt_46 : decode cX6_makeAt 46 = .ok (.getfield 23, 3) := by decide +kernel
theorem dX6_makeAt_49 : decode cX6_makeAt 49 = .ok (.iconst 1, 1) := by decide +kernel
theorem dX6_makeAt_50 : decode cX6_makeAt 50 = .ok (.dup2, 1) := by decide +kernel
theorem dX6_makeAt_51 : decode cX6_makeAt 51 = .ok (.iaload, 1) := by decide +kernel
theorem dX6_makeAt_52 : decode cX6_makeAt 52 = .ok (.iconst 1, 1) := by decide +kernel
theorem dX6_makeAt_53 : decode cX6_makeAt 53 = .ok (.iadd, 1) := by decide +kernel
theorem dX6_makeAt_54 : decode cX6_makeAt 54 = .ok (.iastore, 1) := by decide +kernel
theorem dX6_makeAt_55 : decode cX6_makeAt 55 = .ok (.iinc 3 1, 3) := by decide +kernel
theorem dX6_makeAt_58 : decode cX6_makeAt 58 = .ok (.goto (-56), 3) := by decide +kernel
theorem dX6_makeAt_61 : decode cX6_makeAt 61 = .ok (.return_, 1) := by decide +kernel
abbrev wmX6_makeAt : List Cond := .code yX6_makeAt cX6_makeAt 4 none :: cBig
def f_X6_makeAt_L2 (N : Nat) (a1 : Int32) (a2 : Int32) : Nat → Int32 → gM → Option gM
  | 0, _, _ => none
  | n3 + 1, x1, M2 => (if (nI N) ≤ x1 then some M2 else o1 (f_X10_isIn N M2 a1 x1) (fun v6 => jn (fun (M7 : gM) => lt (x1 + 1) (fun x8 => f_X6_makeAt_L2 N a1 a2 n3 x8 M7)) (fun J55 => (if v6 = 0 then J55 M2 else ix x1 N (fun v10 => o1 (f_X8_setThere N M2 v10 a2) (fun M12 => ix x1 N (fun v13 => o1 (f_X8_createCopy N M12 v13 a2) (fun M15 => rd M15 (9, 0, 0) 8 (1 : Int32) (fun v16 => wr M15 (9, 0, 0) 8 (1 : Int32) (v16 + (1 : Int32)) (fun M17 => J55 M17))))))))))
def f_X6_makeAt (N : Nat) (M : gM) (a1 : Int32) (a2 : Int32) : Option gM :=
  f_X6_makeAt_L2 N a1 a2 100 (0 : Int32) M
set_option maxHeartbeats 4000000 in
set_option maxRecDepth 100000 in
theorem t_X6_makeAt (l : Launch) (N : Nat) (D : va_G) (dA : Nat → ClassId) (A : gI → Nat) (hJ : gJ (cLive N) A) {M : gM} {a1 : Int32} {a2 : Int32}  {y : gM} (h : f_X6_makeAt N M a1 a2 = some y) : cMv l yX6_makeAt wmX6_makeAt ({ frames := 2, cells := 0, slots := 0, locals := 44 } : Room) N D dA A [.ref (A (10, 0, 0)), .int a1, .int a2] M y := by
  refine Met.ofW (cc := cX6_makeAt) (maxL := 4) (ret := none) (by decide) rfl ?_
  intro p e s m args below meth c s₁ B hml hv
  obtain ⟨rfl, hP, hK, hN⟩ := hv
  generalize hargs : ([.ref (A (10, 0, 0)), .int a1, .int a2] : List Value).toArray = args at B ⊢
  have S : CallFix p m c cX6_makeAt 4 s args wmX6_makeAt RX6 := ⟨B.exec, B.bytes, hml, findClass_of_methodNamed B.named, atoms_spec (ws := wmX6_makeAt) B.pre⟩
  obtain ⟨hx, hb, -, hown, hts⟩ := id S
  have hr := B.returns
  have hlocks := B.notSynchronized
  have X : gX D vwCl dA (cLive N) A (gA (cLive N) A) s := ⟨hK, hJ, fun i hi => ⟨i, hi, rfl⟩⟩
  have Z : gZ D (cLay N) dA (cLive N) A (gA (cLive N) A) s.heap M s.heap [] := ⟨hP, va_S.rf⟩
  have hin_X6 : ∀ w ∈ wsX60, w ∈ wmX6_makeAt := cin_X6
  have hin_X7 : ∀ w ∈ wsX70, w ∈ wmX6_makeAt := cin_X7
  have hl_15 := hts (.fieldLink RX6 15 "ReplicaFiles$Replicas" "servers" "[LReplicaFiles$Server;") (cBc 177 rfl)
  have hl_23 := hts (.fieldLink RX6 23 "ReplicaFiles$Replicas" "tallies" "[I") (cBc 237 rfl)
  have hl_31 := va_Nw.use (A := args) rfl (hN.1 ("ReplicaFiles$Replicas", 31, "ReplicaFiles$Server", "tree", "LReplicaFiles$Tree;", "ReplicaFiles") (by decide +kernel))
  have hl := lv_entry ([.ref (A (10, 0, 0)), .int a1, .int a2]) (n := 4) (Nat.le_of_ble_eq_true rfl)
  rw [← hargs, lg_entry_eq, hargs]
  generalize (lg_sl ([.ref (A (10, 0, 0)), .int a1, .int a2]) ++ List.replicate (4 - (lg_sl ([.ref (A (10, 0, 0)), .int a1, .int a2])).length) Slot.unset).toArray = ls at hl ⊢
  have hl : lv_has ls 4 [(0, .ref (A (10, 0, 0))), (1, .int a1), (2, .int a2)] := hl
  unfold f_X6_makeAt at h
  refine lv_iconst (v := (0 : Int32)) hx hb dX6_makeAt_0 (by decide) ?_
  refine lv_istore_n (lv' := [(3, .int (0 : Int32)), (0, .ref (A (10, 0, 0))), (1, .int a1), (2, .int a2)]) hx hb dX6_makeAt_1 rfl hl (by decide) rfl (fun ls hl => ?_)
  have hL2 : ∀ (n : Nat) (x1 : Int32) (M2 : gM) (H : Heap) (locs : List Loc) (ls : Array Slot), gZ D (cLay N) dA (cLive N) A (gA (cLive N) A) s.heap M2 H locs → lv_has ls 4 [(0, .ref (A (10, 0, 0))), (1, .int a1), (2, .int a2), (3, .int x1)] → f_X6_makeAt_L2 N a1 a2 n x1 M2 = some y → W p l e (headSpec wmX6_makeAt ({ frames := 2, cells := 0, slots := 0, locals := 44 } : Room)).room s m args below meth c H locs 0 0 (MQ below (cQv N D dA A y) args s 0 0 (gA (cLive N) A)) (F0 m 2 ls []) := by
    intro n
    induction n with
    | zero =>
      intro x1 M2 H locs ls Z hl h
      rw [f_X6_makeAt_L2] at h
      cases h
    | succ n3 ih2 =>
      intro x1 M2 H locs ls Z hl h
      rw [f_X6_makeAt_L2] at h
      refine lv_iload_n hx hb dX6_makeAt_2 rfl (lv_at hl 3 rfl) ?_
      refine lv_aload_n hx hb dX6_makeAt_3 rfl (lv_at hl 0 rfl) ?_
      refine cr_X6_servers S X Z hin_X6 (cl_one N 10 (by decide)) hl_15 dX6_makeAt_4 ?_
      refine g_alR (i := (7, 0, 0)) (ca := 2) rfl S X Z (cl_one N 7 (by decide)) rfl dX6_makeAt_7 ?_
      refine lv_icmp_ge (tgt := 61) hx hb dX6_makeAt_8 (by decide) (fun c4 => ?_) (fun c4 => ?_)
      · have h := if_t c4 h
        have hy := Option.some.inj h
        subst hy
        exact g_rv S Z hr hlocks dX6_makeAt_61
      · have h := if_f c4 h
        refine lv_iload_n hx hb dX6_makeAt_11 rfl (lv_at hl 1 rfl) ?_
        refine lv_iload_n hx hb dX6_makeAt_12 rfl (lv_at hl 3 rfl) ?_
        obtain ⟨v6, hc5, h⟩ := o1_e h
        refine c_i X Z (c_SN (As := [.int a1, .int x1]) (rest := []) S X hN Z (t_X10_isIn l N D dA A hJ  hc5) ⟨va_cnB 2 hts (cG (cB 175 rfl)) rfl rfl rfl (hN.2 ("ReplicaFiles$Replicas", 27, yX10_isIn, "ReplicaFiles") (by decide +kernel)) (hts (.initialized RX10) (cBc 107 rfl)) (by decide +kernel) ⟨Nat.le_of_ble_eq_true rfl, Nat.le_of_ble_eq_true rfl⟩, hts (.static yX10_isIn) (cBc 178 rfl), trivial⟩ rfl hl.1 rfl (Nat.le_of_ble_eq_true rfl) dX6_makeAt_13 ⟨Nat.zero_le _, Nat.zero_le _⟩) (fun H locs Z => ?_)
        obtain ⟨J55, eJ55, h⟩ := jn_e h
        have hJ55 : ∀ (M7 : gM) (H : Heap) (locs : List Loc) (ls : Array Slot), gZ D (cLay N) dA (cLive N) A (gA (cLive N) A) s.heap M7 H locs → lv_has ls 4 [(0, .ref (A (10, 0, 0))), (1, .int a1), (2, .int a2), (3, .int x1)] → J55 M7 = some y → W p l e (headSpec wmX6_makeAt ({ frames := 2, cells := 0, slots := 0, locals := 44 } : Room)).room s m args below meth c H locs 0 0 (MQ below (cQv N D dA A y) args s 0 0 (gA (cLive N) A)) (F0 m 55 ls []) := by
          intro M7 H locs ls Z hl h
          rw [eJ55] at h
          try dsimp only at h
          obtain ⟨x8, ex8, h⟩ := lt_e h
          refine lv_iinc (v := x8) (lv' := [(3, .int x8), (0, .ref (A (10, 0, 0))), (1, .int a1), (2, .int a2)]) hx hb dX6_makeAt_55 hl (k := 3) rfl (by rw [ex8]; rfl) (by decide) rfl (fun ls hl => ?_)
          refine lv_goto (tgt := 2) hx hb dX6_makeAt_58 (by decide) ?_
          exact ih2 x8 M7 _ _ _ Z (lv_sub hl [1, 2, 3, 0] rfl) h
        refine lv_if_eq (tgt := 55) hx hb dX6_makeAt_16 (by decide) (fun c9 => ?_) (fun c9 => ?_)
        · have h := if_t c9 h
          exact hJ55 M2 _ _ _ Z (lv_sub hl [0, 1, 2, 3] rfl) h
        · have h := if_f c9 h
          refine lv_aload_n hx hb dX6_makeAt_19 rfl (lv_at hl 0 rfl) ?_
          refine cr_X6_servers S X Z hin_X6 (cl_one N 10 (by decide)) hl_15 dX6_makeAt_20 ?_
          refine lv_iload_n hx hb dX6_makeAt_23 rfl (lv_at hl 3 rfl) ?_
          refine g_aald (i := (7, 0, 0)) (ca := 2) ⟨rfl, rfl⟩ S X Z (cl_one N 7 (by decide)) rfl dX6_makeAt_24 h (fun v10 hv10 h => ?_)
          refine cn_X7_tree (a := v10) S X Z hin_X7 (cl_srv hv10) hl_31 dX6_makeAt_25 ?_
          refine lv_iload_n hx hb dX6_makeAt_28 rfl (lv_at hl 2 rfl) ?_
          obtain ⟨M12, hc11, h⟩ := o1_e h
          refine c_v X Z (c_V (i := (50, v10, 0)) (As := [.int a2]) (rest := []) S X hN Z (cl_st (cl_srv hv10)) rfl rfl (t_X8_setThere l N D dA A hJ (cl_st (cl_srv hv10)) hc11) (cwV 1 hts (cGV (cB 256 rfl) (cB 120 rfl) (cB 121 rfl) (cB 44 rfl) (cB 117 rfl)) rfl rfl rfl (by decide +kernel) ⟨Nat.le_of_ble_eq_true rfl, Nat.le_of_ble_eq_true rfl⟩) rfl hl.1 rfl (Nat.le_of_ble_eq_true rfl) dX6_makeAt_29 ⟨Nat.zero_le _, Nat.zero_le _⟩) (fun H locs Z => ?_)
          refine lv_aload_n hx hb dX6_makeAt_32 rfl (lv_at hl 0 rfl) ?_
          refine cr_X6_servers S X Z hin_X6 (cl_one N 10 (by decide)) hl_15 dX6_makeAt_33 ?_
          refine lv_iload_n hx hb dX6_makeAt_36 rfl (lv_at hl 3 rfl) ?_
          refine g_aald (i := (7, 0, 0)) (ca := 2) ⟨rfl, rfl⟩ S X Z (cl_one N 7 (by decide)) rfl dX6_makeAt_37 h (fun v13 hv13 h => ?_)
          refine cn_X7_tree (a := v13) S X Z hin_X7 (cl_srv hv13) hl_31 dX6_makeAt_38 ?_
          refine lv_iload_n hx hb dX6_makeAt_41 rfl (lv_at hl 2 rfl) ?_
          obtain ⟨M15, hc14, h⟩ := o1_e h
          refine c_v X Z (c_V (i := (50, v13, 0)) (As := [.int a2]) (rest := []) S X hN Z (cl_st (cl_srv hv13)) rfl rfl (t_X8_createCopy l N D dA A hJ (cl_st (cl_srv hv13)) hc14) (cwV 1 hts (cGV (cB 257 rfl) (cB 123 rfl) (cB 124 rfl) (cB 44 rfl) (cB 118 rfl)) rfl rfl rfl (by decide +kernel) ⟨Nat.le_of_ble_eq_true rfl, Nat.le_of_ble_eq_true rfl⟩) rfl hl.1 rfl (Nat.le_of_ble_eq_true rfl) dX6_makeAt_42 ⟨Nat.zero_le _, Nat.zero_le _⟩) (fun H locs Z => ?_)
          refine lv_aload_n hx hb dX6_makeAt_45 rfl (lv_at hl 0 rfl) ?_
          refine cr_X6_tallies S X Z hin_X6 (cl_one N 10 (by decide)) hl_23 dX6_makeAt_46 ?_
          refine lv_iconst (v := (1 : Int32)) hx hb dX6_makeAt_49 (by decide) ?_
          refine lv_dup2_11 hx hb dX6_makeAt_50 rfl rfl ?_
          refine g_iald (i := (9, 0, 0)) (n := 8) S X Z (cl_one N 9 (by decide)) rfl dX6_makeAt_51 h (fun v16 h => ?_)
          refine lv_iconst (v := (1 : Int32)) hx hb dX6_makeAt_52 (by decide) ?_
          refine lv_iadd hx hb dX6_makeAt_53 ?_
          refine g_iast (i := (9, 0, 0)) (n := 8) S X Z (cl_one N 9 (by decide)) rfl dX6_makeAt_54 h (fun M17 H locs Z h => ?_)
          exact hJ55 M17 _ _ _ Z (lv_sub hl [0, 1, 2, 3] rfl) h
  exact hL2 100 (0 : Int32) M _ _ _ Z (lv_sub hl [1, 2, 3, 0] rfl) h
