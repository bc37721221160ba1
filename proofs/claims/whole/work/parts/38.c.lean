-- X4_gatherCandidates (I)V: 83 instructions
theorem dX4_gatherCandidates_0 : decode cX4_gatherCandidates 0 = .ok (.aload_n 0, 1) := by decide +kernel
theorem dX4_gatherCandidates_1 : decode cX4_gatherCandidates 1 = .ok (.getfield 36, 3) := by decide +kernel
theorem dX4_gatherCandidates_4 : decode cX4_gatherCandidates 4 = .ok (.invokevirtual 196, 3) := by decide +kernel
theorem dX4_gatherCandidates_7 : decode cX4_gatherCandidates 7 = .ok (.aload_n 0, 1) := by decide +kernel
theorem dX4_gatherCandidates_8 : decode cX4_gatherCandidates 8 = .ok (.getfield 15, 3) := by decide +kernel
theorem dX4_gatherCandidates_11 : decode cX4_gatherCandidates 11 = .ok (.aload_n 0, 1) := by decide +kernel
theorem dX4_gatherCandidates_12 : decode cX4_gatherCandidates 12 = .ok (.getfield 44, 3) := by decide +kernel
theorem dX4_gatherCandidates_15 : decode cX4_gatherCandidates 15 = .ok (.iload_n 1, 1) := by decide +kernel
theorem dX4_gatherCandidates_16 : decode cX4_gatherCandidates 16 = .ok (.invokevirtual 85, 3) := by decide +kernel
theorem dX4_gatherCandidates_19 : decode cX4_gatherCandidates 19 = .ok (.istore_n 2, 1) := by decide +kernel
theorem dX4_gatherCandidates_20 : decode cX4_gatherCandidates 20 = .ok (.iconst 0, 1) := by decide +kernel
theorem dX4_gatherCandidates_21 : decode cX4_gatherCandidates 21 = .ok (.istore_n 3, 1) := by decide +kernel
theorem dX4_gatherCandidates_22 : decode cX4_gatherCandidates 22 = .ok (.iload_n 3, 1) := by decide +kernel
theorem dX4_gatherCandidates_23 : decode cX4_gatherCandidates 23 = .ok (.aload_n 0, 1) := by decide +kernel
theorem dX4_gatherCandidates_24 : decode cX4_gatherCandidates 24 = .ok (.getfield 30, 3) := by decide +kernel
theorem dX4_gatherCandidates_27 : decode cX4_gatherCandidates 27 = .ok (.arraylength, 1) := by decide +kernel
theorem dX4_gatherCandidates_28 : decode cX4_gatherCandidates 28 = .ok (.if_icmp .ge 130, 3) := by decide +kernel
theorem dX4_gatherCandidates_31 : decode cX4_gatherCandidates 31 = .ok (.iload_n 2, 1) := by decide +kernel
theorem dX4_gatherCandidates_32 : decode cX4_gatherCandidates 32 = .ok (.iload_n 3, 1) := by decide +kernel
theorem dX4_gatherCandidates_33 : decode cX4_gatherCandidates 33 = .ok (.invokestatic 113, 3) := by decide +kernel
theorem dX4_gatherCandidates_36 : decode cX4_gatherCandidates 36 = .ok (.ifCond .ne 6, 3) := by decide +kernel
theorem dX4_gatherCandidates_39 : decode cX4_gatherCandidates 39 = .ok (.goto 113, 3) := by decide +kernel
theorem dX4_gatherCandidates_42 : decode cX4_gatherCandidates 42 = .ok (.aload_n 0, 1) := by decide +kernel
theorem dX4_gatherCandidates_43 : decode cX4_gatherCandidates 43 = .ok (.getfield 30, 3) := by decide +kernel
theorem dX4_gatherCandidates_46 : decode cX4_gatherCandidates 46 = .ok (.iload_n 3, 1) := by decide +kernel
theorem dX4_gatherCandidates_47 : decode cX4_gatherCandidates 47 = .ok (.aaload, 1) := by decide +kernel
theorem dX4_gatherCandidates_48 : decode cX4_gatherCandidates 48 = .ok (.getfield 74, 3) := by decide +kernel
theorem dX4_gatherCandidates_51 : decode cX4_gatherCandidates 51 = .ok (.astore 4, 2) := by decide +kernel
theorem dX4_gatherCandidates_53 : decode cX4_gatherCandidates 53 = .ok (.aload_n 0, 1) := by decide +kernel
theorem dX4_gatherCandidates_54 : decode cX4_gatherCandidates 54 = .ok (.getfield 30, 3) := by decide +kernel
theorem dX4_gatherCandidates_57 : decode cX4_gatherCandidates 57 = .ok (.iload_n 3, 1) := by decide +kernel
theorem dX4_gatherCandidates_58 : decode cX4_gatherCandidates 58 = .ok (.aaload, 1) := by decide +kernel
theorem dX4_gatherCandidates_59 : decode cX4_gatherCandidates 59 = .ok (.getfield 137, 3) := by decide +kernel
theorem dX4_gatherCandidates_62 : decode cX4_gatherCandidates 62 = .ok (.iload_n 1, 1) := by decide +kernel
theorem dX4_gatherCandidates_63 : decode cX4_gatherCandidates 63 = .ok (.aaload, 1) := by decide +kernel
theorem dX4_gatherCandidates_64 : decode cX4_gatherCandidates 64 = .ok (.astore 5, 2) := by decide +kernel
theorem dX4_gatherCandidates_66 : decode cX4_gatherCandidates 66 = .ok (.aload 5, 2) := by decide +kernel
theorem dX4_gatherCandidates_68 : decode cX4_gatherCandidates 68 = .ok (.getfield 141, 3) := by decide +kernel
theorem dX4_gatherCandidates_71 : decode cX4_gatherCandidates 71 = .ok (.ifCond .ne 31, 3) := by decide +kernel
theorem dX4_gatherCandidates_74 : decode cX4_gatherCandidates 74 = .ok (.aload_n 0, 1) := by decide +kernel
theorem dX4_gatherCandidates_75 : decode cX4_gatherCandidates 75 = .ok (.getfield 36, 3) := by decide +kernel
theorem dX4_gatherCandidates_78 : decode cX4_gatherCandidates 78 = .ok (.aload 4, 2) := by decide +kernel
theorem dX4_gatherCandidates_80 : decode cX4_gatherCandidates 80 = .ok (.getfield 199, 3) := by decide +kernel
theorem dX4_gatherCandidates_83 : decode cX4_gatherCandidates 83 = .ok (.iload_n 1, 1) := by decide +kernel
theorem dX4_gatherCandidates_84 : decode cX4_gatherCandidates 84 = .ok (.iaload, 1) := by decide +kernel
theorem dX4_gatherCandidates_85 : decode cX4_gatherCandidates 85 = .ok (.aload 4, 2) := by decide +kernel
theorem dX4_gatherCandidates_87 : decode cX4_gatherCandidates 87 = .ok (.getfield 202, 3) := by decide +kernel
theorem dX4_gatherCandidates_90 : decode cX4_gatherCandidates 90 = .ok (.iload_n 1, 1) := by decide +kernel
theorem dX4_gatherCandidates_91 : decode cX4_gatherCandidates 91 = .ok (.iaload, 1) := by decide +kernel
theorem dX4_gatherCandidates_92 : decode cX4_gatherCandidates 92 = .ok (.aload 4, 2) := by decide +kernel
theorem dX4_gatherCandidates_94 : decode cX4_gatherCandidates 94 = .ok (.getfield 130, 3) := by decide +kernel
theorem dX4_gatherCandidates_97 : decode cX4_gatherCandidates 97 = .ok (.iload_n 1, 1) := by decide +kernel
theorem dX4_gatherCandidates_98 : decode cX4_gatherCandidates 98 = .ok (.aaload, 1) := by decide +kernel
theorem dX4_gatherCandidates_99 : decode cX4_gatherCandidates 99 = .ok (.invokevirtual 205, 3) := by decide +kernel
theorem dX4_gatherCandidates_102 : decode cX4_gatherCandidates 102 = .ok (.iconst 0, 1) := by decide +kernel
theorem dX4_gatherCandidates_103 : decode cX4_gatherCandidates 103 = .ok (.istore 6, 2) := by decide +kernel
theorem dX4_gatherCandidates_105 : decode cX4_gatherCandidates 105 = .ok (.iload 6, 2) := by decide +kernel
theorem dX4_gatherCandidates_107 : decode cX4_gatherCandidates 107 = .ok (.aload 5, 2) := by decide +kernel
theorem dX4_gatherCandidates_109 : decode cX4_gatherCandidates 109 = .ok (.getfield 141, 3) := by decide +kernel
theorem dX4_gatherCandidates_112 : decode cX4_gatherCandidates 112 = .ok (.if_icmp .ge 40, 3) := by decide +kernel
theorem dX4_gatherCandidates_115 : decode cX4_gatherCandidates 115 = .ok (.aload_n 0, 1) := by decide +kernel
theorem dX4_gatherCandidates_116 : decode cX4_gatherCandidates 116 = .ok (.getfield 36, 3) := by decide +kernel
theorem dX4_gatherCandidates_119 : decode cX4_gatherCandidates 119 = .ok (.aload 5, 2) := by decide +kernel
theorem dX4_gatherCandidates_121 : decode cX4_gatherCandidates 121 = .ok (.getfield 209, 3) := by decide +kernel
theorem dX4_gatherCandidates_124 : decode cX4_gatherCandidates 124 = .ok (.iload 6, 2) := by decide +kernel
theorem dX4_gatherCandidates_126 : decode cX4_gatherCandidates 126 = .ok (.iaload, 1) := by decide +kernel
theorem dX4_gatherCandidates_127 : decode cX4_gatherCandidates 127 = .ok (.aload 5, 2) := by decide +kernel
theorem dX4_gatherCandidates_129 : decode cX4_gatherCandidates 129 = .ok (.getfield 210, 3) := by decide +kernel
theorem dX4_gatherCandidates_132 : decode cX4_gatherCandidates 132 = .ok (.iload 6, 2) := by decide +kernel
theorem dX4_gatherCandidates_134 : decode cX4_gatherCandidates 134 = .ok (.iaload, 1) := by decide +kernel
theorem dX4_gatherCandidates_135 : decode cX4_gatherCandidates 135 = .ok (.aload 5, 2) := by decide +kernel
theorem dX4_gatherCandidates_137 : decode cX4_gatherCandidates 137 = .ok (.getfield 144, 3) := by decide +kernel
theorem dX4_gatherCandidates_140 : decode cX4_gatherCandidates 140 = .ok (.iload 6, 2) := by decide +kernel
theorem dX4_gatherCandidates_142 : decode cX4_gatherCandidates 142 = .ok (.aaload, 1) := by decide +kernel
theorem dX4_gatherCandidates_143 : decode cX4_gatherCandidates 143 = .ok (.invokevirtual 205, 3) := by decide +kernel
theorem dX4_gatherCandidates_146 : decode cX4_gatherCandidates 146 = .ok (.iinc 6 1, 3) := by decide +kernel
theorem dX4_gatherCandidates_149 : decode cX4_gatherCandidates 149 = .ok (.goto (-44), 3) := by decide +kernel
theorem dX4_gatherCandidates_152 : decode cX4_gatherCandidates 152 = .ok (.iinc 3 1, 3) := by decide +kernel
theorem dX4_gatherCandidates_155 : decode cX4_gatherCandidates 155 = .ok (.goto (-133), 3) := by decide +kernel
theorem dX4_gatherCandidates_158 : decode cX4_gatherCandidates 158 = .ok (.aload_n 0, 1) := by decide +kernel
theorem dX4_gatherCandidates_159 : decode cX4_gatherCandidates 159 = .ok (.getfield 36, 3) := by decide +kernel
theorem dX4_gatherCandidates_162 : decode cX4_gatherCandidates 162 = .ok (.invokevirtual 211, 3) := by decide +kernel
theorem dX4_gatherCandidates_165 : decode cX4_gatherCandidates 165 = .ok (.return_, 1) := by decide +kernel
abbrev wmX4_gatherCandidates : List Cond := .code yX4_gatherCandidates cX4_gatherCandidates 7 none :: cBig
def f_X4_gatherCandidates_L105 (N : Nat) (a1 : Int32) (v5 : Int32) (x9 : Int32) (v19 : Nat) (v20 : Nat) (J152 : gM → Option gM) (J158 : gM → Option gM) : Nat → Int32 → gM → Option gM
  | 0, _, _ => none
  | n25 + 1, x23, M24 => lt (M24 (60, (48 * v19 + v20), 0) 3) (fun v26 => (if v26 ≤ x23 then J152 M24 else rd M24 (61, (48 * v19 + v20), 0) (cMost (48 * v19 + v20)) x23 (fun v28 => rd M24 (62, (48 * v19 + v20), 0) (cMost (48 * v19 + v20)) x23 (fun v29 => ix x23 (cMost (48 * v19 + v20)) (fun v30 => o1 (f_X9_addOnce N M24 192 v28 v29 (64, (48 * v19 + v20), v30)) (fun M32 => lt (x23 + 1) (fun x33 => f_X4_gatherCandidates_L105 N a1 v5 x9 v19 v20 J152 J158 n25 x33 M32)))))))
def f_X4_gatherCandidates_L22 (N : Nat) (a1 : Int32) (v5 : Int32) (J158 : gM → Option gM) : Nat → Int32 → gM → Option gM
  | 0, _, _ => none
  | n11 + 1, x9, M10 => (if (nI N) ≤ x9 then J158 M10 else o1 (f_X10_isIn N M10 v5 x9) (fun v14 => jn (fun (M15 : gM) => lt (x9 + 1) (fun x16 => f_X4_gatherCandidates_L22 N a1 v5 J158 n11 x16 M15)) (fun J152 => (if v14 = 0 then J152 M10 else ix x9 N (fun v18 => ix x9 N (fun v19 => ix a1 48 (fun v20 => lt (M10 (60, (48 * v19 + v20), 0) 3) (fun v21 => jn (fun (M22 : gM) => f_X4_gatherCandidates_L105 N a1 v5 x9 v19 v20 J152 J158 100 (0 : Int32) M22) (fun J102 => (if v21 = 0 then rd M10 (52, v18, 0) 48 a1 (fun v35 => rd M10 (53, v18, 0) 48 a1 (fun v36 => ix a1 48 (fun v37 => o1 (f_X9_addOnce N M10 192 v35 v36 (55, v18, v37)) (fun M39 => J102 M39)))) else J102 M10))))))))))
def f_X4_gatherCandidates (N : Nat) (M : gM) (a1 : Int32) : Option gM :=
  o1 (f_X9_clear N M 192) (fun M2 => lt (M2 (13, 0, 0) 6) (fun v3 => o1 (f_X6_holders N M2 v3 a1) (fun v5 => jn (fun (M6 : gM) => o1 (f_X9_leaveOutLesser N M6 192) (fun M8 => some M8)) (fun J158 => f_X4_gatherCandidates_L22 N a1 v5 J158 100 (0 : Int32) M2))))
set_option maxHeartbeats 4000000 in
set_option maxRecDepth 100000 in
theorem t_X4_gatherCandidates (l : Launch) (N : Nat) (D : va_G) (dA : Nat → ClassId) (A : gI → Nat) (hJ : gJ (cLive N) A) {M : gM} {a1 : Int32}  {y : gM} (h : f_X4_gatherCandidates N M a1 = some y) : cMv l yX4_gatherCandidates wmX4_gatherCandidates ({ frames := 3, cells := 0, slots := 0, locals := 70 } : Room) N D dA A [.ref (A (13, 0, 0)), .int a1] M y := by
  refine Met.ofW (cc := cX4_gatherCandidates) (maxL := 7) (ret := none) (by decide) rfl ?_
  intro p e s m args below meth c s₁ B hml hv
  obtain ⟨rfl, hP, hK, hN⟩ := hv
  generalize hargs : ([.ref (A (13, 0, 0)), .int a1] : List Value).toArray = args at B ⊢
  have S : CallFix p m c cX4_gatherCandidates 7 s args wmX4_gatherCandidates RX4 := ⟨B.exec, B.bytes, hml, findClass_of_methodNamed B.named, atoms_spec (ws := wmX4_gatherCandidates) B.pre⟩
  obtain ⟨hx, hb, -, hown, hts⟩ := id S
  have hr := B.returns
  have hlocks := B.notSynchronized
  have X : gX D vwCl dA (cLive N) A (gA (cLive N) A) s := ⟨hK, hJ, fun i hi => ⟨i, hi, rfl⟩⟩
  have Z : gZ D (cLay N) dA (cLive N) A (gA (cLive N) A) s.heap M s.heap [] := ⟨hP, va_S.rf⟩
  have hin_X4 : ∀ w ∈ wsX40, w ∈ wmX4_gatherCandidates := cin_X4
  have hin_X7 : ∀ w ∈ wsX70, w ∈ wmX4_gatherCandidates := cin_X7
  have hin_X8 : ∀ w ∈ wsX80, w ∈ wmX4_gatherCandidates := cin_X8
  have hin_X9 : ∀ w ∈ wsX90, w ∈ wmX4_gatherCandidates := cin_X9
  have hl_15 := hts (.fieldLink RX4 15 "ReplicaFiles$Meeting" "replicas" "LReplicaFiles$Replicas;") (cBc 323 rfl)
  have hl_30 := hts (.fieldLink RX4 30 "ReplicaFiles$Meeting" "servers" "[LReplicaFiles$Server;") (cBc 325 rfl)
  have hl_36 := hts (.fieldLink RX4 36 "ReplicaFiles$Meeting" "candidates" "LReplicaFiles$Versions;") (cBc 328 rfl)
  have hl_44 := hts (.fieldLink RX4 44 "ReplicaFiles$Meeting" "group" "I") (cBc 333 rfl)
  have hl_74 := va_Nw.use (A := args) rfl (hN.1 ("ReplicaFiles$Meeting", 74, "ReplicaFiles$Server", "tree", "LReplicaFiles$Tree;", "ReplicaFiles") (by decide +kernel))
  have hl_130 := va_Nw.use (A := args) rfl (hN.1 ("ReplicaFiles$Meeting", 130, "ReplicaFiles$Tree", "counts", "[[I", "ReplicaFiles") (by decide +kernel))
  have hl_137 := va_Nw.use (A := args) rfl (hN.1 ("ReplicaFiles$Meeting", 137, "ReplicaFiles$Server", "versions", "[LReplicaFiles$Versions;", "ReplicaFiles") (by decide +kernel))
  have hl_141 := va_Nw.use (A := args) rfl (hN.1 ("ReplicaFiles$Meeting", 141, "ReplicaFiles$Versions", "length", "I", "ReplicaFiles") (by decide +kernel))
  have hl_144 := va_Nw.use (A := args) rfl (hN.1 ("ReplicaFiles$Meeting", 144, "ReplicaFiles$Versions", "counts", "[[I", "ReplicaFiles") (by decide +kernel))
  have hl_199 := va_Nw.use (A := args) rfl (hN.1 ("ReplicaFiles$Meeting", 199, "ReplicaFiles$Tree", "value", "[I", "ReplicaFiles") (by decide +kernel))
  have hl_202 := va_Nw.use (A := args) rfl (hN.1 ("ReplicaFiles$Meeting", 202, "ReplicaFiles$Tree", "size", "[I", "ReplicaFiles") (by decide +kernel))
  have hl_209 := va_Nw.use (A := args) rfl (hN.1 ("ReplicaFiles$Meeting", 209, "ReplicaFiles$Versions", "value", "[I", "ReplicaFiles") (by decide +kernel))
  have hl_210 := va_Nw.use (A := args) rfl (hN.1 ("ReplicaFiles$Meeting", 210, "ReplicaFiles$Versions", "size", "[I", "ReplicaFiles") (by decide +kernel))
  have hl := lv_entry ([.ref (A (13, 0, 0)), .int a1]) (n := 7) (Nat.le_of_ble_eq_true rfl)
  rw [← hargs, lg_entry_eq, hargs]
  generalize (lg_sl ([.ref (A (13, 0, 0)), .int a1]) ++ List.replicate (7 - (lg_sl ([.ref (A (13, 0, 0)), .int a1])).length) Slot.unset).toArray = ls at hl ⊢
  have hl : lv_has ls 7 [(0, .ref (A (13, 0, 0))), (1, .int a1)] := hl
  unfold f_X4_gatherCandidates at h
  refine lv_aload_n hx hb dX4_gatherCandidates_0 rfl (lv_at hl 0 rfl) ?_
  refine cr_X4_candidates S X Z hin_X4 (cl_one N 13 (by decide)) hl_36 dX4_gatherCandidates_1 ?_
  obtain ⟨M2, hc1, h⟩ := o1_e h
  refine c_v X Z (c_V (i := (60, 192, 0)) (As := []) (rest := []) S X hN Z (cl_cand N) rfl rfl (t_X9_clear l N D dA A hJ (cl_cand N) hc1) (cwV 0 hts (cGV (cB 420 rfl) (cB 278 rfl) (cB 279 rfl) (cB 191 rfl) (cB 274 rfl)) rfl rfl rfl (by decide +kernel) ⟨Nat.le_of_ble_eq_true rfl, Nat.le_of_ble_eq_true rfl⟩) rfl hl.1 rfl (Nat.le_of_ble_eq_true rfl) dX4_gatherCandidates_4 ⟨Nat.zero_le _, Nat.zero_le _⟩) (fun H locs Z => ?_)
  refine lv_aload_n hx hb dX4_gatherCandidates_7 rfl (lv_at hl 0 rfl) ?_
  refine cr_X4_replicas S X Z hin_X4 (cl_one N 13 (by decide)) hl_15 dX4_gatherCandidates_8 ?_
  refine lv_aload_n hx hb dX4_gatherCandidates_11 rfl (lv_at hl 0 rfl) ?_
  refine cr_X4_group S X Z hin_X4 (cl_one N 13 (by decide)) hl_44 dX4_gatherCandidates_12 h (fun v3 h => ?_)
  refine lv_iload_n hx hb dX4_gatherCandidates_15 rfl (lv_at hl 1 rfl) ?_
  obtain ⟨v5, hc4, h⟩ := o1_e h
  refine c_i X Z (c_V (i := (10, 0, 0)) (As := [.int v3, .int a1]) (rest := []) S X hN Z (cl_one N 10 (by decide)) rfl rfl (t_X6_holders l N D dA A hJ  hc4) (cwV 2 hts (cGV (cB 337 rfl) (cB 225 rfl) (cB 226 rfl) (cB 203 rfl) (cB 222 rfl)) rfl rfl rfl (by decide +kernel) ⟨Nat.le_of_ble_eq_true rfl, Nat.le_of_ble_eq_true rfl⟩) rfl hl.1 rfl (Nat.le_of_ble_eq_true rfl) dX4_gatherCandidates_16 ⟨Nat.zero_le _, Nat.zero_le _⟩) (fun H locs Z => ?_)
  refine lv_istore_n (lv' := [(2, .int v5), (0, .ref (A (13, 0, 0))), (1, .int a1)]) hx hb dX4_gatherCandidates_19 rfl hl (by decide) rfl (fun ls hl => ?_)
  refine lv_iconst (v := (0 : Int32)) hx hb dX4_gatherCandidates_20 (by decide) ?_
  refine lv_istore_n (lv' := [(3, .int (0 : Int32)), (2, .int v5), (0, .ref (A (13, 0, 0))), (1, .int a1)]) hx hb dX4_gatherCandidates_21 rfl hl (by decide) rfl (fun ls hl => ?_)
  obtain ⟨J158, eJ158, h⟩ := jn_e h
  have hJ158 : ∀ (M6 : gM) (H : Heap) (locs : List Loc) (ls : Array Slot), gZ D (cLay N) dA (cLive N) A (gA (cLive N) A) s.heap M6 H locs → lv_has ls 7 [(0, .ref (A (13, 0, 0)))] → J158 M6 = some y → W p l e (headSpec wmX4_gatherCandidates ({ frames := 3, cells := 0, slots := 0, locals := 70 } : Room)).room s m args below meth c H locs 0 0 (MQ below (cQv N D dA A y) args s 0 0 (gA (cLive N) A)) (F0 m 158 ls []) := by
    intro M6 H locs ls Z hl h
    rw [eJ158] at h
    try dsimp only at h
    refine lv_aload_n hx hb dX4_gatherCandidates_158 rfl (lv_at hl 0 rfl) ?_
    refine cr_X4_candidates S X Z hin_X4 (cl_one N 13 (by decide)) hl_36 dX4_gatherCandidates_159 ?_
    obtain ⟨M8, hc7, h⟩ := o1_e h
    refine c_v X Z (c_V (i := (60, 192, 0)) (As := []) (rest := []) S X hN Z (cl_cand N) rfl rfl (t_X9_leaveOutLesser l N D dA A hJ (cl_cand N) hc7) (cwV 0 hts (cGV (cB 424 rfl) (cB 425 rfl) (cB 426 rfl) (cB 191 rfl) (cB 413 rfl)) rfl rfl rfl (by decide +kernel) ⟨Nat.le_of_ble_eq_true rfl, Nat.le_of_ble_eq_true rfl⟩) rfl hl.1 rfl (Nat.le_of_ble_eq_true rfl) dX4_gatherCandidates_162 ⟨Nat.zero_le _, Nat.zero_le _⟩) (fun H locs Z => ?_)
    have hy := Option.some.inj h
    subst hy
    exact g_rv S Z hr hlocks dX4_gatherCandidates_165
  have hL22 : ∀ (n : Nat) (x9 : Int32) (M10 : gM) (H : Heap) (locs : List Loc) (ls : Array Slot), gZ D (cLay N) dA (cLive N) A (gA (cLive N) A) s.heap M10 H locs → lv_has ls 7 [(0, .ref (A (13, 0, 0))), (1, .int a1), (2, .int v5), (3, .int x9)] → f_X4_gatherCandidates_L22 N a1 v5 J158 n x9 M10 = some y → W p l e (headSpec wmX4_gatherCandidates ({ frames := 3, cells := 0, slots := 0, locals := 70 } : Room)).room s m args below meth c H locs 0 0 (MQ below (cQv N D dA A y) args s 0 0 (gA (cLive N) A)) (F0 m 22 ls []) := by
    intro n
    induction n with
    | zero =>
      intro x9 M10 H locs ls Z hl h
      rw [f_X4_gatherCandidates_L22] at h
      cases h
    | succ n11 ih22 =>
      intro x9 M10 H locs ls Z hl h
      rw [f_X4_gatherCandidates_L22] at h
      refine lv_iload_n hx hb dX4_gatherCandidates_22 rfl (lv_at hl 3 rfl) ?_
      refine lv_aload_n hx hb dX4_gatherCandidates_23 rfl (lv_at hl 0 rfl) ?_
      refine cr_X4_servers S X Z hin_X4 (cl_one N 13 (by decide)) hl_30 dX4_gatherCandidates_24 ?_
      refine g_alR (i := (7, 0, 0)) (ca := 2) rfl S X Z (cl_one N 7 (by decide)) rfl dX4_gatherCandidates_27 ?_
      refine lv_icmp_ge (tgt := 158) hx hb dX4_gatherCandidates_28 (by decide) (fun c12 => ?_) (fun c12 => ?_)
      · have h := if_t c12 h
        exact hJ158 M10 _ _ _ Z (lv_sub hl [0] rfl) h
      · have h := if_f c12 h
        refine lv_iload_n hx hb dX4_gatherCandidates_31 rfl (lv_at hl 2 rfl) ?_
        refine lv_iload_n hx hb dX4_gatherCandidates_32 rfl (lv_at hl 3 rfl) ?_
        obtain ⟨v14, hc13, h⟩ := o1_e h
        refine c_i X Z (c_SN (As := [.int v5, .int x9]) (rest := []) S X hN Z (t_X10_isIn l N D dA A hJ  hc13) ⟨va_cnB 2 hts (cG (cB 175 rfl)) rfl rfl rfl (hN.2 ("ReplicaFiles$Meeting", 113, yX10_isIn, "ReplicaFiles") (by decide +kernel)) (hts (.initialized RX10) (cBc 107 rfl)) (by decide +kernel) ⟨Nat.le_of_ble_eq_true rfl, Nat.le_of_ble_eq_true rfl⟩, hts (.static yX10_isIn) (cBc 178 rfl), trivial⟩ rfl hl.1 rfl (Nat.le_of_ble_eq_true rfl) dX4_gatherCandidates_33 ⟨Nat.zero_le _, Nat.zero_le _⟩) (fun H locs Z => ?_)
        obtain ⟨J152, eJ152, h⟩ := jn_e h
        have hJ152 : ∀ (M15 : gM) (H : Heap) (locs : List Loc) (ls : Array Slot), gZ D (cLay N) dA (cLive N) A (gA (cLive N) A) s.heap M15 H locs → lv_has ls 7 [(0, .ref (A (13, 0, 0))), (1, .int a1), (2, .int v5), (3, .int x9)] → J152 M15 = some y → W p l e (headSpec wmX4_gatherCandidates ({ frames := 3, cells := 0, slots := 0, locals := 70 } : Room)).room s m args below meth c H locs 0 0 (MQ below (cQv N D dA A y) args s 0 0 (gA (cLive N) A)) (F0 m 152 ls []) := by
          intro M15 H locs ls Z hl h
          rw [eJ152] at h
          try dsimp only at h
          obtain ⟨x16, ex16, h⟩ := lt_e h
          refine lv_iinc (v := x16) (lv' := [(3, .int x16), (0, .ref (A (13, 0, 0))), (1, .int a1), (2, .int v5)]) hx hb dX4_gatherCandidates_152 hl (k := 3) rfl (by rw [ex16]; rfl) (by decide) rfl (fun ls hl => ?_)
          refine lv_goto (tgt := 22) hx hb dX4_gatherCandidates_155 (by decide) ?_
          exact ih22 x16 M15 _ _ _ Z (lv_sub hl [1, 2, 3, 0] rfl) h
        refine lv_if_ne (tgt := 42) hx hb dX4_gatherCandidates_36 (by decide) (fun c17 => ?_) (fun c17 => ?_)
        · have h := if_f c17 h
          refine lv_aload_n hx hb dX4_gatherCandidates_42 rfl (lv_at hl 0 rfl) ?_
          refine cr_X4_servers S X Z hin_X4 (cl_one N 13 (by decide)) hl_30 dX4_gatherCandidates_43 ?_
          refine lv_iload_n hx hb dX4_gatherCandidates_46 rfl (lv_at hl 3 rfl) ?_
          refine g_aald (i := (7, 0, 0)) (ca := 2) ⟨rfl, rfl⟩ S X Z (cl_one N 7 (by decide)) rfl dX4_gatherCandidates_47 h (fun v18 hv18 h => ?_)
          refine cn_X7_tree (a := v18) S X Z hin_X7 (cl_srv hv18) hl_74 dX4_gatherCandidates_48 ?_
          refine lv_astore (lv' := [(4, .ref (A (50, v18, 0))), (0, .ref (A (13, 0, 0))), (1, .int a1), (2, .int v5), (3, .int x9)]) hx hb dX4_gatherCandidates_51 hl (by decide) rfl (fun ls hl => ?_)
          refine lv_aload_n hx hb dX4_gatherCandidates_53 rfl (lv_at hl 1 rfl) ?_
          refine cr_X4_servers S X Z hin_X4 (cl_one N 13 (by decide)) hl_30 dX4_gatherCandidates_54 ?_
          refine lv_iload_n hx hb dX4_gatherCandidates_57 rfl (lv_at hl 4 rfl) ?_
          refine g_aald (i := (7, 0, 0)) (ca := 2) ⟨rfl, rfl⟩ S X Z (cl_one N 7 (by decide)) rfl dX4_gatherCandidates_58 h (fun v19 hv19 h => ?_)
          refine cn_X7_versions (a := v19) S X Z hin_X7 (cl_srv hv19) hl_137 dX4_gatherCandidates_59 ?_
          refine lv_iload_n hx hb dX4_gatherCandidates_62 rfl (lv_at hl 2 rfl) ?_
          refine g_aald (i := (21, v19, 0)) (ca := 4) ⟨rfl, rfl⟩ S X Z (cl_X7_versions (cl_srv hv19)) rfl dX4_gatherCandidates_63 h (fun v20 hv20 h => ?_)
          refine lv_astore (lv' := [(5, .ref (A (60, (48 * v19 + v20), 0))), (4, .ref (A (50, v18, 0))), (0, .ref (A (13, 0, 0))), (1, .int a1), (2, .int v5), (3, .int x9)]) hx hb dX4_gatherCandidates_64 hl (by decide) rfl (fun ls hl => ?_)
          refine lv_aload hx hb dX4_gatherCandidates_66 (lv_at hl 0 rfl) ?_
          refine cn_X9_length (a := (48 * v19 + v20)) S X Z hin_X9 (cl_ver (cl_X7_versions (cl_srv hv19)) hv20) hl_141 dX4_gatherCandidates_68 h (fun v21 h => ?_)
          obtain ⟨J102, eJ102, h⟩ := jn_e h
          have hJ102 : ∀ (M22 : gM) (H : Heap) (locs : List Loc) (ls : Array Slot), gZ D (cLay N) dA (cLive N) A (gA (cLive N) A) s.heap M22 H locs → lv_has ls 7 [(0, .ref (A (13, 0, 0))), (1, .int a1), (2, .int v5), (3, .int x9), (5, .ref (A (60, (48 * v19 + v20), 0)))] → J102 M22 = some y → W p l e (headSpec wmX4_gatherCandidates ({ frames := 3, cells := 0, slots := 0, locals := 70 } : Room)).room s m args below meth c H locs 0 0 (MQ below (cQv N D dA A y) args s 0 0 (gA (cLive N) A)) (F0 m 102 ls []) := by
            intro M22 H locs ls Z hl h
            rw [eJ102] at h
            try dsimp only at h
            refine lv_iconst (v := (0 : Int32)) hx hb dX4_gatherCandidates_102 (by decide) ?_
            refine lv_istore (lv' := [(6, .int (0 : Int32)), (0, .ref (A (13, 0, 0))), (1, .int a1), (2, .int v5), (3, .int x9), (5, .ref (A (60, (48 * v19 + v20), 0)))]) hx hb dX4_gatherCandidates_103 hl (by decide) rfl (fun ls hl => ?_)
            have hL105 : ∀ (n : Nat) (x23 : Int32) (M24 : gM) (H : Heap) (locs : List Loc) (ls : Array Slot), gZ D (cLay N) dA (cLive N) A (gA (cLive N) A) s.heap M24 H locs → lv_has ls 7 [(0, .ref (A (13, 0, 0))), (1, .int a1), (2, .int v5), (3, .int x9), (5, .ref (A (60, (48 * v19 + v20), 0))), (6, .int x23)] → f_X4_gatherCandidates_L105 N a1 v5 x9 v19 v20 J152 J158 n x23 M24 = some y → W p l e (headSpec wmX4_gatherCandidates ({ frames := 3, cells := 0, slots := 0, locals := 70 } : Room)).room s m args below meth c H locs 0 0 (MQ below (cQv N D dA A y) args s 0 0 (gA (cLive N) A)) (F0 m 105 ls []) := by
              intro n
              induction n with
              | zero =>
                intro x23 M24 H locs ls Z hl h
                rw [f_X4_gatherCandidates_L105] at h
                cases h
              | succ n25 ih105 =>
                intro x23 M24 H locs ls Z hl h
                rw [f_X4_gatherCandidates_L105] at h
                refine lv_iload hx hb dX4_gatherCandidates_105 (lv_at hl 5 rfl) ?_
                refine lv_aload hx hb dX4_gatherCandidates_107 (lv_at hl 4 rfl) ?_
                refine cn_X9_length (a := (48 * v19 + v20)) S X Z hin_X9 (cl_ver (cl_X7_versions (cl_srv hv19)) hv20) hl_141 dX4_gatherCandidates_109 h (fun v26 h => ?_)
                refine lv_icmp_ge (tgt := 152) hx hb dX4_gatherCandidates_112 (by decide) (fun c27 => ?_) (fun c27 => ?_)
                · have h := if_t c27 h
                  exact hJ152 M24 _ _ _ Z (lv_sub hl [0, 1, 2, 3] rfl) h
                · have h := if_f c27 h
                  refine lv_aload_n hx hb dX4_gatherCandidates_115 rfl (lv_at hl 0 rfl) ?_
                  refine cr_X4_candidates S X Z hin_X4 (cl_one N 13 (by decide)) hl_36 dX4_gatherCandidates_116 ?_
                  refine lv_aload hx hb dX4_gatherCandidates_119 (lv_at hl 4 rfl) ?_
                  refine cn_X9_value (a := (48 * v19 + v20)) S X Z hin_X9 (cl_ver (cl_X7_versions (cl_srv hv19)) hv20) hl_209 dX4_gatherCandidates_121 ?_
                  refine lv_iload hx hb dX4_gatherCandidates_124 (lv_at hl 5 rfl) ?_
                  refine g_iald (i := (61, (48 * v19 + v20), 0)) (n := (cMost (48 * v19 + v20))) S X Z (cl_X9_value (cl_ver (cl_X7_versions (cl_srv hv19)) hv20)) rfl dX4_gatherCandidates_126 h (fun v28 h => ?_)
                  refine lv_aload hx hb dX4_gatherCandidates_127 (lv_at hl 4 rfl) ?_
                  refine cn_X9_size (a := (48 * v19 + v20)) S X Z hin_X9 (cl_ver (cl_X7_versions (cl_srv hv19)) hv20) hl_210 dX4_gatherCandidates_129 ?_
                  refine lv_iload hx hb dX4_gatherCandidates_132 (lv_at hl 5 rfl) ?_
                  refine g_iald (i := (62, (48 * v19 + v20), 0)) (n := (cMost (48 * v19 + v20))) S X Z (cl_X9_size (cl_ver (cl_X7_versions (cl_srv hv19)) hv20)) rfl dX4_gatherCandidates_134 h (fun v29 h => ?_)
                  refine lv_aload hx hb dX4_gatherCandidates_135 (lv_at hl 4 rfl) ?_
                  refine cn_X9_counts (a := (48 * v19 + v20)) S X Z hin_X9 (cl_ver (cl_X7_versions (cl_srv hv19)) hv20) hl_144 dX4_gatherCandidates_137 ?_
                  refine lv_iload hx hb dX4_gatherCandidates_140 (lv_at hl 5 rfl) ?_
                  refine g_aald (i := (63, (48 * v19 + v20), 0)) (ca := 5) ⟨rfl, rfl⟩ S X Z (cl_X9_counts (cl_ver (cl_X7_versions (cl_srv hv19)) hv20)) rfl dX4_gatherCandidates_142 h (fun v30 hv30 h => ?_)
                  obtain ⟨M32, hc31, h⟩ := o1_e h
                  refine c_v X Z (c_V (i := (60, 192, 0)) (As := [.int v28, .int v29, .ref (A (64, (48 * v19 + v20), v30))]) (rest := []) S X hN Z (cl_cand N) rfl rfl (t_X9_addOnce l N D dA A hJ (cl_cand N) ⟨(cl_64 (cl_X9_counts (cl_ver (cl_X7_versions (cl_srv hv19)) hv20)) hv30), rfl⟩ hc31) (cwV 3 hts (cGV (cB 421 rfl) (cB 422 rfl) (cB 423 rfl) (cB 191 rfl) (cB 409 rfl)) rfl rfl rfl (by decide +kernel) ⟨Nat.le_of_ble_eq_true rfl, Nat.le_of_ble_eq_true rfl⟩) rfl hl.1 rfl (Nat.le_of_ble_eq_true rfl) dX4_gatherCandidates_143 ⟨Nat.zero_le _, Nat.zero_le _⟩) (fun H locs Z => ?_)
                  obtain ⟨x33, ex33, h⟩ := lt_e h
                  refine lv_iinc (v := x33) (lv' := [(6, .int x33), (0, .ref (A (13, 0, 0))), (1, .int a1), (2, .int v5), (3, .int x9), (5, .ref (A (60, (48 * v19 + v20), 0)))]) hx hb dX4_gatherCandidates_146 hl (k := 5) rfl (by rw [ex33]; rfl) (by decide) rfl (fun ls hl => ?_)
                  refine lv_goto (tgt := 105) hx hb dX4_gatherCandidates_149 (by decide) ?_
                  exact ih105 x33 M32 _ _ _ Z (lv_sub hl [1, 2, 3, 4, 5, 0] rfl) h
            exact hL105 100 (0 : Int32) M22 _ _ _ Z (lv_sub hl [1, 2, 3, 4, 5, 0] rfl) h
          refine lv_if_ne (tgt := 102) hx hb dX4_gatherCandidates_71 (by decide) (fun c34 => ?_) (fun c34 => ?_)
          · have h := if_f c34 h
            exact hJ102 M10 _ _ _ Z (lv_sub hl [2, 3, 4, 5, 0] rfl) h
          · have h := if_t c34 h
            refine lv_aload_n hx hb dX4_gatherCandidates_74 rfl (lv_at hl 2 rfl) ?_
            refine cr_X4_candidates S X Z hin_X4 (cl_one N 13 (by decide)) hl_36 dX4_gatherCandidates_75 ?_
            refine lv_aload hx hb dX4_gatherCandidates_78 (lv_at hl 1 rfl) ?_
            refine cn_X8_value (a := v18) S X Z hin_X8 (cl_st (cl_srv hv18)) hl_199 dX4_gatherCandidates_80 ?_
            refine lv_iload_n hx hb dX4_gatherCandidates_83 rfl (lv_at hl 3 rfl) ?_
            refine g_iald (i := (52, v18, 0)) (n := 48) S X Z (cl_X8_value (cl_st (cl_srv hv18))) rfl dX4_gatherCandidates_84 h (fun v35 h => ?_)
            refine lv_aload hx hb dX4_gatherCandidates_85 (lv_at hl 1 rfl) ?_
            refine cn_X8_size (a := v18) S X Z hin_X8 (cl_st (cl_srv hv18)) hl_202 dX4_gatherCandidates_87 ?_
            refine lv_iload_n hx hb dX4_gatherCandidates_90 rfl (lv_at hl 3 rfl) ?_
            refine g_iald (i := (53, v18, 0)) (n := 48) S X Z (cl_X8_size (cl_st (cl_srv hv18))) rfl dX4_gatherCandidates_91 h (fun v36 h => ?_)
            refine lv_aload hx hb dX4_gatherCandidates_92 (lv_at hl 1 rfl) ?_
            refine cn_X8_counts (a := v18) S X Z hin_X8 (cl_st (cl_srv hv18)) hl_130 dX4_gatherCandidates_94 ?_
            refine lv_iload_n hx hb dX4_gatherCandidates_97 rfl (lv_at hl 3 rfl) ?_
            refine g_aald (i := (54, v18, 0)) (ca := 5) ⟨rfl, rfl⟩ S X Z (cl_X8_counts (cl_st (cl_srv hv18))) rfl dX4_gatherCandidates_98 h (fun v37 hv37 h => ?_)
            obtain ⟨M39, hc38, h⟩ := o1_e h
            refine c_v X Z (c_V (i := (60, 192, 0)) (As := [.int v35, .int v36, .ref (A (55, v18, v37))]) (rest := []) S X hN Z (cl_cand N) rfl rfl (t_X9_addOnce l N D dA A hJ (cl_cand N) ⟨(cl_55 (cl_X8_counts (cl_st (cl_srv hv18))) hv37), rfl⟩ hc38) (cwV 3 hts (cGV (cB 421 rfl) (cB 422 rfl) (cB 423 rfl) (cB 191 rfl) (cB 409 rfl)) rfl rfl rfl (by decide +kernel) ⟨Nat.le_of_ble_eq_true rfl, Nat.le_of_ble_eq_true rfl⟩) rfl hl.1 rfl (Nat.le_of_ble_eq_true rfl) dX4_gatherCandidates_99 ⟨Nat.zero_le _, Nat.zero_le _⟩) (fun H locs Z => ?_)
            exact hJ102 M39 _ _ _ Z (lv_sub hl [2, 3, 4, 5, 0] rfl) h
        · have h := if_t c17 h
          refine lv_goto (tgt := 152) hx hb dX4_gatherCandidates_39 (by decide) ?_
          exact hJ152 M10 _ _ _ Z (lv_sub hl [0, 1, 2, 3] rfl) h
  exact hL22 100 (0 : Int32) M2 _ _ _ Z (lv_sub hl [2, 3, 1, 0] rfl) h
-- X9_has (I)Z: 10 instructions
theorem dX9_has_0 : decode cX9_has 0 = .ok (.iload_n 1, 1) := by decide +kernel
theorem dX9_has_1 : decode cX9_has 1 = .ok (.ifCond .lt 15, 3) := by decide +kernel
theorem dX9_has_4 : decode cX9_has 4 = .ok (.iload_n 1, 1) := by decide +kernel
theorem dX9_has_5 : decode cX9_has 5 = .ok (.aload_n 0, 1) := by decide +kernel
theorem dX9_has_6 : decode cX9_has 6 = .ok (.getfield 21, 3) := by decide +kernel
theorem dX9_has_9 : decode cX9_has 9 = .ok (.if_icmp .ge 7, 3) := by decide +kernel
theorem dX9_has_12 : decode cX9_has 12 = .ok (.iconst 1, 1) := by decide +kernel
theorem dX9_has_13 : decode cX9_has 13 = .ok (.goto 4, 3) := by decide +kernel
theorem dX9_has_16 : decode cX9_has 16 = .ok (.iconst 0, 1) := by decide +kernel
theorem dX9_has_17 : decode cX9_has 17 = .ok (.ireturn, 1) := by decide +kernel
abbrev wmX9_has : List Cond := .code yX9_has cX9_has 2 (some .boolean) :: cBig
def f_X9_has (N : Nat) (M : gM) (i0 : Nat) (a1 : Int32) : Option Int32 :=
  (if a1 < 0 then some (0 : Int32) else lt (M (60, i0, 0) 3) (fun v2 => (if v2 ≤ a1 then some (0 : Int32) else some (1 : Int32))))
set_option maxHeartbeats 4000000 in
set_option maxRecDepth 100000 in
theorem t_X9_has (l : Launch) (N : Nat) (D : va_G) (dA : Nat → ClassId) (A : gI → Nat) (hJ : gJ (cLive N) A) {M : gM} {i0 : Nat} {a1 : Int32} (hi0 : cLive N (60, i0, 0)) {y : Int32} (h : f_X9_has N M i0 a1 = some y) : cMi l yX9_has wmX9_has ({ frames := 0, cells := 0, slots := 0, locals := 0 } : Room) N D dA A [.ref (A (60, i0, 0)), .int a1] M y M := by
  refine Met.ofW (cc := cX9_has) (maxL := 2) (ret := (some .boolean)) (by decide) rfl ?_
  intro p e s m args below meth c s₁ B hml hv
  obtain ⟨rfl, hP, hK, hN⟩ := hv
  generalize hargs : ([.ref (A (60, i0, 0)), .int a1] : List Value).toArray = args at B ⊢
  have S : CallFix p m c cX9_has 2 s args wmX9_has RX9 := ⟨B.exec, B.bytes, hml, findClass_of_methodNamed B.named, atoms_spec (ws := wmX9_has) B.pre⟩
  obtain ⟨hx, hb, -, hown, hts⟩ := id S
  have hr := B.returns
  have hlocks := B.notSynchronized
  have X : gX D vwCl dA (cLive N) A (gA (cLive N) A) s := ⟨hK, hJ, fun i hi => ⟨i, hi, rfl⟩⟩
  have Z : gZ D (cLay N) dA (cLive N) A (gA (cLive N) A) s.heap M s.heap [] := ⟨hP, va_S.rf⟩
  have hin_X9 : ∀ w ∈ wsX90, w ∈ wmX9_has := cin_X9
  have hl_21 := hts (.fieldLink RX9 21 "ReplicaFiles$Versions" "length" "I") (cBc 183 rfl)
  have hl := lv_entry ([.ref (A (60, i0, 0)), .int a1]) (n := 2) (Nat.le_of_ble_eq_true rfl)
  rw [← hargs, lg_entry_eq, hargs]
  generalize (lg_sl ([.ref (A (60, i0, 0)), .int a1]) ++ List.replicate (2 - (lg_sl ([.ref (A (60, i0, 0)), .int a1])).length) Slot.unset).toArray = ls at hl ⊢
  have hl : lv_has ls 2 [(0, .ref (A (60, i0, 0))), (1, .int a1)] := hl
  unfold f_X9_has at h
  refine lv_iload_n hx hb dX9_has_0 rfl (lv_at hl 1 rfl) ?_
  refine lv_if_lt (tgt := 16) hx hb dX9_has_1 (by decide) (fun c1 => ?_) (fun c1 => ?_)
  · have h := if_t c1 h
    refine lv_iconst (v := (0 : Int32)) hx hb dX9_has_16 (by decide) ?_
    have hy := Option.some.inj h
    subst hy
    exact g_rz (Or.inl rfl) S Z hr hlocks dX9_has_17
  · have h := if_f c1 h
    refine lv_iload_n hx hb dX9_has_4 rfl (lv_at hl 1 rfl) ?_
    refine lv_aload_n hx hb dX9_has_5 rfl (lv_at hl 0 rfl) ?_
    refine cr_X9_length (a := i0) S X Z hin_X9 hi0 hl_21 dX9_has_6 h (fun v2 h => ?_)
    refine lv_icmp_ge (tgt := 16) hx hb dX9_has_9 (by decide) (fun c3 => ?_) (fun c3 => ?_)
    · have h := if_t c3 h
      refine lv_iconst (v := (0 : Int32)) hx hb dX9_has_16 (by decide) ?_
      have hy := Option.some.inj h
      subst hy
      exact g_rz (Or.inl rfl) S Z hr hlocks dX9_has_17
    · have h := if_f c3 h
      refine lv_iconst (v := (1 : Int32)) hx hb dX9_has_12 (by decide) ?_
      refine lv_goto (tgt := 17) hx hb dX9_has_13 (by decide) ?_
      have hy := Option.some.inj h
      subst hy
      exact g_rz (Or.inr rfl) S Z hr hlocks dX9_has_17
-- X7_isPlain (ILReplicaFiles$Versions;)Z: 37 instructions
theorem dX7_isPlain_0 : decode cX7_isPlain 0 = .ok (.aload_n 0, 1) := by decide +kernel
theorem dX7_isPlain_1 : decode cX7_isPlain 1 = .ok (.getfield 26, 3) := by decide +kernel
theorem dX7_isPlain_4 : decode cX7_isPlain 4 = .ok (.getfield 30, 3) := by decide +kernel
theorem dX7_isPlain_7 : decode cX7_isPlain 7 = .ok (.iload_n 1, 1) := by decide +kernel
theorem dX7_isPlain_8 : decode cX7_isPlain 8 = .ok (.baload, 1) := by decide +kernel
theorem dX7_isPlain_9 : decode cX7_isPlain 9 = .ok (.ifCond .eq 58, 3) := by decide +kernel
theorem dX7_isPlain_12 : decode cX7_isPlain 12 = .ok (.aload_n 0, 1) := by decide +kernel
theorem dX7_isPlain_13 : decode cX7_isPlain 13 = .ok (.iload_n 1, 1) := by decide +kernel
theorem dX7_isPlain_14 : decode cX7_isPlain 14 = .ok (.invokevirtual 60, 3) := by decide +kernel
theorem dX7_isPlain_17 : decode cX7_isPlain 17 = .ok (.ifCond .ne 50, 3) := by decide +kernel
theorem dX7_isPlain_20 : decode cX7_isPlain 20 = .ok (.aload_n 2, 1) := by decide +kernel
theorem dX7_isPlain_21 : decode cX7_isPlain 21 = .ok (.iconst 0, 1) := by decide +kernel
theorem dX7_isPlain_22 : decode cX7_isPlain 22 = .ok (.invokevirtual 64, 3) := by decide +kernel
theorem dX7_isPlain_25 : decode cX7_isPlain 25 = .ok (.ifCond .eq 42, 3) := by decide +kernel
theorem dX7_isPlain_28 : decode cX7_isPlain 28 = .ok (.aload_n 2, 1) := by decide +kernel
theorem dX7_isPlain_29 : decode cX7_isPlain 29 = .ok (.iconst 0, 1) := by decide +kernel
theorem dX7_isPlain_30 : decode cX7_isPlain 30 = .ok (.aload_n 0, 1) := by decide +kernel
theorem dX7_isPlain_31 : decode cX7_isPlain 31 = .ok (.getfield 26, 3) := by decide +kernel
theorem dX7_isPlain_34 : decode cX7_isPlain 34 = .ok (.getfield 67, 3) := by decide +kernel
theorem dX7_isPlain_37 : decode cX7_isPlain 37 = .ok (.iload_n 1, 1) := by decide +kernel
theorem dX7_isPlain_38 : decode cX7_isPlain 38 = .ok (.iaload, 1) := by decide +kernel
theorem dX7_isPlain_39 : decode cX7_isPlain 39 = .ok (.aload_n 0, 1) := by decide +kernel
theorem dX7_isPlain_40 : decode cX7_isPlain 40 = .ok (.getfield 26, 3) := by decide +kernel
theorem dX7_isPlain_43 : decode cX7_isPlain 43 = .ok (.getfield 70, 3) := by decide +kernel
theorem dX7_isPlain_46 : decode cX7_isPlain 46 = .ok (.iload_n 1, 1) := by decide +kernel
theorem dX7_isPlain_47 : decode cX7_isPlain 47 = .ok (.iaload, 1) := by decide +kernel
theorem dX7_isPlain_48 : decode cX7_isPlain 48 = .ok (.aload_n 0, 1) := by decide +kernel
theorem dX7_isPlain_49 : decode cX7_isPlain 49 = .ok (.getfield 26, 3) := by decide +kernel
theorem dX7_isPlain_52 : decode cX7_isPlain 52 = .ok (.getfield 52, 3) := by decide +kernel
theorem dX7_isPlain_55 : decode cX7_isPlain 55 = .ok (.iload_n 1, 1) := by decide +kernel
theorem dX7_isPlain_56 : decode cX7_isPlain 56 = .ok (.aaload, 1) := by decide +kernel
theorem dX7_isPlain_57 : decode cX7_isPlain 57 = .ok (.invokevirtual 73, 3) := by decide +kernel
theorem dX7_isPlain_60 : decode cX7_isPlain 60 = .ok (.ifCond .eq 7, 3) := by decide +kernel
theorem dX7_isPlain_63 : decode cX7_isPlain 63 = .ok (.iconst 1, 1) := by decide +kernel
theorem dX7_isPlain_64 : decode cX7_isPlain 64 = .ok (.goto 4, 3) := by decide +kernel
theorem dX7_isPlain_67 : decode cX7_isPlain 67 = .ok (.iconst 0, 1) := by decide +kernel
theorem dX7_isPlain_68 : decode cX7_isPlain 68 = .ok (.ireturn, 1) := by decide +kernel
abbrev wmX7_isPlain : List Cond := .code yX7_isPlain cX7_isPlain 3 (some .boolean) :: cBig
def f_X7_isPlain (N : Nat) (M : gM) (i0 : Nat) (a1 : Int32) (i2 : Nat) : Option Int32 :=
  rd M (51, i0, 0) 48 a1 (fun v1 => (if v1 = 0 then some (0 : Int32) else o1 (f_X7_isInConflict N M i0 a1) (fun v4 => (if v4 = 0 then o1 (f_X9_has N M i2 (0 : Int32)) (fun v7 => (if v7 = 0 then some (0 : Int32) else rd M (52, i0, 0) 48 a1 (fun v9 => rd M (53, i0, 0) 48 a1 (fun v10 => ix a1 48 (fun v11 => o1 (f_X9_isAt N M i2 (0 : Int32) v9 v10 (55, i0, v11)) (fun v13 => (if v13 = 0 then some (0 : Int32) else some (1 : Int32)))))))) else some (0 : Int32)))))
set_option maxHeartbeats 4000000 in
set_option maxRecDepth 100000 in
theorem t_X7_isPlain (l : Launch) (N : Nat) (D : va_G) (dA : Nat → ClassId) (A : gI → Nat) (hJ : gJ (cLive N) A) {M : gM} {i0 : Nat} {a1 : Int32} {i2 : Nat} (hi0 : cLive N (20, i0, 0)) (hi2 : cLive N (60, i2, 0)) {y : Int32} (h : f_X7_isPlain N M i0 a1 i2 = some y) : cMi l yX7_isPlain wmX7_isPlain ({ frames := 2, cells := 0, slots := 0, locals := 46 } : Room) N D dA A [.ref (A (20, i0, 0)), .int a1, .ref (A (60, i2, 0))] M y M := by
  refine Met.ofW (cc := cX7_isPlain) (maxL := 3) (ret := (some .boolean)) (by decide) rfl ?_
  intro p e s m args below meth c s₁ B hml hv
  obtain ⟨rfl, hP, hK, hN⟩ := hv
  generalize hargs : ([.ref (A (20, i0, 0)), .int a1, .ref (A (60, i2, 0))] : List Value).toArray = args at B ⊢
  have S : CallFix p m c cX7_isPlain 3 s args wmX7_isPlain RX7 := ⟨B.exec, B.bytes, hml, findClass_of_methodNamed B.named, atoms_spec (ws := wmX7_isPlain) B.pre⟩
  obtain ⟨hx, hb, -, hown, hts⟩ := id S
  have hr := B.returns
  have hlocks := B.notSynchronized
  have X : gX D vwCl dA (cLive N) A (gA (cLive N) A) s := ⟨hK, hJ, fun i hi => ⟨i, hi, rfl⟩⟩
  have Z : gZ D (cLay N) dA (cLive N) A (gA (cLive N) A) s.heap M s.heap [] := ⟨hP, va_S.rf⟩
  have hin_X7 : ∀ w ∈ wsX70, w ∈ wmX7_isPlain := cin_X7
  have hin_X8 : ∀ w ∈ wsX80, w ∈ wmX7_isPlain := cin_X8
  have hl_26 := hts (.fieldLink RX7 26 "ReplicaFiles$Server" "tree" "LReplicaFiles$Tree;") (cBc 275 rfl)
  have hl_30 := va_Nw.use (A := args) rfl (hN.1 ("ReplicaFiles$Server", 30, "ReplicaFiles$Tree", "held", "[Z", "ReplicaFiles") (by decide +kernel))
  have hl_52 := va_Nw.use (A := args) rfl (hN.1 ("ReplicaFiles$Server", 52, "ReplicaFiles$Tree", "counts", "[[I", "ReplicaFiles") (by decide +kernel))
  have hl_67 := va_Nw.use (A := args) rfl (hN.1 ("ReplicaFiles$Server", 67, "ReplicaFiles$Tree", "value", "[I", "ReplicaFiles") (by decide +kernel))
  have hl_70 := va_Nw.use (A := args) rfl (hN.1 ("ReplicaFiles$Server", 70, "ReplicaFiles$Tree", "size", "[I", "ReplicaFiles") (by decide +kernel))
  have hl := lv_entry ([.ref (A (20, i0, 0)), .int a1, .ref (A (60, i2, 0))]) (n := 3) (Nat.le_of_ble_eq_true rfl)
  rw [← hargs, lg_entry_eq, hargs]
  generalize (lg_sl ([.ref (A (20, i0, 0)), .int a1, .ref (A (60, i2, 0))]) ++ List.replicate (3 - (lg_sl ([.ref (A (20, i0, 0)), .int a1, .ref (A (60, i2, 0))])).length) Slot.unset).toArray = ls at hl ⊢
  have hl : lv_has ls 3 [(0, .ref (A (20, i0, 0))), (1, .int a1), (2, .ref (A (60, i2, 0)))] := hl
  unfold f_X7_isPlain at h
  refine lv_aload_n hx hb dX7_isPlain_0 rfl (lv_at hl 0 rfl) ?_
  refine cr_X7_tree (a := i0) S X Z hin_X7 hi0 hl_26 dX7_isPlain_1 ?_
  refine cn_X8_held (a := i0) S X Z hin_X8 (cl_st hi0) hl_30 dX7_isPlain_4 ?_
  refine lv_iload_n hx hb dX7_isPlain_7 rfl (lv_at hl 1 rfl) ?_
  refine g_zald (i := (51, i0, 0)) (n := 48) S X Z (cl_X8_held (cl_st hi0)) rfl dX7_isPlain_8 h (fun v1 h => ?_)
  refine lv_if_eq (tgt := 67) hx hb dX7_isPlain_9 (by decide) (fun c2 => ?_) (fun c2 => ?_)
  · have h := if_t c2 h
    refine lv_iconst (v := (0 : Int32)) hx hb dX7_isPlain_67 (by decide) ?_
    have hy := Option.some.inj h
    subst hy
    exact g_rz (Or.inl rfl) S Z hr hlocks dX7_isPlain_68
  · have h := if_f c2 h
    refine lv_aload_n hx hb dX7_isPlain_12 rfl (lv_at hl 0 rfl) ?_
    refine lv_iload_n hx hb dX7_isPlain_13 rfl (lv_at hl 1 rfl) ?_
    obtain ⟨v4, hc3, h⟩ := o1_e h
    refine c_i X Z (c_V (i := (20, i0, 0)) (As := [.int a1]) (rest := []) S X hN Z hi0 rfl rfl (t_X7_isInConflict l N D dA A hJ hi0 hc3) (cwV 1 hts (cGV (cB 430 rfl) (cB 233 rfl) (cB 234 rfl) (cB 235 rfl) (cB 179 rfl)) rfl rfl rfl (by decide +kernel) ⟨Nat.le_of_ble_eq_true rfl, Nat.le_of_ble_eq_true rfl⟩) rfl hl.1 rfl (Nat.le_of_ble_eq_true rfl) dX7_isPlain_14 ⟨Nat.zero_le _, Nat.zero_le _⟩) (fun H locs Z => ?_)
    refine lv_if_ne (tgt := 67) hx hb dX7_isPlain_17 (by decide) (fun c5 => ?_) (fun c5 => ?_)
    · have h := if_f c5 h
      refine lv_iconst (v := (0 : Int32)) hx hb dX7_isPlain_67 (by decide) ?_
      have hy := Option.some.inj h
      subst hy
      exact g_rz (Or.inl rfl) S Z hr hlocks dX7_isPlain_68
    · have h := if_t c5 h
      refine lv_aload_n hx hb dX7_isPlain_20 rfl (lv_at hl 2 rfl) ?_
      refine lv_iconst (v := (0 : Int32)) hx hb dX7_isPlain_21 (by decide) ?_
      obtain ⟨v7, hc6, h⟩ := o1_e h
      refine c_i X Z (c_V (i := (60, i2, 0)) (As := [.int (0 : Int32)]) (rest := []) S X hN Z hi2 rfl rfl (t_X9_has l N D dA A hJ hi2 hc6) (cwV 1 hts (cGV (cB 431 rfl) (cB 432 rfl) (cB 433 rfl) (cB 191 rfl) (cB 428 rfl)) rfl rfl rfl (by decide +kernel) ⟨Nat.le_of_ble_eq_true rfl, Nat.le_of_ble_eq_true rfl⟩) rfl hl.1 rfl (Nat.le_of_ble_eq_true rfl) dX7_isPlain_22 ⟨Nat.zero_le _, Nat.zero_le _⟩) (fun H locs Z => ?_)
      refine lv_if_eq (tgt := 67) hx hb dX7_isPlain_25 (by decide) (fun c8 => ?_) (fun c8 => ?_)
      · have h := if_t c8 h
        refine lv_iconst (v := (0 : Int32)) hx hb dX7_isPlain_67 (by decide) ?_
        have hy := Option.some.inj h
        subst hy
        exact g_rz (Or.inl rfl) S Z hr hlocks dX7_isPlain_68
      · have h := if_f c8 h
        refine lv_aload_n hx hb dX7_isPlain_28 rfl (lv_at hl 2 rfl) ?_
        refine lv_iconst (v := (0 : Int32)) hx hb dX7_isPlain_29 (by decide) ?_
        refine lv_aload_n hx hb dX7_isPlain_30 rfl (lv_at hl 0 rfl) ?_
        refine cr_X7_tree (a := i0) S X Z hin_X7 hi0 hl_26 dX7_isPlain_31 ?_
        refine cn_X8_value (a := i0) S X Z hin_X8 (cl_st hi0) hl_67 dX7_isPlain_34 ?_
        refine lv_iload_n hx hb dX7_isPlain_37 rfl (lv_at hl 1 rfl) ?_
        refine g_iald (i := (52, i0, 0)) (n := 48) S X Z (cl_X8_value (cl_st hi0)) rfl dX7_isPlain_38 h (fun v9 h => ?_)
        refine lv_aload_n hx hb dX7_isPlain_39 rfl (lv_at hl 0 rfl) ?_
        refine cr_X7_tree (a := i0) S X Z hin_X7 hi0 hl_26 dX7_isPlain_40 ?_
        refine cn_X8_size (a := i0) S X Z hin_X8 (cl_st hi0) hl_70 dX7_isPlain_43 ?_
        refine lv_iload_n hx hb dX7_isPlain_46 rfl (lv_at hl 1 rfl) ?_
        refine g_iald (i := (53, i0, 0)) (n := 48) S X Z (cl_X8_size (cl_st hi0)) rfl dX7_isPlain_47 h (fun v10 h => ?_)
        refine lv_aload_n hx hb dX7_isPlain_48 rfl (lv_at hl 0 rfl) ?_
        refine cr_X7_tree (a := i0) S X Z hin_X7 hi0 hl_26 dX7_isPlain_49 ?_
        refine cn_X8_counts (a := i0) S X Z hin_X8 (cl_st hi0) hl_52 dX7_isPlain_52 ?_
        refine lv_iload_n hx hb dX7_isPlain_55 rfl (lv_at hl 1 rfl) ?_
        refine g_aald (i := (54, i0, 0)) (ca := 5) ⟨rfl, rfl⟩ S X Z (cl_X8_counts (cl_st hi0)) rfl dX7_isPlain_56 h (fun v11 hv11 h => ?_)
        obtain ⟨v13, hc12, h⟩ := o1_e h
        refine c_i X Z (c_V (i := (60, i2, 0)) (As := [.int (0 : Int32), .int v9, .int v10, .ref (A (55, i0, v11))]) (rest := []) S X hN Z hi2 rfl rfl (t_X9_isAt l N D dA A hJ hi2 ⟨(cl_55 (cl_X8_counts (cl_st hi0)) hv11), rfl⟩ hc12) (cwV 4 hts (cGV (cB 434 rfl) (cB 380 rfl) (cB 381 rfl) (cB 191 rfl) (cB 377 rfl)) rfl rfl rfl (by decide +kernel) ⟨Nat.le_of_ble_eq_true rfl, Nat.le_of_ble_eq_true rfl⟩) rfl hl.1 rfl (Nat.le_of_ble_eq_true rfl) dX7_isPlain_57 ⟨Nat.zero_le _, Nat.zero_le _⟩) (fun H locs Z => ?_)
        refine lv_if_eq (tgt := 67) hx hb dX7_isPlain_60 (by decide) (fun c14 => ?_) (fun c14 => ?_)
        · have h := if_t c14 h
          refine lv_iconst (v := (0 : Int32)) hx hb dX7_isPlain_67 (by decide) ?_
          have hy := Option.some.inj h
          subst hy
          exact g_rz (Or.inl rfl) S Z hr hlocks dX7_isPlain_68
        · have h := if_f c14 h
          refine lv_iconst (v := (1 : Int32)) hx hb dX7_isPlain_63 (by decide) ?_
          refine lv_goto (tgt := 68) hx hb dX7_isPlain_64 (by decide) ?_
          have hy := Option.some.inj h
          subst hy
          exact g_rz (Or.inr rfl) S Z hr hlocks dX7_isPlain_68
-- X7_setPlain (III[I)V: 25 instructions
theorem dX7_setPlain_0 : decode cX7_setPlain 0 = .ok (.aload_n 0, 1) := by decide +kernel
theorem dX7_setPlain_1 : decode cX7_setPlain 1 = .ok (.getfield 26, 3) := by decide +kernel
theorem dX7_setPlain_4 : decode cX7_setPlain 4 = .ok (.getfield 30, 3) := by decide +kernel
theorem dX7_setPlain_7 : decode cX7_setPlain 7 = .ok (.iload_n 1, 1) := by decide +kernel
theorem dX7_setPlain_8 : decode cX7_setPlain 8 = .ok (.iconst 1, 1) := by decide +kernel
theorem dX7_setPlain_9 : decode cX7_setPlain 9 = .ok (.bastore, 1) := by decide +kernel
theorem dX7_setPlain_10 : decode cX7_setPlain 10 = .ok (.aload_n 0, 1) := by decide +kernel
theorem dX7_setPlain_11 : decode cX7_setPlain 11 = .ok (.getfield 26, 3) := by decide +kernel
theorem dX7_setPlain_14 : decode cX7_setPlain 14 = .ok (.iload_n 1, 1) := by decide +kernel
theorem dX7_setPlain_15 : decode cX7_setPlain 15 = .ok (.iload_n 2, 1) := by decide +kernel
theorem dX7_setPlain_16 : decode cX7_setPlain 16 = .ok (.iload_n 3, 1) := by decide +kernel
theorem dX7_setPlain_17 : decode cX7_setPlain 17 = .ok (.invokevirtual 48, 3) := by decide +kernel
theorem dX7_setPlain_20 : decode cX7_setPlain 20 = .ok (.aload_n 0, 1) := by decide +kernel
theorem dX7_setPlain_21 : decode cX7_setPlain 21 = .ok (.getfield 26, 3) := by decide +kernel
theorem dX7_setPlain_24 : decode cX7_setPlain 24 = .ok (.getfield 52, 3) := by decide +kernel
theorem dX7_setPlain_27 : decode cX7_setPlain 27 = .ok (.iload_n 1, 1) := by decide +kernel
theorem dX7_setPlain_28 : decode cX7_setPlain 28 = .ok (.aaload, 1) := by decide +kernel
theorem dX7_setPlain_29 : decode cX7_setPlain 29 = .ok (.aload 4, 2) := by decide +kernel
theorem dX7_setPlain_31 : decode cX7_setPlain 31 = .ok (.invokestatic 56, 3) := by decide +kernel
theorem dX7_setPlain_34 : decode cX7_setPlain 34 = .ok (.aload_n 0, 1) := by decide +kernel
theorem dX7_setPlain_35 : decode cX7_setPlain 35 = .ok (.getfield 11, 3) := by decide +kernel
theorem dX7_setPlain_38 : decode cX7_setPlain 38 = .ok (.iload_n 1, 1) := by decide +kernel
theorem dX7_setPlain_39 : decode cX7_setPlain 39 = .ok (.aaload, 1) := by decide +kernel
theorem dX7_setPlain_40 : decode cX7_setPlain 40 = .ok (.invokevirtual 45, 3) := by decide +kernel
theorem dX7_setPlain_43 : decode cX7_setPlain 43 = .ok (.return_, 1) := by decide +kernel
abbrev wmX7_setPlain : List Cond := .code yX7_setPlain cX7_setPlain 5 none :: cBig
def f_X7_setPlain (N : Nat) (M : gM) (i0 : Nat) (a1 : Int32) (a2 : Int32) (a3 : Int32) (a4 : gI) : Option gM :=
  wz M (51, i0, 0) 48 a1 (1 : Int32) (fun M1 => o1 (f_X8_setFile N M1 i0 a1 a2 a3) (fun M3 => ix a1 48 (fun v4 => o1 (f_X10_assign N M3 (55, i0, v4) a4) (fun M6 => ix a1 48 (fun v7 => o1 (f_X9_clear N M6 (48 * i0 + v7)) (fun M9 => some M9))))))
set_option maxHeartbeats 4000000 in
set_option maxRecDepth 100000 in
theorem t_X7_setPlain (l : Launch) (N : Nat) (D : va_G) (dA : Nat → ClassId) (A : gI → Nat) (hJ : gJ (cLive N) A) {M : gM} {i0 : Nat} {a1 : Int32} {a2 : Int32} {a3 : Int32} {a4 : gI} (hi0 : cLive N (20, i0, 0)) (ha4 : cArr N a4) {y : gM} (h : f_X7_setPlain N M i0 a1 a2 a3 a4 = some y) : cMv l yX7_setPlain wmX7_setPlain ({ frames := 1, cells := 0, slots := 0, locals := 23 } : Room) N D dA A [.ref (A (20, i0, 0)), .int a1, .int a2, .int a3, .ref (A a4)] M y := by
  refine Met.ofW (cc := cX7_setPlain) (maxL := 5) (ret := none) (by decide) rfl ?_
  intro p e s m args below meth c s₁ B hml hv
  obtain ⟨rfl, hP, hK, hN⟩ := hv
  generalize hargs : ([.ref (A (20, i0, 0)), .int a1, .int a2, .int a3, .ref (A a4)] : List Value).toArray = args at B ⊢
  have S : CallFix p m c cX7_setPlain 5 s args wmX7_setPlain RX7 := ⟨B.exec, B.bytes, hml, findClass_of_methodNamed B.named, atoms_spec (ws := wmX7_setPlain) B.pre⟩
  obtain ⟨hx, hb, -, hown, hts⟩ := id S
  have hr := B.returns
  have hlocks := B.notSynchronized
  have X : gX D vwCl dA (cLive N) A (gA (cLive N) A) s := ⟨hK, hJ, fun i hi => ⟨i, hi, rfl⟩⟩
  have Z : gZ D (cLay N) dA (cLive N) A (gA (cLive N) A) s.heap M s.heap [] := ⟨hP, va_S.rf⟩
  have hin_X7 : ∀ w ∈ wsX70, w ∈ wmX7_setPlain := cin_X7
  have hin_X8 : ∀ w ∈ wsX80, w ∈ wmX7_setPlain := cin_X8
  have hl_11 := hts (.fieldLink RX7 11 "ReplicaFiles$Server" "versions" "[LReplicaFiles$Versions;") (cBc 180 rfl)
  have hl_26 := hts (.fieldLink RX7 26 "ReplicaFiles$Server" "tree" "LReplicaFiles$Tree;") (cBc 275 rfl)
  have hl_30 := va_Nw.use (A := args) rfl (hN.1 ("ReplicaFiles$Server", 30, "ReplicaFiles$Tree", "held", "[Z", "ReplicaFiles") (by decide +kernel))
  have hl_52 := va_Nw.use (A := args) rfl (hN.1 ("ReplicaFiles$Server", 52, "ReplicaFiles$Tree", "counts", "[[I", "ReplicaFiles") (by decide +kernel))
  have hl := lv_entry ([.ref (A (20, i0, 0)), .int a1, .int a2, .int a3, .ref (A a4)]) (n := 5) (Nat.le_of_ble_eq_true rfl)
  rw [← hargs, lg_entry_eq, hargs]
  generalize (lg_sl ([.ref (A (20, i0, 0)), .int a1, .int a2, .int a3, .ref (A a4)]) ++ List.replicate (5 - (lg_sl ([.ref (A (20, i0, 0)), .int a1, .int a2, .int a3, .ref (A a4)])).length) Slot.unset).toArray = ls at hl ⊢
  have hl : lv_has ls 5 [(0, .ref (A (20, i0, 0))), (1, .int a1), (2, .int a2), (3, .int a3), (4, .ref (A a4))] := hl
  unfold f_X7_setPlain at h
  refine lv_aload_n hx hb dX7_setPlain_0 rfl (lv_at hl 0 rfl) ?_
  refine cr_X7_tree (a := i0) S X Z hin_X7 hi0 hl_26 dX7_setPlain_1 ?_
  refine cn_X8_held (a := i0) S X Z hin_X8 (cl_st hi0) hl_30 dX7_setPlain_4 ?_
  refine lv_iload_n hx hb dX7_setPlain_7 rfl (lv_at hl 1 rfl) ?_
  refine lv_iconst (v := (1 : Int32)) hx hb dX7_setPlain_8 (by decide) ?_
  refine g_zast (i := (51, i0, 0)) (n := 48) S X Z (cl_X8_held (cl_st hi0)) rfl dX7_setPlain_9 h (fun M1 H locs Z h => ?_)
  refine lv_aload_n hx hb dX7_setPlain_10 rfl (lv_at hl 0 rfl) ?_
  refine cr_X7_tree (a := i0) S X Z hin_X7 hi0 hl_26 dX7_setPlain_11 ?_
  refine lv_iload_n hx hb dX7_setPlain_14 rfl (lv_at hl 1 rfl) ?_
  refine lv_iload_n hx hb dX7_setPlain_15 rfl (lv_at hl 2 rfl) ?_
  refine lv_iload_n hx hb dX7_setPlain_16 rfl (lv_at hl 3 rfl) ?_
  obtain ⟨M3, hc2, h⟩ := o1_e h
  refine c_v X Z (c_V (i := (50, i0, 0)) (As := [.int a1, .int a2, .int a3]) (rest := []) S X hN Z (cl_st hi0) rfl rfl (t_X8_setFile l N D dA A hJ (cl_st hi0) hc2) (cwV 3 hts (cGV (cB 436 rfl) (cB 71 rfl) (cB 72 rfl) (cB 44 rfl) (cB 67 rfl)) rfl rfl rfl (by decide +kernel) ⟨Nat.le_of_ble_eq_true rfl, Nat.le_of_ble_eq_true rfl⟩) rfl hl.1 rfl (Nat.le_of_ble_eq_true rfl) dX7_setPlain_17 ⟨Nat.zero_le _, Nat.zero_le _⟩) (fun H locs Z => ?_)
  refine lv_aload_n hx hb dX7_setPlain_20 rfl (lv_at hl 0 rfl) ?_
  refine cr_X7_tree (a := i0) S X Z hin_X7 hi0 hl_26 dX7_setPlain_21 ?_
  refine cn_X8_counts (a := i0) S X Z hin_X8 (cl_st hi0) hl_52 dX7_setPlain_24 ?_
  refine lv_iload_n hx hb dX7_setPlain_27 rfl (lv_at hl 1 rfl) ?_
  refine g_aald (i := (54, i0, 0)) (ca := 5) ⟨rfl, rfl⟩ S X Z (cl_X8_counts (cl_st hi0)) rfl dX7_setPlain_28 h (fun v4 hv4 h => ?_)
  refine lv_aload hx hb dX7_setPlain_29 (lv_at hl 4 rfl) ?_
  obtain ⟨M6, hc5, h⟩ := o1_e h
  refine c_v X Z (c_SN (As := [.ref (A (55, i0, v4)), .ref (A a4)]) (rest := []) S X hN Z (t_X10_assign l N D dA A hJ ⟨(cl_55 (cl_X8_counts (cl_st hi0)) hv4), rfl⟩ ha4 hc5) ⟨va_cnB 2 hts (cG (cB 104 rfl)) rfl rfl rfl (hN.2 ("ReplicaFiles$Server", 56, yX10_assign, "ReplicaFiles") (by decide +kernel)) (hts (.initialized RX10) (cBc 107 rfl)) (by decide +kernel) ⟨Nat.le_of_ble_eq_true rfl, Nat.le_of_ble_eq_true rfl⟩, hts (.static yX10_assign) (cBc 106 rfl), trivial⟩ rfl hl.1 rfl (Nat.le_of_ble_eq_true rfl) dX7_setPlain_31 ⟨Nat.zero_le _, Nat.zero_le _⟩) (fun H locs Z => ?_)
  refine lv_aload_n hx hb dX7_setPlain_34 rfl (lv_at hl 0 rfl) ?_
  refine cr_X7_versions (a := i0) S X Z hin_X7 hi0 hl_11 dX7_setPlain_35 ?_
  refine lv_iload_n hx hb dX7_setPlain_38 rfl (lv_at hl 1 rfl) ?_
  refine g_aald (i := (21, i0, 0)) (ca := 4) ⟨rfl, rfl⟩ S X Z (cl_X7_versions hi0) rfl dX7_setPlain_39 h (fun v7 hv7 h => ?_)
  obtain ⟨M9, hc8, h⟩ := o1_e h
  refine c_v X Z (c_V (i := (60, (48 * i0 + v7), 0)) (As := []) (rest := []) S X hN Z (cl_ver (cl_X7_versions hi0) hv7) rfl rfl (t_X9_clear l N D dA A hJ (cl_ver (cl_X7_versions hi0) hv7) hc8) (cwV 0 hts (cGV (cB 277 rfl) (cB 278 rfl) (cB 279 rfl) (cB 191 rfl) (cB 274 rfl)) rfl rfl rfl (by decide +kernel) ⟨Nat.le_of_ble_eq_true rfl, Nat.le_of_ble_eq_true rfl⟩) rfl hl.1 rfl (Nat.le_of_ble_eq_true rfl) dX7_setPlain_40 ⟨Nat.zero_le _, Nat.zero_le _⟩) (fun H locs Z => ?_)
  have hy := Option.some.inj h
  subst hy
  exact g_rv S Z hr hlocks dX7_setPlain_43
-- X4_giveOne (I)V: 51 instructions
theorem dX4_giveOne_0 : decode cX4_giveOne 0 = .ok (.iconst 0, 1) := by decide +kernel
theorem dX4_giveOne_1 : decode cX4_giveOne 1 = .ok (.istore_n 2, 1) := by decide +kernel
theorem dX4_giveOne_2 : decode cX4_giveOne 2 = .ok (.iload_n 2, 1) := by decide +kernel
theorem dX4_giveOne_3 : decode cX4_giveOne 3 = .ok (.aload_n 0, 1) := by decide +kernel
theorem dX4_giveOne_4 : decode cX4_giveOne 4 = .ok (.getfield 30, 3) := by decide +kernel
theorem dX4_giveOne_7 : decode cX4_giveOne 7 = .ok (.arraylength, 1) := by decide +kernel
theorem dX4_giveOne_8 : decode cX4_giveOne 8 = .ok (.if_icmp .ge 82, 3) := by decide +kernel
theorem dX4_giveOne_11 : decode cX4_giveOne 11 = .ok (.aload_n 0, 1) := by decide +kernel
theorem dX4_giveOne_12 : decode cX4_giveOne 12 = .ok (.getfield 44, 3) := by decide +kernel
theorem dX4_giveOne_15 : decode cX4_giveOne 15 = .ok (.iload_n 2, 1) := by decide +kernel
theorem dX4_giveOne_16 : decode cX4_giveOne 16 = .ok (.invokestatic 113, 3) := by decide +kernel
theorem dX4_giveOne_19 : decode cX4_giveOne 19 = .ok (.ifCond .eq 65, 3) := by decide +kernel
theorem dX4_giveOne_22 : decode cX4_giveOne 22 = .ok (.aload_n 0, 1) := by decide +kernel
theorem dX4_giveOne_23 : decode cX4_giveOne 23 = .ok (.getfield 30, 3) := by decide +kernel
theorem dX4_giveOne_26 : decode cX4_giveOne 26 = .ok (.iload_n 2, 1) := by decide +kernel
theorem dX4_giveOne_27 : decode cX4_giveOne 27 = .ok (.aaload, 1) := by decide +kernel
theorem dX4_giveOne_28 : decode cX4_giveOne 28 = .ok (.iload_n 1, 1) := by decide +kernel
theorem dX4_giveOne_29 : decode cX4_giveOne 29 = .ok (.aload_n 0, 1) := by decide +kernel
theorem dX4_giveOne_30 : decode cX4_giveOne 30 = .ok (.getfield 36, 3) := by decide +kernel
theorem dX4_giveOne_33 : decode cX4_giveOne 33 = .ok (.invokevirtual 214, 3) := by decide +kernel
theorem dX4_giveOne_36 : decode cX4_giveOne 36 = .ok (.ifCond .ne 48, 3) := by decide +kernel
theorem dX4_giveOne_39 : decode cX4_giveOne 39 = .ok (.aload_n 0, 1) := by decide +kernel
theorem dX4_giveOne_40 : decode cX4_giveOne 40 = .ok (.getfield 30, 3) := by decide +kernel
theorem dX4_giveOne_43 : decode cX4_giveOne 43 = .ok (.iload_n 2, 1) := by decide +kernel
theorem dX4_giveOne_44 : decode cX4_giveOne 44 = .ok (.aaload, 1) := by decide +kernel
theorem dX4_giveOne_45 : decode cX4_giveOne 45 = .ok (.iload_n 1, 1) := by decide +kernel
theorem dX4_giveOne_46 : decode cX4_giveOne 46 = .ok (.aload_n 0, 1) := by decide +kernel
theorem dX4_giveOne_47 : decode cX4_giveOne 47 = .ok (.getfield 36, 3) := by decide +kernel
theorem dX4_giveOne_50 : decode cX4_giveOne 50 = .ok (.getfield 209, 3) := by decide +kernel
theorem dX4_giveOne_53 : decode cX4_giveOne 53 = .ok (.iconst 0, 1) := by decide +kernel
theorem dX4_giveOne_54 : decode cX4_giveOne 54 = .ok (.iaload, 1) := by decide +kernel
theorem dX4_giveOne_55 : decode cX4_giveOne 55 = .ok (.aload_n 0, 1) := by decide +kernel
theorem dX4_giveOne_56 : decode cX4_giveOne 56 = .ok (.getfield 36, 3) := by decide +kernel
theorem dX4_giveOne_59 : decode cX4_giveOne 59 = .ok (.getfield 210, 3) := by decide +kernel
theorem dX4_giveOne_62 : decode cX4_giveOne 62 = .ok (.iconst 0, 1) := by decide +kernel
theorem dX4_giveOne_63 : decode cX4_giveOne 63 = .ok (.iaload, 1) := by decide +kernel
theorem dX4_giveOne_64 : decode cX4_giveOne 64 = .ok (.aload_n 0, 1) := by decide +kernel
theorem dX4_giveOne_65 : decode cX4_giveOne 65 = .ok (.getfield 36, 3) := by decide +kernel
theorem dX4_giveOne_68 : decode cX4_giveOne 68 = .ok (.getfield 144, 3) := by decide +kernel
theorem dX4_giveOne_71 : decode cX4_giveOne 71 = .ok (.iconst 0, 1) := by decide +kernel
theorem dX4_giveOne_72 : decode cX4_giveOne 72 = .ok (.aaload, 1) := by decide +kernel
theorem dX4_giveOne_73 : decode cX4_giveOne 73 = .ok (.invokevirtual 218, 3) := by decide +kernel
theorem dX4_giveOne_76 : decode cX4_giveOne 76 = .ok (.aload_n 0, 1) := by decide +kernel
theorem dX4_giveOne_77 : decode cX4_giveOne 77 = .ok (.iconst 1, 1) := by decide +kernel
theorem dX4_giveOne_78 : decode cX4_giveOne 78 = .ok (.iload_n 2, 1) := by decide +kernel
theorem dX4_giveOne_79 : decode cX4_giveOne 79 = .ok (.ishl, 1) := by decide +kernel
theorem dX4_giveOne_80 : decode cX4_giveOne 80 = .ok (.iload_n 1, 1) := by decide +kernel
theorem dX4_giveOne_81 : decode cX4_giveOne 81 = .ok (.invokevirtual 148, 3) := by decide +kernel
theorem dX4_giveOne_84 : decode cX4_giveOne 84 = .ok (.iinc 2 1, 3) := by decide +kernel
theorem dX4_giveOne_87 : decode cX4_giveOne 87 = .ok (.goto (-85), 3) := by decide +kernel
theorem dX4_giveOne_90 : decode cX4_giveOne 90 = .ok (.return_, 1) := by decide +kernel
abbrev wmX4_giveOne : List Cond := .code yX4_giveOne cX4_giveOne 3 none :: cBig
def f_X4_giveOne_L2 (N : Nat) (a1 : Int32) : Nat → Int32 → gM → Option gM
  | 0, _, _ => none
  | n3 + 1, x1, M2 => (if (nI N) ≤ x1 then some M2 else lt (M2 (13, 0, 0) 6) (fun v5 => o1 (f_X10_isIn N M2 v5 x1) (fun v7 => jn (fun (M8 : gM) => lt (x1 + 1) (fun x9 => f_X4_giveOne_L2 N a1 n3 x9 M8)) (fun J84 => (if v7 = 0 then J84 M2 else ix x1 N (fun v11 => o1 (f_X7_isPlain N M2 v11 a1 192) (fun v13 => (if v13 = 0 then ix x1 N (fun v15 => rd M2 (61, 192, 0) (cMost 192) (0 : Int32) (fun v16 => rd M2 (62, 192, 0) (cMost 192) (0 : Int32) (fun v17 => ix (0 : Int32) (cMost 192) (fun v18 => o1 (f_X7_setPlain N M2 v15 a1 v16 v17 (64, 192, v18)) (fun M20 => o1 (f_X4_noteChange N M20 ((1 : Int32) <<< (x1 &&& 31)) a1) (fun M22 => J84 M22)))))) else J84 M2))))))))
def f_X4_giveOne (N : Nat) (M : gM) (a1 : Int32) : Option gM :=
  f_X4_giveOne_L2 N a1 100 (0 : Int32) M
set_option maxHeartbeats 4000000 in
set_option maxRecDepth 100000 in
theorem t_X4_giveOne (l : Launch) (N : Nat) (D : va_G) (dA : Nat → ClassId) (A : gI → Nat) (hJ : gJ (cLive N) A) {M : gM} {a1 : Int32}  {y : gM} (h : f_X4_giveOne N M a1 = some y) : cMv l yX4_giveOne wmX4_giveOne ({ frames := 3, cells := 0, slots := 0, locals := 68 } : Room) N D dA A [.ref (A (13, 0, 0)), .int a1] M y := by
  refine Met.ofW (cc := cX4_giveOne) (maxL := 3) (ret := none) (by decide) rfl ?_
  intro p e s m args below meth c s₁ B hml hv
  obtain ⟨rfl, hP, hK, hN⟩ := hv
  generalize hargs : ([.ref (A (13, 0, 0)), .int a1] : List Value).toArray = args at B ⊢
  have S : CallFix p m c cX4_giveOne 3 s args wmX4_giveOne RX4 := ⟨B.exec, B.bytes, hml, findClass_of_methodNamed B.named, atoms_spec (ws := wmX4_giveOne) B.pre⟩
  obtain ⟨hx, hb, -, hown, hts⟩ := id S
  have hr := B.returns
  have hlocks := B.notSynchronized
  have X : gX D vwCl dA (cLive N) A (gA (cLive N) A) s := ⟨hK, hJ, fun i hi => ⟨i, hi, rfl⟩⟩
  have Z : gZ D (cLay N) dA (cLive N) A (gA (cLive N) A) s.heap M s.heap [] := ⟨hP, va_S.rf⟩
  have hin_X4 : ∀ w ∈ wsX40, w ∈ wmX4_giveOne := cin_X4
  have hin_X9 : ∀ w ∈ wsX90, w ∈ wmX4_giveOne := cin_X9
  have hl_30 := hts (.fieldLink RX4 30 "ReplicaFiles$Meeting" "servers" "[LReplicaFiles$Server;") (cBc 325 rfl)
  have hl_36 := hts (.fieldLink RX4 36 "ReplicaFiles$Meeting" "candidates" "LReplicaFiles$Versions;") (cBc 328 rfl)
  have hl_44 := hts (.fieldLink RX4 44 "ReplicaFiles$Meeting" "group" "I") (cBc 333 rfl)
  have hl_144 := va_Nw.use (A := args) rfl (hN.1 ("ReplicaFiles$Meeting", 144, "ReplicaFiles$Versions", "counts", "[[I", "ReplicaFiles") (by decide +kernel))
  have hl_209 := va_Nw.use (A := args) rfl (hN.1 ("ReplicaFiles$Meeting", 209, "ReplicaFiles$Versions", "value", "[I", "ReplicaFiles") (by decide +kernel))
  have hl_210 := va_Nw.use (A := args) rfl (hN.1 ("ReplicaFiles$Meeting", 210, "ReplicaFiles$Versions", "size", "[I", "ReplicaFiles") (by decide +kernel))
  have hl := lv_entry ([.ref (A (13, 0, 0)), .int a1]) (n := 3) (Nat.le_of_ble_eq_true rfl)
  rw [← hargs, lg_entry_eq, hargs]
  generalize (lg_sl ([.ref (A (13, 0, 0)), .int a1]) ++ List.replicate (3 - (lg_sl ([.ref (A (13, 0, 0)), .int a1])).length) Slot.unset).toArray = ls at hl ⊢
  have hl : lv_has ls 3 [(0, .ref (A (13, 0, 0))), (1, .int a1)] := hl
  unfold f_X4_giveOne at h
  refine lv_iconst (v := (0 : Int32)) hx hb dX4_giveOne_0 (by decide) ?_
  refine lv_istore_n (lv' := [(2, .int (0 : Int32)), (0, .ref (A (13, 0, 0))), (1, .int a1)]) hx hb dX4_giveOne_1 rfl hl (by decide) rfl (fun ls hl => ?_)
  have hL2 : ∀ (n : Nat) (x1 : Int32) (M2 : gM) (H : Heap) (locs : List Loc) (ls : Array Slot), gZ D (cLay N) dA (cLive N) A (gA (cLive N) A) s.heap M2 H locs → lv_has ls 3 [(0, .ref (A (13, 0, 0))), (1, .int a1), (2, .int x1)] → f_X4_giveOne_L2 N a1 n x1 M2 = some y → W p l e (headSpec wmX4_giveOne ({ frames := 3, cells := 0, slots := 0, locals := 68 } : Room)).room s m args below meth c H locs 0 0 (MQ below (cQv N D dA A y) args s 0 0 (gA (cLive N) A)) (F0 m 2 ls []) := by
    intro n
    induction n with
    | zero =>
      intro x1 M2 H locs ls Z hl h
      rw [f_X4_giveOne_L2] at h
      cases h
    | succ n3 ih2 =>
      intro x1 M2 H locs ls Z hl h
      rw [f_X4_giveOne_L2] at h
      refine lv_iload_n hx hb dX4_giveOne_2 rfl (lv_at hl 2 rfl) ?_
      refine lv_aload_n hx hb dX4_giveOne_3 rfl (lv_at hl 0 rfl) ?_
      refine cr_X4_servers S X Z hin_X4 (cl_one N 13 (by decide)) hl_30 dX4_giveOne_4 ?_
      refine g_alR (i := (7, 0, 0)) (ca := 2) rfl S X Z (cl_one N 7 (by decide)) rfl dX4_giveOne_7 ?_
      refine lv_icmp_ge (tgt := 90) hx hb dX4_giveOne_8 (by decide) (fun c4 => ?_) (fun c4 => ?_)
      · have h := if_t c4 h
        have hy := Option.some.inj h
        subst hy
        exact g_rv S Z hr hlocks dX4_giveOne_90
      · have h := if_f c4 h
        refine lv_aload_n hx hb dX4_giveOne_11 rfl (lv_at hl 0 rfl) ?_
        refine cr_X4_group S X Z hin_X4 (cl_one N 13 (by decide)) hl_44 dX4_giveOne_12 h (fun v5 h => ?_)
        refine lv_iload_n hx hb dX4_giveOne_15 rfl (lv_at hl 2 rfl) ?_
        obtain ⟨v7, hc6, h⟩ := o1_e h
        refine c_i X Z (c_SN (As := [.int v5, .int x1]) (rest := []) S X hN Z (t_X10_isIn l N D dA A hJ  hc6) ⟨va_cnB 2 hts (cG (cB 175 rfl)) rfl rfl rfl (hN.2 ("ReplicaFiles$Meeting", 113, yX10_isIn, "ReplicaFiles") (by decide +kernel)) (hts (.initialized RX10) (cBc 107 rfl)) (by decide +kernel) ⟨Nat.le_of_ble_eq_true rfl, Nat.le_of_ble_eq_true rfl⟩, hts (.static yX10_isIn) (cBc 178 rfl), trivial⟩ rfl hl.1 rfl (Nat.le_of_ble_eq_true rfl) dX4_giveOne_16 ⟨Nat.zero_le _, Nat.zero_le _⟩) (fun H locs Z => ?_)
        obtain ⟨J84, eJ84, h⟩ := jn_e h
        have hJ84 : ∀ (M8 : gM) (H : Heap) (locs : List Loc) (ls : Array Slot), gZ D (cLay N) dA (cLive N) A (gA (cLive N) A) s.heap M8 H locs → lv_has ls 3 [(0, .ref (A (13, 0, 0))), (1, .int a1), (2, .int x1)] → J84 M8 = some y → W p l e (headSpec wmX4_giveOne ({ frames := 3, cells := 0, slots := 0, locals := 68 } : Room)).room s m args below meth c H locs 0 0 (MQ below (cQv N D dA A y) args s 0 0 (gA (cLive N) A)) (F0 m 84 ls []) := by
          intro M8 H locs ls Z hl h
          rw [eJ84] at h
          try dsimp only at h
          obtain ⟨x9, ex9, h⟩ := lt_e h
          refine lv_iinc (v := x9) (lv' := [(2, .int x9), (0, .ref (A (13, 0, 0))), (1, .int a1)]) hx hb dX4_giveOne_84 hl (k := 2) rfl (by rw [ex9]; rfl) (by decide) rfl (fun ls hl => ?_)
          refine lv_goto (tgt := 2) hx hb dX4_giveOne_87 (by decide) ?_
          exact ih2 x9 M8 _ _ _ Z (lv_sub hl [1, 2, 0] rfl) h
        refine lv_if_eq (tgt := 84) hx hb dX4_giveOne_19 (by decide) (fun c10 => ?_) (fun c10 => ?_)
        · have h := if_t c10 h
          exact hJ84 M2 _ _ _ Z (lv_sub hl [0, 1, 2] rfl) h
        · have h := if_f c10 h
          refine lv_aload_n hx hb dX4_giveOne_22 rfl (lv_at hl 0 rfl) ?_
          refine cr_X4_servers S X Z hin_X4 (cl_one N 13 (by decide)) hl_30 dX4_giveOne_23 ?_
          refine lv_iload_n hx hb dX4_giveOne_26 rfl (lv_at hl 2 rfl) ?_
          refine g_aald (i := (7, 0, 0)) (ca := 2) ⟨rfl, rfl⟩ S X Z (cl_one N 7 (by decide)) rfl dX4_giveOne_27 h (fun v11 hv11 h => ?_)
          refine lv_iload_n hx hb dX4_giveOne_28 rfl (lv_at hl 1 rfl) ?_
          refine lv_aload_n hx hb dX4_giveOne_29 rfl (lv_at hl 0 rfl) ?_
          refine cr_X4_candidates S X Z hin_X4 (cl_one N 13 (by decide)) hl_36 dX4_giveOne_30 ?_
          obtain ⟨v13, hc12, h⟩ := o1_e h
          refine c_i X Z (c_V (i := (20, v11, 0)) (As := [.int a1, .ref (A (60, 192, 0))]) (rest := []) S X hN Z (cl_srv hv11) rfl rfl (t_X7_isPlain l N D dA A hJ (cl_srv hv11) (cl_cand N) hc12) (cwV 2 hts (cGV (cB 437 rfl) (cB 438 rfl) (cB 439 rfl) (cB 235 rfl) (cB 429 rfl)) rfl rfl rfl (by decide +kernel) ⟨Nat.le_of_ble_eq_true rfl, Nat.le_of_ble_eq_true rfl⟩) rfl hl.1 rfl (Nat.le_of_ble_eq_true rfl) dX4_giveOne_33 ⟨Nat.zero_le _, Nat.zero_le _⟩) (fun H locs Z => ?_)
          refine lv_if_ne (tgt := 84) hx hb dX4_giveOne_36 (by decide) (fun c14 => ?_) (fun c14 => ?_)
          · have h := if_f c14 h
            exact hJ84 M2 _ _ _ Z (lv_sub hl [0, 1, 2] rfl) h
          · have h := if_t c14 h
            refine lv_aload_n hx hb dX4_giveOne_39 rfl (lv_at hl 0 rfl) ?_
            refine cr_X4_servers S X Z hin_X4 (cl_one N 13 (by decide)) hl_30 dX4_giveOne_40 ?_
            refine lv_iload_n hx hb dX4_giveOne_43 rfl (lv_at hl 2 rfl) ?_
            refine g_aald (i := (7, 0, 0)) (ca := 2) ⟨rfl, rfl⟩ S X Z (cl_one N 7 (by decide)) rfl dX4_giveOne_44 h (fun v15 hv15 h => ?_)
            refine lv_iload_n hx hb dX4_giveOne_45 rfl (lv_at hl 1 rfl) ?_
            refine lv_aload_n hx hb dX4_giveOne_46 rfl (lv_at hl 0 rfl) ?_
            refine cr_X4_candidates S X Z hin_X4 (cl_one N 13 (by decide)) hl_36 dX4_giveOne_47 ?_
            refine cn_X9_value (a := 192) S X Z hin_X9 (cl_cand N) hl_209 dX4_giveOne_50 ?_
            refine lv_iconst (v := (0 : Int32)) hx hb dX4_giveOne_53 (by decide) ?_
            refine g_iald (i := (61, 192, 0)) (n := (cMost 192)) S X Z (cl_X9_value (cl_cand N)) rfl dX4_giveOne_54 h (fun v16 h => ?_)
            refine lv_aload_n hx hb dX4_giveOne_55 rfl (lv_at hl 0 rfl) ?_
            refine cr_X4_candidates S X Z hin_X4 (cl_one N 13 (by decide)) hl_36 dX4_giveOne_56 ?_
            refine cn_X9_size (a := 192) S X Z hin_X9 (cl_cand N) hl_210 dX4_giveOne_59 ?_
            refine lv_iconst (v := (0 : Int32)) hx hb dX4_giveOne_62 (by decide) ?_
            refine g_iald (i := (62, 192, 0)) (n := (cMost 192)) S X Z (cl_X9_size (cl_cand N)) rfl dX4_giveOne_63 h (fun v17 h => ?_)
            refine lv_aload_n hx hb dX4_giveOne_64 rfl (lv_at hl 0 rfl) ?_
            refine cr_X4_candidates S X Z hin_X4 (cl_one N 13 (by decide)) hl_36 dX4_giveOne_65 ?_
            refine cn_X9_counts (a := 192) S X Z hin_X9 (cl_cand N) hl_144 dX4_giveOne_68 ?_
            refine lv_iconst (v := (0 : Int32)) hx hb dX4_giveOne_71 (by decide) ?_
            refine g_aald (i := (63, 192, 0)) (ca := 5) ⟨rfl, rfl⟩ S X Z (cl_X9_counts (cl_cand N)) rfl dX4_giveOne_72 h (fun v18 hv18 h => ?_)
            obtain ⟨M20, hc19, h⟩ := o1_e h
            refine c_v X Z (c_V (i := (20, v15, 0)) (As := [.int a1, .int v16, .int v17, .ref (A (64, 192, v18))]) (rest := []) S X hN Z (cl_srv hv15) rfl rfl (t_X7_setPlain l N D dA A hJ (cl_srv hv15) ⟨(cl_64 (cl_X9_counts (cl_cand N)) hv18), rfl⟩ hc19) (cwV 4 hts (cGV (cB 440 rfl) (cB 441 rfl) (cB 442 rfl) (cB 235 rfl) (cB 435 rfl)) rfl rfl rfl (by decide +kernel) ⟨Nat.le_of_ble_eq_true rfl, Nat.le_of_ble_eq_true rfl⟩) rfl hl.1 rfl (Nat.le_of_ble_eq_true rfl) dX4_giveOne_73 ⟨Nat.zero_le _, Nat.zero_le _⟩) (fun H locs Z => ?_)
            refine lv_aload_n hx hb dX4_giveOne_76 rfl (lv_at hl 0 rfl) ?_
            refine lv_iconst (v := (1 : Int32)) hx hb dX4_giveOne_77 (by decide) ?_
            refine lv_iload_n hx hb dX4_giveOne_78 rfl (lv_at hl 2 rfl) ?_
            refine lv_ishl hx hb dX4_giveOne_79 ?_
            refine lv_iload_n hx hb dX4_giveOne_80 rfl (lv_at hl 1 rfl) ?_
            obtain ⟨M22, hc21, h⟩ := o1_e h
            refine c_v X Z (c_V (i := (13, 0, 0)) (As := [.int ((1 : Int32) <<< (x1 &&& 31)), .int a1]) (rest := []) S X hN Z (cl_one N 13 (by decide)) rfl rfl (t_X4_noteChange l N D dA A hJ  hc21) (cwV 2 hts (cGV (cB 357 rfl) (cB 358 rfl) (cB 359 rfl) (cB 341 rfl) (cB 350 rfl)) rfl rfl rfl (by decide +kernel) ⟨Nat.le_of_ble_eq_true rfl, Nat.le_of_ble_eq_true rfl⟩) rfl hl.1 rfl (Nat.le_of_ble_eq_true rfl) dX4_giveOne_81 ⟨Nat.zero_le _, Nat.zero_le _⟩) (fun H locs Z => ?_)
            exact hJ84 M22 _ _ _ Z (lv_sub hl [0, 1, 2] rfl) h
  exact hL2 100 (0 : Int32) M _ _ _ Z (lv_sub hl [1, 2, 0] rfl) h
-- X9_takeFirst (LReplicaFiles$Versions;)V: 28 instructions
theorem dX9_takeFirst_0 : decode cX9_takeFirst 0 = .ok (.aload_n 0, 1) := by decide +kernel
theorem dX9_takeFirst_1 : decode cX9_takeFirst 1 = .ok (.invokevirtual 47, 3) := by decide +kernel
theorem dX9_takeFirst_4 : decode cX9_takeFirst 4 = .ok (.iconst 0, 1) := by decide +kernel
theorem dX9_takeFirst_5 : decode cX9_takeFirst 5 = .ok (.istore_n 2, 1) := by decide +kernel
theorem dX9_takeFirst_6 : decode cX9_takeFirst 6 = .ok (.iload_n 2, 1) := by decide +kernel
theorem dX9_takeFirst_7 : decode cX9_takeFirst 7 = .ok (.aload_n 1, 1) := by decide +kernel
theorem dX9_takeFirst_8 : decode cX9_takeFirst 8 = .ok (.getfield 21, 3) := by decide +kernel
theorem dX9_takeFirst_11 : decode cX9_takeFirst 11 = .ok (.if_icmp .ge 38, 3) := by decide +kernel
theorem dX9_takeFirst_14 : decode cX9_takeFirst 14 = .ok (.aload_n 0, 1) := by decide +kernel
theorem dX9_takeFirst_15 : decode cX9_takeFirst 15 = .ok (.invokevirtual 25, 3) := by decide +kernel
theorem dX9_takeFirst_18 : decode cX9_takeFirst 18 = .ok (.ifCond .ne 31, 3) := by decide +kernel
theorem dX9_takeFirst_21 : decode cX9_takeFirst 21 = .ok (.aload_n 0, 1) := by decide +kernel
theorem dX9_takeFirst_22 : decode cX9_takeFirst 22 = .ok (.aload_n 1, 1) := by decide +kernel
theorem dX9_takeFirst_23 : decode cX9_takeFirst 23 = .ok (.getfield 7, 3) := by decide +kernel
theorem dX9_takeFirst_26 : decode cX9_takeFirst 26 = .ok (.iload_n 2, 1) := by decide +kernel
theorem dX9_takeFirst_27 : decode cX9_takeFirst 27 = .ok (.iaload, 1) := by decide +kernel
theorem dX9_takeFirst_28 : decode cX9_takeFirst 28 = .ok (.aload_n 1, 1) := by decide +kernel
theorem dX9_takeFirst_29 : decode cX9_takeFirst 29 = .ok (.getfield 13, 3) := by decide +kernel
theorem dX9_takeFirst_32 : decode cX9_takeFirst 32 = .ok (.iload_n 2, 1) := by decide +kernel
theorem dX9_takeFirst_33 : decode cX9_takeFirst 33 = .ok (.iaload, 1) := by decide +kernel
theorem dX9_takeFirst_34 : decode cX9_takeFirst 34 = .ok (.aload_n 1, 1) := by decide +kernel
theorem dX9_takeFirst_35 : decode cX9_takeFirst 35 = .ok (.getfield 18, 3) := by decide +kernel
theorem dX9_takeFirst_38 : decode cX9_takeFirst 38 = .ok (.iload_n 2, 1) := by decide +kernel
theorem dX9_takeFirst_39 : decode cX9_takeFirst 39 = .ok (.aaload, 1) := by decide +kernel
theorem dX9_takeFirst_40 : decode cX9_takeFirst 40 = .ok (.invokevirtual 39, 3) := by decide +kernel
theorem dX9_takeFirst_43 : decode cX9_takeFirst 43 = .ok (.iinc 2 1, 3) := by decide +kernel
theorem dX9_takeFirst_46 : decode cX9_takeFirst 46 = .ok (.goto (-40), 3) := by decide +kernel
theorem dX9_takeFirst_49 : decode cX9_takeFirst 49 = .ok (.return_, 1) := by decide +kernel
abbrev wmX9_takeFirst : List Cond := .code yX9_takeFirst cX9_takeFirst 3 none :: cBig
def f_X9_takeFirst_L6 (N : Nat) (i0 : Nat) (i1 : Nat) : Nat → Int32 → gM → Option gM
  | 0, _, _ => none
  | n5 + 1, x3, M4 => lt (M4 (60, i1, 0) 3) (fun v6 => (if v6 ≤ x3 then some M4 else o1 (f_X9_isFull N M4 i0) (fun v9 => (if v9 = 0 then rd M4 (61, i1, 0) (cMost i1) x3 (fun v11 => rd M4 (62, i1, 0) (cMost i1) x3 (fun v12 => ix x3 (cMost i1) (fun v13 => o1 (f_X9_add N M4 i0 v11 v12 (64, i1, v13)) (fun M15 => lt (x3 + 1) (fun x16 => f_X9_takeFirst_L6 N i0 i1 n5 x16 M15))))) else some M4))))
def f_X9_takeFirst (N : Nat) (M : gM) (i0 : Nat) (i1 : Nat) : Option gM :=
  o1 (f_X9_clear N M i0) (fun M2 => f_X9_takeFirst_L6 N i0 i1 100 (0 : Int32) M2)
set_option maxHeartbeats 4000000 in
set_option maxRecDepth 100000 in
theorem t_X9_takeFirst (l : Launch) (N : Nat) (D : va_G) (dA : Nat → ClassId) (A : gI → Nat) (hJ : gJ (cLive N) A) {M : gM} {i0 : Nat} {i1 : Nat} (hi0 : cLive N (60, i0, 0)) (hi1 : cLive N (60, i1, 0)) {y : gM} (h : f_X9_takeFirst N M i0 i1 = some y) : cMv l yX9_takeFirst wmX9_takeFirst ({ frames := 2, cells := 0, slots := 0, locals := 45 } : Room) N D dA A [.ref (A (60, i0, 0)), .ref (A (60, i1, 0))] M y := by
  refine Met.ofW (cc := cX9_takeFirst) (maxL := 3) (ret := none) (by decide) rfl ?_
  intro p e s m args below meth c s₁ B hml hv
  obtain ⟨rfl, hP, hK, hN⟩ := hv
  generalize hargs : ([.ref (A (60, i0, 0)), .ref (A (60, i1, 0))] : List Value).toArray = args at B ⊢
  have S : CallFix p m c cX9_takeFirst 3 s args wmX9_takeFirst RX9 := ⟨B.exec, B.bytes, hml, findClass_of_methodNamed B.named, atoms_spec (ws := wmX9_takeFirst) B.pre⟩
  obtain ⟨hx, hb, -, hown, hts⟩ := id S
  have hr := B.returns
  have hlocks := B.notSynchronized
  have X : gX D vwCl dA (cLive N) A (gA (cLive N) A) s := ⟨hK, hJ, fun i hi => ⟨i, hi, rfl⟩⟩
  have Z : gZ D (cLay N) dA (cLive N) A (gA (cLive N) A) s.heap M s.heap [] := ⟨hP, va_S.rf⟩
  have hin_X9 : ∀ w ∈ wsX90, w ∈ wmX9_takeFirst := cin_X9
  have hl_7 := hts (.fieldLink RX9 7 "ReplicaFiles$Versions" "value" "[I") (cBc 184 rfl)
  have hl_13 := hts (.fieldLink RX9 13 "ReplicaFiles$Versions" "size" "[I") (cBc 186 rfl)
  have hl_18 := hts (.fieldLink RX9 18 "ReplicaFiles$Versions" "counts" "[[I") (cBc 187 rfl)
  have hl_21 := hts (.fieldLink RX9 21 "ReplicaFiles$Versions" "length" "I") (cBc 183 rfl)
  have hl := lv_entry ([.ref (A (60, i0, 0)), .ref (A (60, i1, 0))]) (n := 3) (Nat.le_of_ble_eq_true rfl)
  rw [← hargs, lg_entry_eq, hargs]
  generalize (lg_sl ([.ref (A (60, i0, 0)), .ref (A (60, i1, 0))]) ++ List.replicate (3 - (lg_sl ([.ref (A (60, i0, 0)), .ref (A (60, i1, 0))])).length) Slot.unset).toArray = ls at hl ⊢
  have hl : lv_has ls 3 [(0, .ref (A (60, i0, 0))), (1, .ref (A (60, i1, 0)))] := hl
  unfold f_X9_takeFirst at h
  refine lv_aload_n hx hb dX9_takeFirst_0 rfl (lv_at hl 0 rfl) ?_
  obtain ⟨M2, hc1, h⟩ := o1_e h
  refine c_v X Z (c_V (i := (60, i0, 0)) (As := []) (rest := []) S X hN Z hi0 rfl rfl (t_X9_clear l N D dA A hJ hi0 hc1) (cwV 0 hts (cGV (cB 445 rfl) (cB 278 rfl) (cB 279 rfl) (cB 191 rfl) (cB 274 rfl)) rfl rfl rfl (by decide +kernel) ⟨Nat.le_of_ble_eq_true rfl, Nat.le_of_ble_eq_true rfl⟩) rfl hl.1 rfl (Nat.le_of_ble_eq_true rfl) dX9_takeFirst_1 ⟨Nat.zero_le _, Nat.zero_le _⟩) (fun H locs Z => ?_)
  refine lv_iconst (v := (0 : Int32)) hx hb dX9_takeFirst_4 (by decide) ?_
  refine lv_istore_n (lv' := [(2, .int (0 : Int32)), (0, .ref (A (60, i0, 0))), (1, .ref (A (60, i1, 0)))]) hx hb dX9_takeFirst_5 rfl hl (by decide) rfl (fun ls hl => ?_)
  have hL6 : ∀ (n : Nat) (x3 : Int32) (M4 : gM) (H : Heap) (locs : List Loc) (ls : Array Slot), gZ D (cLay N) dA (cLive N) A (gA (cLive N) A) s.heap M4 H locs → lv_has ls 3 [(0, .ref (A (60, i0, 0))), (1, .ref (A (60, i1, 0))), (2, .int x3)] → f_X9_takeFirst_L6 N i0 i1 n x3 M4 = some y → W p l e (headSpec wmX9_takeFirst ({ frames := 2, cells := 0, slots := 0, locals := 45 } : Room)).room s m args below meth c H locs 0 0 (MQ below (cQv N D dA A y) args s 0 0 (gA (cLive N) A)) (F0 m 6 ls []) := by
    intro n
    induction n with
    | zero =>
      intro x3 M4 H locs ls Z hl h
      rw [f_X9_takeFirst_L6] at h
      cases h
    | succ n5 ih6 =>
      intro x3 M4 H locs ls Z hl h
      rw [f_X9_takeFirst_L6] at h
      refine lv_iload_n hx hb dX9_takeFirst_6 rfl (lv_at hl 2 rfl) ?_
      refine lv_aload_n hx hb dX9_takeFirst_7 rfl (lv_at hl 1 rfl) ?_
      refine cr_X9_length (a := i1) S X Z hin_X9 hi1 hl_21 dX9_takeFirst_8 h (fun v6 h => ?_)
      refine lv_icmp_ge (tgt := 49) hx hb dX9_takeFirst_11 (by decide) (fun c7 => ?_) (fun c7 => ?_)
      · have h := if_t c7 h
        have hy := Option.some.inj h
        subst hy
        exact g_rv S Z hr hlocks dX9_takeFirst_49
      · have h := if_f c7 h
        refine lv_aload_n hx hb dX9_takeFirst_14 rfl (lv_at hl 0 rfl) ?_
        obtain ⟨v9, hc8, h⟩ := o1_e h
        refine c_i X Z (c_V (i := (60, i0, 0)) (As := []) (rest := []) S X hN Z hi0 rfl rfl (t_X9_isFull l N D dA A hJ hi0 hc8) (cwV 0 hts (cGV (cB 188 rfl) (cB 189 rfl) (cB 190 rfl) (cB 191 rfl) (cB 182 rfl)) rfl rfl rfl (by decide +kernel) ⟨Nat.le_of_ble_eq_true rfl, Nat.le_of_ble_eq_true rfl⟩) rfl hl.1 rfl (Nat.le_of_ble_eq_true rfl) dX9_takeFirst_15 ⟨Nat.zero_le _, Nat.zero_le _⟩) (fun H locs Z => ?_)
        refine lv_if_ne (tgt := 49) hx hb dX9_takeFirst_18 (by decide) (fun c10 => ?_) (fun c10 => ?_)
        · have h := if_f c10 h
          have hy := Option.some.inj h
          subst hy
          exact g_rv S Z hr hlocks dX9_takeFirst_49
        · have h := if_t c10 h
          refine lv_aload_n hx hb dX9_takeFirst_21 rfl (lv_at hl 0 rfl) ?_
          refine lv_aload_n hx hb dX9_takeFirst_22 rfl (lv_at hl 1 rfl) ?_
          refine cr_X9_value (a := i1) S X Z hin_X9 hi1 hl_7 dX9_takeFirst_23 ?_
          refine lv_iload_n hx hb dX9_takeFirst_26 rfl (lv_at hl 2 rfl) ?_
          refine g_iald (i := (61, i1, 0)) (n := (cMost i1)) S X Z (cl_X9_value hi1) rfl dX9_takeFirst_27 h (fun v11 h => ?_)
          refine lv_aload_n hx hb dX9_takeFirst_28 rfl (lv_at hl 1 rfl) ?_
          refine cr_X9_size (a := i1) S X Z hin_X9 hi1 hl_13 dX9_takeFirst_29 ?_
          refine lv_iload_n hx hb dX9_takeFirst_32 rfl (lv_at hl 2 rfl) ?_
          refine g_iald (i := (62, i1, 0)) (n := (cMost i1)) S X Z (cl_X9_size hi1) rfl dX9_takeFirst_33 h (fun v12 h => ?_)
          refine lv_aload_n hx hb dX9_takeFirst_34 rfl (lv_at hl 1 rfl) ?_
          refine cr_X9_counts (a := i1) S X Z hin_X9 hi1 hl_18 dX9_takeFirst_35 ?_
          refine lv_iload_n hx hb dX9_takeFirst_38 rfl (lv_at hl 2 rfl) ?_
          refine g_aald (i := (63, i1, 0)) (ca := 5) ⟨rfl, rfl⟩ S X Z (cl_X9_counts hi1) rfl dX9_takeFirst_39 h (fun v13 hv13 h => ?_)
          obtain ⟨M15, hc14, h⟩ := o1_e h
          refine c_v X Z (c_V (i := (60, i0, 0)) (As := [.int v11, .int v12, .ref (A (64, i1, v13))]) (rest := []) S X hN Z hi0 rfl rfl (t_X9_add l N D dA A hJ hi0 ⟨(cl_64 (cl_X9_counts hi1) hv13), rfl⟩ hc14) (cwV 3 hts (cGV (cB 410 rfl) (cB 212 rfl) (cB 213 rfl) (cB 191 rfl) (cB 185 rfl)) rfl rfl rfl (by decide +kernel) ⟨Nat.le_of_ble_eq_true rfl, Nat.le_of_ble_eq_true rfl⟩) rfl hl.1 rfl (Nat.le_of_ble_eq_true rfl) dX9_takeFirst_40 ⟨Nat.zero_le _, Nat.zero_le _⟩) (fun H locs Z => ?_)
          obtain ⟨x16, ex16, h⟩ := lt_e h
          refine lv_iinc (v := x16) (lv' := [(2, .int x16), (0, .ref (A (60, i0, 0))), (1, .ref (A (60, i1, 0)))]) hx hb dX9_takeFirst_43 hl (k := 2) rfl (by rw [ex16]; rfl) (by decide) rfl (fun ls hl => ?_)
          refine lv_goto (tgt := 6) hx hb dX9_takeFirst_46 (by decide) ?_
          exact ih6 x16 M15 _ _ _ Z (lv_sub hl [1, 2, 0] rfl) h
  exact hL6 100 (0 : Int32) M2 _ _ _ Z (lv_sub hl [1, 2, 0] rfl) h
-- X7_setVersions (ILReplicaFiles$Versions;[I)V: 32 instructions
theorem dX7_setVersions_0 : decode cX7_setVersions 0 = .ok (.aload_n 0, 1) := by decide +kernel
theorem dX7_setVersions_1 : decode cX7_setVersions 1 = .ok (.getfield 11, 3) := by decide +kernel
theorem dX7_setVersions_4 : decode cX7_setVersions 4 = .ok (.iload_n 1, 1) := by decide +kernel
theorem dX7_setVersions_5 : decode cX7_setVersions 5 = .ok (.aaload, 1) := by decide +kernel
theorem dX7_setVersions_6 : decode cX7_setVersions 6 = .ok (.aload_n 2, 1) := by decide +kernel
theorem dX7_setVersions_7 : decode cX7_setVersions 7 = .ok (.invokevirtual 77, 3) := by decide +kernel
theorem dX7_setVersions_10 : decode cX7_setVersions 10 = .ok (.aload_n 0, 1) := by decide +kernel
theorem dX7_setVersions_11 : decode cX7_setVersions 11 = .ok (.getfield 26, 3) := by decide +kernel
theorem dX7_setVersions_14 : decode cX7_setVersions 14 = .ok (.getfield 30, 3) := by decide +kernel
theorem dX7_setVersions_17 : decode cX7_setVersions 17 = .ok (.iload_n 1, 1) := by decide +kernel
theorem dX7_setVersions_18 : decode cX7_setVersions 18 = .ok (.iconst 1, 1) := by decide +kernel
theorem dX7_setVersions_19 : decode cX7_setVersions 19 = .ok (.bastore, 1) := by decide +kernel
theorem dX7_setVersions_20 : decode cX7_setVersions 20 = .ok (.aload_n 0, 1) := by decide +kernel
theorem dX7_setVersions_21 : decode cX7_setVersions 21 = .ok (.getfield 26, 3) := by decide +kernel
theorem dX7_setVersions_24 : decode cX7_setVersions 24 = .ok (.iload_n 1, 1) := by decide +kernel
theorem dX7_setVersions_25 : decode cX7_setVersions 25 = .ok (.aload_n 2, 1) := by decide +kernel
theorem dX7_setVersions_26 : decode cX7_setVersions 26 = .ok (.getfield 81, 3) := by decide +kernel
theorem dX7_setVersions_29 : decode cX7_setVersions 29 = .ok (.iconst 0, 1) := by decide +kernel
theorem dX7_setVersions_30 : decode cX7_setVersions 30 = .ok (.iaload, 1) := by decide +kernel
theorem dX7_setVersions_31 : decode cX7_setVersions 31 = .ok (.aload_n 2, 1) := by decide +kernel
theorem dX7_setVersions_32 : decode cX7_setVersions 32 = .ok (.getfield 82, 3) := by decide +kernel
theorem dX7_setVersions_35 : decode cX7_setVersions 35 = .ok (.iconst 0, 1) := by decide +kernel
theorem dX7_setVersions_36 : decode cX7_setVersions 36 = .ok (.iaload, 1) := by decide +kernel
theorem dX7_setVersions_37 : decode cX7_setVersions 37 = .ok (.invokevirtual 48, 3) := by decide +kernel
theorem dX7_setVersions_40 : decode cX7_setVersions 40 = .ok (.aload_n 0, 1) := by decide +kernel
theorem dX7_setVersions_41 : decode cX7_setVersions 41 = .ok (.getfield 26, 3) := by decide +kernel
theorem dX7_setVersions_44 : decode cX7_setVersions 44 = .ok (.getfield 52, 3) := by decide +kernel
theorem dX7_setVersions_47 : decode cX7_setVersions 47 = .ok (.iload_n 1, 1) := by decide +kernel
theorem dX7_setVersions_48 : decode cX7_setVersions 48 = .ok (.aaload, 1) := by decide +kernel
theorem dX7_setVersions_49 : decode cX7_setVersions 49 = .ok (.aload_n 3, 1) := by decide +kernel
theorem dX7_setVersions_50 : decode cX7_setVersions 50 = .ok (.invokestatic 56, 3) := by decide +kernel
theorem dX7_setVersions_53 : decode cX7_setVersions 53 = .ok (.return_, 1) := by decide +kernel
abbrev wmX7_setVersions : List Cond := .code yX7_setVersions cX7_setVersions 4 none :: cBig
def f_X7_setVersions (N : Nat) (M : gM) (i0 : Nat) (a1 : Int32) (i2 : Nat) (a3 : gI) : Option gM :=
  ix a1 48 (fun v1 => o1 (f_X9_takeFirst N M (48 * i0 + v1) i2) (fun M3 => wz M3 (51, i0, 0) 48 a1 (1 : Int32) (fun M4 => rd M4 (61, i2, 0) (cMost i2) (0 : Int32) (fun v5 => rd M4 (62, i2, 0) (cMost i2) (0 : Int32) (fun v6 => o1 (f_X8_setFile N M4 i0 a1 v5 v6) (fun M8 => ix a1 48 (fun v9 => o1 (f_X10_assign N M8 (55, i0, v9) a3) (fun M11 => some M11))))))))
set_option maxHeartbeats 4000000 in
set_option maxRecDepth 100000 in
theorem t_X7_setVersions (l : Launch) (N : Nat) (D : va_G) (dA : Nat → ClassId) (A : gI → Nat) (hJ : gJ (cLive N) A) {M : gM} {i0 : Nat} {a1 : Int32} {i2 : Nat} {a3 : gI} (hi0 : cLive N (20, i0, 0)) (hi2 : cLive N (60, i2, 0)) (ha3 : cArr N a3) {y : gM} (h : f_X7_setVersions N M i0 a1 i2 a3 = some y) : cMv l yX7_setVersions wmX7_setVersions ({ frames := 3, cells := 0, slots := 0, locals := 67 } : Room) N D dA A [.ref (A (20, i0, 0)), .int a1, .ref (A (60, i2, 0)), .ref (A a3)] M y := by
  refine Met.ofW (cc := cX7_setVersions) (maxL := 4) (ret := none) (by decide) rfl ?_
  intro p e s m args below meth c s₁ B hml hv
  obtain ⟨rfl, hP, hK, hN⟩ := hv
  generalize hargs : ([.ref (A (20, i0, 0)), .int a1, .ref (A (60, i2, 0)), .ref (A a3)] : List Value).toArray = args at B ⊢
  have S : CallFix p m c cX7_setVersions 4 s args wmX7_setVersions RX7 := ⟨B.exec, B.bytes, hml, findClass_of_methodNamed B.named, atoms_spec (ws := wmX7_setVersions) B.pre⟩
  obtain ⟨hx, hb, -, hown, hts⟩ := id S
  have hr := B.returns
  have hlocks := B.notSynchronized
  have X : gX D vwCl dA (cLive N) A (gA (cLive N) A) s := ⟨hK, hJ, fun i hi => ⟨i, hi, rfl⟩⟩
  have Z : gZ D (cLay N) dA (cLive N) A (gA (cLive N) A) s.heap M s.heap [] := ⟨hP, va_S.rf⟩
  have hin_X7 : ∀ w ∈ wsX70, w ∈ wmX7_setVersions := cin_X7
  have hin_X8 : ∀ w ∈ wsX80, w ∈ wmX7_setVersions := cin_X8
  have hin_X9 : ∀ w ∈ wsX90, w ∈ wmX7_setVersions := cin_X9
  have hl_11 := hts (.fieldLink RX7 11 "ReplicaFiles$Server" "versions" "[LReplicaFiles$Versions;") (cBc 180 rfl)
  have hl_26 := hts (.fieldLink RX7 26 "ReplicaFiles$Server" "tree" "LReplicaFiles$Tree;") (cBc 275 rfl)
  have hl_30 := va_Nw.use (A := args) rfl (hN.1 ("ReplicaFiles$Server", 30, "ReplicaFiles$Tree", "held", "[Z", "ReplicaFiles") (by decide +kernel))
  have hl_52 := va_Nw.use (A := args) rfl (hN.1 ("ReplicaFiles$Server", 52, "ReplicaFiles$Tree", "counts", "[[I", "ReplicaFiles") (by decide +kernel))
  have hl_81 := va_Nw.use (A := args) rfl (hN.1 ("ReplicaFiles$Server", 81, "ReplicaFiles$Versions", "value", "[I", "ReplicaFiles") (by decide +kernel))
  have hl_82 := va_Nw.use (A := args) rfl (hN.1 ("ReplicaFiles$Server", 82, "ReplicaFiles$Versions", "size", "[I", "ReplicaFiles") (by decide +kernel))
  have hl := lv_entry ([.ref (A (20, i0, 0)), .int a1, .ref (A (60, i2, 0)), .ref (A a3)]) (n := 4) (Nat.le_of_ble_eq_true rfl)
  rw [← hargs, lg_entry_eq, hargs]
  generalize (lg_sl ([.ref (A (20, i0, 0)), .int a1, .ref (A (60, i2, 0)), .ref (A a3)]) ++ List.replicate (4 - (lg_sl ([.ref (A (20, i0, 0)), .int a1, .ref (A (60, i2, 0)), .ref (A a3)])).length) Slot.unset).toArray = ls at hl ⊢
  have hl : lv_has ls 4 [(0, .ref (A (20, i0, 0))), (1, .int a1), (2, .ref (A (60, i2, 0))), (3, .ref (A a3))] := hl
  unfold f_X7_setVersions at h
  refine lv_aload_n hx hb dX7_setVersions_0 rfl (lv_at hl 0 rfl) ?_
  refine cr_X7_versions (a := i0) S X Z hin_X7 hi0 hl_11 dX7_setVersions_1 ?_
  refine lv_iload_n hx hb dX7_setVersions_4 rfl (lv_at hl 1 rfl) ?_
  refine g_aald (i := (21, i0, 0)) (ca := 4) ⟨rfl, rfl⟩ S X Z (cl_X7_versions hi0) rfl dX7_setVersions_5 h (fun v1 hv1 h => ?_)
  refine lv_aload_n hx hb dX7_setVersions_6 rfl (lv_at hl 2 rfl) ?_
  obtain ⟨M3, hc2, h⟩ := o1_e h
  refine c_v X Z (c_V (i := (60, (48 * i0 + v1), 0)) (As := [.ref (A (60, i2, 0))]) (rest := []) S X hN Z (cl_ver (cl_X7_versions hi0) hv1) rfl rfl (t_X9_takeFirst l N D dA A hJ (cl_ver (cl_X7_versions hi0) hv1) hi2 hc2) (cwV 1 hts (cGV (cB 446 rfl) (cB 447 rfl) (cB 448 rfl) (cB 191 rfl) (cB 444 rfl)) rfl rfl rfl (by decide +kernel) ⟨Nat.le_of_ble_eq_true rfl, Nat.le_of_ble_eq_true rfl⟩) rfl hl.1 rfl (Nat.le_of_ble_eq_true rfl) dX7_setVersions_7 ⟨Nat.zero_le _, Nat.zero_le _⟩) (fun H locs Z => ?_)
  refine lv_aload_n hx hb dX7_setVersions_10 rfl (lv_at hl 0 rfl) ?_
  refine cr_X7_tree (a := i0) S X Z hin_X7 hi0 hl_26 dX7_setVersions_11 ?_
  refine cn_X8_held (a := i0) S X Z hin_X8 (cl_st hi0) hl_30 dX7_setVersions_14 ?_
  refine lv_iload_n hx hb dX7_setVersions_17 rfl (lv_at hl 1 rfl) ?_
  refine lv_iconst (v := (1 : Int32)) hx hb dX7_setVersions_18 (by decide) ?_
  refine g_zast (i := (51, i0, 0)) (n := 48) S X Z (cl_X8_held (cl_st hi0)) rfl dX7_setVersions_19 h (fun M4 H locs Z h => ?_)
  refine lv_aload_n hx hb dX7_setVersions_20 rfl (lv_at hl 0 rfl) ?_
  refine cr_X7_tree (a := i0) S X Z hin_X7 hi0 hl_26 dX7_setVersions_21 ?_
  refine lv_iload_n hx hb dX7_setVersions_24 rfl (lv_at hl 1 rfl) ?_
  refine lv_aload_n hx hb dX7_setVersions_25 rfl (lv_at hl 2 rfl) ?_
  refine cn_X9_value (a := i2) S X Z hin_X9 hi2 hl_81 dX7_setVersions_26 ?_
  refine lv_iconst (v := (0 : Int32)) hx hb dX7_setVersions_29 (by decide) ?_
  refine g_iald (i := (61, i2, 0)) (n := (cMost i2)) S X Z (cl_X9_value hi2) rfl dX7_setVersions_30 h (fun v5 h => ?_)
  refine lv_aload_n hx hb dX7_setVersions_31 rfl (lv_at hl 2 rfl) ?_
  refine cn_X9_size (a := i2) S X Z hin_X9 hi2 hl_82 dX7_setVersions_32 ?_
  refine lv_iconst (v := (0 : Int32)) hx hb dX7_setVersions_35 (by decide) ?_
  refine g_iald (i := (62, i2, 0)) (n := (cMost i2)) S X Z (cl_X9_size hi2) rfl dX7_setVersions_36 h (fun v6 h => ?_)
  obtain ⟨M8, hc7, h⟩ := o1_e h
  refine c_v X Z (c_V (i := (50, i0, 0)) (As := [.int a1, .int v5, .int v6]) (rest := []) S X hN Z (cl_st hi0) rfl rfl (t_X8_setFile l N D dA A hJ (cl_st hi0) hc7) (cwV 3 hts (cGV (cB 436 rfl) (cB 71 rfl) (cB 72 rfl) (cB 44 rfl) (cB 67 rfl)) rfl rfl rfl (by decide +kernel) ⟨Nat.le_of_ble_eq_true rfl, Nat.le_of_ble_eq_true rfl⟩) rfl hl.1 rfl (Nat.le_of_ble_eq_true rfl) dX7_setVersions_37 ⟨Nat.zero_le _, Nat.zero_le _⟩) (fun H locs Z => ?_)
  refine lv_aload_n hx hb dX7_setVersions_40 rfl (lv_at hl 0 rfl) ?_
  refine cr_X7_tree (a := i0) S X Z hin_X7 hi0 hl_26 dX7_setVersions_41 ?_
  refine cn_X8_counts (a := i0) S X Z hin_X8 (cl_st hi0) hl_52 dX7_setVersions_44 ?_
  refine lv_iload_n hx hb dX7_setVersions_47 rfl (lv_at hl 1 rfl) ?_
  refine g_aald (i := (54, i0, 0)) (ca := 5) ⟨rfl, rfl⟩ S X Z (cl_X8_counts (cl_st hi0)) rfl dX7_setVersions_48 h (fun v9 hv9 h => ?_)
  refine lv_aload_n hx hb dX7_setVersions_49 rfl (lv_at hl 3 rfl) ?_
  obtain ⟨M11, hc10, h⟩ := o1_e h
  refine c_v X Z (c_SN (As := [.ref (A (55, i0, v9)), .ref (A a3)]) (rest := []) S X hN Z (t_X10_assign l N D dA A hJ ⟨(cl_55 (cl_X8_counts (cl_st hi0)) hv9), rfl⟩ ha3 hc10) ⟨va_cnB 2 hts (cG (cB 104 rfl)) rfl rfl rfl (hN.2 ("ReplicaFiles$Server", 56, yX10_assign, "ReplicaFiles") (by decide +kernel)) (hts (.initialized RX10) (cBc 107 rfl)) (by decide +kernel) ⟨Nat.le_of_ble_eq_true rfl, Nat.le_of_ble_eq_true rfl⟩, hts (.static yX10_assign) (cBc 106 rfl), trivial⟩ rfl hl.1 rfl (Nat.le_of_ble_eq_true rfl) dX7_setVersions_50 ⟨Nat.zero_le _, Nat.zero_le _⟩) (fun H locs Z => ?_)
  have hy := Option.some.inj h
  subst hy
  exact g_rv S Z hr hlocks dX7_setVersions_53
-- X4_giveSeveral (I)V: 54 instructions
theorem dX4_giveSeveral_0 : decode cX4_giveSeveral 0 = .ok (.aload_n 0, 1) := by decide +kernel
theorem dX4_giveSeveral_1 : decode cX4_giveSeveral 1 = .ok (.iload_n 1, 1) := by decide +kernel
theorem dX4_giveSeveral_2 : decode cX4_giveSeveral 2 = .ok (.invokevirtual 174, 3) := by decide +kernel
theorem dX4_giveSeveral_5 : decode cX4_giveSeveral 5 = .ok (.iconst 0, 1) := by decide +kernel
theorem dX4_giveSeveral_6 : decode cX4_giveSeveral 6 = .ok (.istore_n 2, 1) := by decide +kernel
theorem dX4_giveSeveral_7 : decode cX4_giveSeveral 7 = .ok (.iload_n 2, 1) := by decide +kernel
theorem dX4_giveSeveral_8 : decode cX4_giveSeveral 8 = .ok (.aload_n 0, 1) := by decide +kernel
theorem dX4_giveSeveral_9 : decode cX4_giveSeveral 9 = .ok (.getfield 30, 3) := by decide +kernel
theorem dX4_giveSeveral_12 : decode cX4_giveSeveral 12 = .ok (.arraylength, 1) := by decide +kernel
theorem dX4_giveSeveral_13 : decode cX4_giveSeveral 13 = .ok (.if_icmp .ge 38, 3) := by decide +kernel
theorem dX4_giveSeveral_16 : decode cX4_giveSeveral 16 = .ok (.aload_n 0, 1) := by decide +kernel
theorem dX4_giveSeveral_17 : decode cX4_giveSeveral 17 = .ok (.getfield 44, 3) := by decide +kernel
theorem dX4_giveSeveral_20 : decode cX4_giveSeveral 20 = .ok (.iload_n 2, 1) := by decide +kernel
theorem dX4_giveSeveral_21 : decode cX4_giveSeveral 21 = .ok (.invokestatic 113, 3) := by decide +kernel
theorem dX4_giveSeveral_24 : decode cX4_giveSeveral 24 = .ok (.ifCond .eq 21, 3) := by decide +kernel
theorem dX4_giveSeveral_27 : decode cX4_giveSeveral 27 = .ok (.aload_n 0, 1) := by decide +kernel
theorem dX4_giveSeveral_28 : decode cX4_giveSeveral 28 = .ok (.getfield 30, 3) := by decide +kernel
theorem dX4_giveSeveral_31 : decode cX4_giveSeveral 31 = .ok (.iload_n 2, 1) := by decide +kernel
theorem dX4_giveSeveral_32 : decode cX4_giveSeveral 32 = .ok (.aaload, 1) := by decide +kernel
theorem dX4_giveSeveral_33 : decode cX4_giveSeveral 33 = .ok (.iload_n 1, 1) := by decide +kernel
theorem dX4_giveSeveral_34 : decode cX4_giveSeveral 34 = .ok (.aload_n 0, 1) := by decide +kernel
theorem dX4_giveSeveral_35 : decode cX4_giveSeveral 35 = .ok (.getfield 36, 3) := by decide +kernel
theorem dX4_giveSeveral_38 : decode cX4_giveSeveral 38 = .ok (.aload_n 0, 1) := by decide +kernel
theorem dX4_giveSeveral_39 : decode cX4_giveSeveral 39 = .ok (.getfield 40, 3) := by decide +kernel
theorem dX4_giveSeveral_42 : decode cX4_giveSeveral 42 = .ok (.invokevirtual 222, 3) := by decide +kernel
theorem dX4_giveSeveral_45 : decode cX4_giveSeveral 45 = .ok (.iinc 2 1, 3) := by decide +kernel
theorem dX4_giveSeveral_48 : decode cX4_giveSeveral 48 = .ok (.goto (-41), 3) := by decide +kernel
theorem dX4_giveSeveral_51 : decode cX4_giveSeveral 51 = .ok (.aload_n 0, 1) := by decide +kernel
theorem dX4_giveSeveral_52 : decode cX4_giveSeveral 52 = .ok (.getfield 15, 3) := by decide +kernel
theorem dX4_giveSeveral_55 : decode cX4_giveSeveral 55 = .ok (.aload_n 0, 1) := by decide +kernel
theorem dX4_giveSeveral_56 : decode cX4_giveSeveral 56 = .ok (.getfield 44, 3) := by decide +kernel
theorem dX4_giveSeveral_59 : decode cX4_giveSeveral 59 = .ok (.iload_n 1, 1) := by decide +kernel
theorem dX4_giveSeveral_60 : decode cX4_giveSeveral 60 = .ok (.invokevirtual 162, 3) := by decide +kernel
theorem dX4_giveSeveral_63 : decode cX4_giveSeveral 63 = .ok (.aload_n 0, 1) := by decide +kernel
theorem dX4_giveSeveral_64 : decode cX4_giveSeveral 64 = .ok (.aload_n 0, 1) := by decide +kernel
theorem dX4_giveSeveral_65 : decode cX4_giveSeveral 65 = .ok (.getfield 44, 3) := by decide +kernel
theorem dX4_giveSeveral_68 : decode cX4_giveSeveral 68 = .ok (.iload_n 1, 1) := by decide +kernel
theorem dX4_giveSeveral_69 : decode cX4_giveSeveral 69 = .ok (.invokevirtual 148, 3) := by decide +kernel
theorem dX4_giveSeveral_72 : decode cX4_giveSeveral 72 = .ok (.aload_n 0, 1) := by decide +kernel
theorem dX4_giveSeveral_73 : decode cX4_giveSeveral 73 = .ok (.getfield 15, 3) := by decide +kernel
theorem dX4_giveSeveral_76 : decode cX4_giveSeveral 76 = .ok (.getfield 226, 3) := by decide +kernel
theorem dX4_giveSeveral_79 : decode cX4_giveSeveral 79 = .ok (.iconst 2, 1) := by decide +kernel
theorem dX4_giveSeveral_80 : decode cX4_giveSeveral 80 = .ok (.dup2, 1) := by decide +kernel
theorem dX4_giveSeveral_81 : decode cX4_giveSeveral 81 = .ok (.iaload, 1) := by decide +kernel
theorem dX4_giveSeveral_82 : decode cX4_giveSeveral 82 = .ok (.iconst 0, 1) := by decide +kernel
theorem dX4_giveSeveral_83 : decode cX4_giveSeveral 83 = .ok (.aload_n 0, 1) := by decide +kernel
theorem dX4_giveSeveral_84 : decode cX4_giveSeveral 84 = .ok (.getfield 36, 3) := by decide +kernel
theorem dX4_giveSeveral_87 : decode cX4_giveSeveral 87 = .ok (.getfield 141, 3) := by decide +kernel
theorem dX4_giveSeveral_90 : decode cX4_giveSeveral 90 = .ok (.bipush 6, 2) := by decide +kernel
theorem dX4_giveSeveral_92 : decode cX4_giveSeveral 92 = .ok (.isub, 1) := by decide +kernel
theorem dX4_giveSeveral_93 : decode cX4_giveSeveral 93 = .ok (.invokestatic 117, 3) := by decide +kernel
theorem dX4_giveSeveral_96 : decode cX4_giveSeveral 96 = .ok (.iadd, 1) := by decide +kernel
theorem dX4_giveSeveral_97 : decode cX4_giveSeveral 97 = .ok (.iastore, 1) := by decide +kernel
theorem dX4_giveSeveral_98 : decode cX4_giveSeveral 98 = .ok (.return_, 1) := by decide +kernel
abbrev wmX4_giveSeveral : List Cond := .code yX4_giveSeveral cX4_giveSeveral 3 none :: cBig
def f_X4_giveSeveral_L7 (N : Nat) (a1 : Int32) (J51 : gM → Option gM) : Nat → Int32 → gM → Option gM
  | 0, _, _ => none
  | n15 + 1, x13, M14 => (if (nI N) ≤ x13 then J51 M14 else lt (M14 (13, 0, 0) 6) (fun v17 => o1 (f_X10_isIn N M14 v17 x13) (fun v19 => jn (fun (M20 : gM) => lt (x13 + 1) (fun x21 => f_X4_giveSeveral_L7 N a1 J51 n15 x21 M20)) (fun J45 => (if v19 = 0 then J45 M14 else ix x13 N (fun v23 => o1 (f_X7_setVersions N M14 v23 a1 192 (14, 0, 0)) (fun M25 => J45 M25)))))))
def f_X4_giveSeveral (N : Nat) (M : gM) (a1 : Int32) : Option gM :=
  o1 (f_X4_raiseToAll N M a1) (fun M2 => jn (fun (M3 : gM) => lt (M3 (13, 0, 0) 6) (fun v4 => o1 (f_X6_countAll N M3 v4 a1) (fun M6 => lt (M6 (13, 0, 0) 6) (fun v7 => o1 (f_X4_noteChange N M6 v7 a1) (fun M9 => rd M9 (9, 0, 0) 8 (2 : Int32) (fun v10 => lt (M9 (60, 192, 0) 3) (fun v11 => wr M9 (9, 0, 0) 8 (2 : Int32) (v10 + (if (0 : Int32) < (v11 - (6 : Int32)) then (v11 - (6 : Int32)) else (0 : Int32))) (fun M12 => some M12)))))))) (fun J51 => f_X4_giveSeveral_L7 N a1 J51 100 (0 : Int32) M2))
set_option maxHeartbeats 4000000 in
set_option maxRecDepth 100000 in
theorem t_X4_giveSeveral (l : Launch) (N : Nat) (D : va_G) (dA : Nat → ClassId) (A : gI → Nat) (hJ : gJ (cLive N) A) {M : gM} {a1 : Int32}  {y : gM} (h : f_X4_giveSeveral N M a1 = some y) : cMv l yX4_giveSeveral wmX4_giveSeveral ({ frames := 4, cells := 0, slots := 0, locals := 90 } : Room) N D dA A [.ref (A (13, 0, 0)), .int a1] M y := by
  refine Met.ofW (cc := cX4_giveSeveral) (maxL := 3) (ret := none) (by decide) rfl ?_
  intro p e s m args below meth c s₁ B hml hv
  obtain ⟨rfl, hP, hK, hN⟩ := hv
  generalize hargs : ([.ref (A (13, 0, 0)), .int a1] : List Value).toArray = args at B ⊢
  have S : CallFix p m c cX4_giveSeveral 3 s args wmX4_giveSeveral RX4 := ⟨B.exec, B.bytes, hml, findClass_of_methodNamed B.named, atoms_spec (ws := wmX4_giveSeveral) B.pre⟩
  obtain ⟨hx, hb, -, hown, hts⟩ := id S
  have hr := B.returns
  have hlocks := B.notSynchronized
  have X : gX D vwCl dA (cLive N) A (gA (cLive N) A) s := ⟨hK, hJ, fun i hi => ⟨i, hi, rfl⟩⟩
  have Z : gZ D (cLay N) dA (cLive N) A (gA (cLive N) A) s.heap M s.heap [] := ⟨hP, va_S.rf⟩
  have hin_X4 : ∀ w ∈ wsX40, w ∈ wmX4_giveSeveral := cin_X4
  have hin_X6 : ∀ w ∈ wsX60, w ∈ wmX4_giveSeveral := cin_X6
  have hin_X9 : ∀ w ∈ wsX90, w ∈ wmX4_giveSeveral := cin_X9
  have hl_15 := hts (.fieldLink RX4 15 "ReplicaFiles$Meeting" "replicas" "LReplicaFiles$Replicas;") (cBc 323 rfl)
  have hl_30 := hts (.fieldLink RX4 30 "ReplicaFiles$Meeting" "servers" "[LReplicaFiles$Server;") (cBc 325 rfl)
  have hl_36 := hts (.fieldLink RX4 36 "ReplicaFiles$Meeting" "candidates" "LReplicaFiles$Versions;") (cBc 328 rfl)
  have hl_40 := hts (.fieldLink RX4 40 "ReplicaFiles$Meeting" "greater" "[I") (cBc 329 rfl)
  have hl_44 := hts (.fieldLink RX4 44 "ReplicaFiles$Meeting" "group" "I") (cBc 333 rfl)
  have hl_141 := va_Nw.use (A := args) rfl (hN.1 ("ReplicaFiles$Meeting", 141, "ReplicaFiles$Versions", "length", "I", "ReplicaFiles") (by decide +kernel))
  have hl_226 := va_Nw.use (A := args) rfl (hN.1 ("ReplicaFiles$Meeting", 226, "ReplicaFiles$Replicas", "tallies", "[I", "ReplicaFiles") (by decide +kernel))
  have hl := lv_entry ([.ref (A (13, 0, 0)), .int a1]) (n := 3) (Nat.le_of_ble_eq_true rfl)
  rw [← hargs, lg_entry_eq, hargs]
  generalize (lg_sl ([.ref (A (13, 0, 0)), .int a1]) ++ List.replicate (3 - (lg_sl ([.ref (A (13, 0, 0)), .int a1])).length) Slot.unset).toArray = ls at hl ⊢
  have hl : lv_has ls 3 [(0, .ref (A (13, 0, 0))), (1, .int a1)] := hl
  unfold f_X4_giveSeveral at h
  refine lv_aload_n hx hb dX4_giveSeveral_0 rfl (lv_at hl 0 rfl) ?_
  refine lv_iload_n hx hb dX4_giveSeveral_1 rfl (lv_at hl 1 rfl) ?_
  obtain ⟨M2, hc1, h⟩ := o1_e h
  refine c_v X Z (c_V (i := (13, 0, 0)) (As := [.int a1]) (rest := []) S X hN Z (cl_one N 13 (by decide)) rfl rfl (t_X4_raiseToAll l N D dA A hJ  hc1) (cwV 1 hts (cGV (cB 405 rfl) (cB 406 rfl) (cB 407 rfl) (cB 341 rfl) (cB 395 rfl)) rfl rfl rfl (by decide +kernel) ⟨Nat.le_of_ble_eq_true rfl, Nat.le_of_ble_eq_true rfl⟩) rfl hl.1 rfl (Nat.le_of_ble_eq_true rfl) dX4_giveSeveral_2 ⟨Nat.zero_le _, Nat.zero_le _⟩) (fun H locs Z => ?_)
  refine lv_iconst (v := (0 : Int32)) hx hb dX4_giveSeveral_5 (by decide) ?_
  refine lv_istore_n (lv' := [(2, .int (0 : Int32)), (0, .ref (A (13, 0, 0))), (1, .int a1)]) hx hb dX4_giveSeveral_6 rfl hl (by decide) rfl (fun ls hl => ?_)
  obtain ⟨J51, eJ51, h⟩ := jn_e h
  have hJ51 : ∀ (M3 : gM) (H : Heap) (locs : List Loc) (ls : Array Slot), gZ D (cLay N) dA (cLive N) A (gA (cLive N) A) s.heap M3 H locs → lv_has ls 3 [(0, .ref (A (13, 0, 0))), (1, .int a1)] → J51 M3 = some y → W p l e (headSpec wmX4_giveSeveral ({ frames := 4, cells := 0, slots := 0, locals := 90 } : Room)).room s m args below meth c H locs 0 0 (MQ below (cQv N D dA A y) args s 0 0 (gA (cLive N) A)) (F0 m 51 ls []) := by
    intro M3 H locs ls Z hl h
    rw [eJ51] at h
    try dsimp only at h
    refine lv_aload_n hx hb dX4_giveSeveral_51 rfl (lv_at hl 0 rfl) ?_
    refine cr_X4_replicas S X Z hin_X4 (cl_one N 13 (by decide)) hl_15 dX4_giveSeveral_52 ?_
    refine lv_aload_n hx hb dX4_giveSeveral_55 rfl (lv_at hl 0 rfl) ?_
    refine cr_X4_group S X Z hin_X4 (cl_one N 13 (by decide)) hl_44 dX4_giveSeveral_56 h (fun v4 h => ?_)
    refine lv_iload_n hx hb dX4_giveSeveral_59 rfl (lv_at hl 1 rfl) ?_
    obtain ⟨M6, hc5, h⟩ := o1_e h
    refine c_v X Z (c_V (i := (10, 0, 0)) (As := [.int v4, .int a1]) (rest := []) S X hN Z (cl_one N 10 (by decide)) rfl rfl (t_X6_countAll l N D dA A hJ  hc5) (cwV 2 hts (cGV (cB 362 rfl) (cB 216 rfl) (cB 217 rfl) (cB 203 rfl) (cB 199 rfl)) rfl rfl rfl (by decide +kernel) ⟨Nat.le_of_ble_eq_true rfl, Nat.le_of_ble_eq_true rfl⟩) rfl hl.1 rfl (Nat.le_of_ble_eq_true rfl) dX4_giveSeveral_60 ⟨Nat.zero_le _, Nat.zero_le _⟩) (fun H locs Z => ?_)
    refine lv_aload_n hx hb dX4_giveSeveral_63 rfl (lv_at hl 0 rfl) ?_
    refine lv_aload_n hx hb dX4_giveSeveral_64 rfl (lv_at hl 0 rfl) ?_
    refine cr_X4_group S X Z hin_X4 (cl_one N 13 (by decide)) hl_44 dX4_giveSeveral_65 h (fun v7 h => ?_)
    refine lv_iload_n hx hb dX4_giveSeveral_68 rfl (lv_at hl 1 rfl) ?_
    obtain ⟨M9, hc8, h⟩ := o1_e h
    refine c_v X Z (c_V (i := (13, 0, 0)) (As := [.int v7, .int a1]) (rest := []) S X hN Z (cl_one N 13 (by decide)) rfl rfl (t_X4_noteChange l N D dA A hJ  hc8) (cwV 2 hts (cGV (cB 357 rfl) (cB 358 rfl) (cB 359 rfl) (cB 341 rfl) (cB 350 rfl)) rfl rfl rfl (by decide +kernel) ⟨Nat.le_of_ble_eq_true rfl, Nat.le_of_ble_eq_true rfl⟩) rfl hl.1 rfl (Nat.le_of_ble_eq_true rfl) dX4_giveSeveral_69 ⟨Nat.zero_le _, Nat.zero_le _⟩) (fun H locs Z => ?_)
    refine lv_aload_n hx hb dX4_giveSeveral_72 rfl (lv_at hl 0 rfl) ?_
    refine cr_X4_replicas S X Z hin_X4 (cl_one N 13 (by decide)) hl_15 dX4_giveSeveral_73 ?_
    refine cn_X6_tallies S X Z hin_X6 (cl_one N 10 (by decide)) hl_226 dX4_giveSeveral_76 ?_
    refine lv_iconst (v := (2 : Int32)) hx hb dX4_giveSeveral_79 (by decide) ?_
    refine lv_dup2_11 hx hb dX4_giveSeveral_80 rfl rfl ?_
    refine g_iald (i := (9, 0, 0)) (n := 8) S X Z (cl_one N 9 (by decide)) rfl dX4_giveSeveral_81 h (fun v10 h => ?_)
    refine lv_iconst (v := (0 : Int32)) hx hb dX4_giveSeveral_82 (by decide) ?_
    refine lv_aload_n hx hb dX4_giveSeveral_83 rfl (lv_at hl 0 rfl) ?_
    refine cr_X4_candidates S X Z hin_X4 (cl_one N 13 (by decide)) hl_36 dX4_giveSeveral_84 ?_
    refine cn_X9_length (a := 192) S X Z hin_X9 (cl_cand N) hl_141 dX4_giveSeveral_87 h (fun v11 h => ?_)
    refine lv_bipush (v := (6 : Int32)) hx hb dX4_giveSeveral_90 (by decide) ?_
    refine lv_isub hx hb dX4_giveSeveral_92 ?_
    refine va_mmax hx hb (by rw [hl.1]; exact S.2.2.1) hown (hts (.methodLink RX4 117 Lib.Math.max.name) (cBc 334 rfl)) (hts (.static Lib.Math.max.name) (cBc 194 rfl)) (hts (.initialized "java/lang/Math") (cBc 195 rfl)) (hts (.code Lib.Math.max.name Lib.Math.max.code 2 (some .int)) (cBc 196 rfl)) (Nat.le_of_ble_eq_true rfl) (Nat.le_of_ble_eq_true rfl) (Nat.zero_le _) (Nat.zero_le _) dX4_giveSeveral_93 ?_
    refine lv_iadd hx hb dX4_giveSeveral_96 ?_
    refine g_iast (i := (9, 0, 0)) (n := 8) S X Z (cl_one N 9 (by decide)) rfl dX4_giveSeveral_97 h (fun M12 H locs Z h => ?_)
    have hy := Option.some.inj h
    subst hy
    exact g_rv S Z hr hlocks dX4_giveSeveral_98
  have hL7 : ∀ (n : Nat) (x13 : Int32) (M14 : gM) (H : Heap) (locs : List Loc) (ls : Array Slot), gZ D (cLay N) dA (cLive N) A (gA (cLive N) A) s.heap M14 H locs → lv_has ls 3 [(0, .ref (A (13, 0, 0))), (1, .int a1), (2, .int x13)] → f_X4_giveSeveral_L7 N a1 J51 n x13 M14 = some y → W p l e (headSpec wmX4_giveSeveral ({ frames := 4, cells := 0, slots := 0, locals := 90 } : Room)).room s m args below meth c H locs 0 0 (MQ below (cQv N D dA A y) args s 0 0 (gA (cLive N) A)) (F0 m 7 ls []) := by
    intro n
    induction n with
    | zero =>
      intro x13 M14 H locs ls Z hl h
      rw [f_X4_giveSeveral_L7] at h
      cases h
    | succ n15 ih7 =>
      intro x13 M14 H locs ls Z hl h
      rw [f_X4_giveSeveral_L7] at h
      refine lv_iload_n hx hb dX4_giveSeveral_7 rfl (lv_at hl 2 rfl) ?_
      refine lv_aload_n hx hb dX4_giveSeveral_8 rfl (lv_at hl 0 rfl) ?_
      refine cr_X4_servers S X Z hin_X4 (cl_one N 13 (by decide)) hl_30 dX4_giveSeveral_9 ?_
      refine g_alR (i := (7, 0, 0)) (ca := 2) rfl S X Z (cl_one N 7 (by decide)) rfl dX4_giveSeveral_12 ?_
      refine lv_icmp_ge (tgt := 51) hx hb dX4_giveSeveral_13 (by decide) (fun c16 => ?_) (fun c16 => ?_)
      · have h := if_t c16 h
        exact hJ51 M14 _ _ _ Z (lv_sub hl [0, 1] rfl) h
      · have h := if_f c16 h
        refine lv_aload_n hx hb dX4_giveSeveral_16 rfl (lv_at hl 0 rfl) ?_
        refine cr_X4_group S X Z hin_X4 (cl_one N 13 (by decide)) hl_44 dX4_giveSeveral_17 h (fun v17 h => ?_)
        refine lv_iload_n hx hb dX4_giveSeveral_20 rfl (lv_at hl 2 rfl) ?_
        obtain ⟨v19, hc18, h⟩ := o1_e h
        refine c_i X Z (c_SN (As := [.int v17, .int x13]) (rest := []) S X hN Z (t_X10_isIn l N D dA A hJ  hc18) ⟨va_cnB 2 hts (cG (cB 175 rfl)) rfl rfl rfl (hN.2 ("ReplicaFiles$Meeting", 113, yX10_isIn, "ReplicaFiles") (by decide +kernel)) (hts (.initialized RX10) (cBc 107 rfl)) (by decide +kernel) ⟨Nat.le_of_ble_eq_true rfl, Nat.le_of_ble_eq_true rfl⟩, hts (.static yX10_isIn) (cBc 178 rfl), trivial⟩ rfl hl.1 rfl (Nat.le_of_ble_eq_true rfl) dX4_giveSeveral_21 ⟨Nat.zero_le _, Nat.zero_le _⟩) (fun H locs Z => ?_)
        obtain ⟨J45, eJ45, h⟩ := jn_e h
        have hJ45 : ∀ (M20 : gM) (H : Heap) (locs : List Loc) (ls : Array Slot), gZ D (cLay N) dA (cLive N) A (gA (cLive N) A) s.heap M20 H locs → lv_has ls 3 [(0, .ref (A (13, 0, 0))), (1, .int a1), (2, .int x13)] → J45 M20 = some y → W p l e (headSpec wmX4_giveSeveral ({ frames := 4, cells := 0, slots := 0, locals := 90 } : Room)).room s m args below meth c H locs 0 0 (MQ below (cQv N D dA A y) args s 0 0 (gA (cLive N) A)) (F0 m 45 ls []) := by
          intro M20 H locs ls Z hl h
          rw [eJ45] at h
          try dsimp only at h
          obtain ⟨x21, ex21, h⟩ := lt_e h
          refine lv_iinc (v := x21) (lv' := [(2, .int x21), (0, .ref (A (13, 0, 0))), (1, .int a1)]) hx hb dX4_giveSeveral_45 hl (k := 2) rfl (by rw [ex21]; rfl) (by decide) rfl (fun ls hl => ?_)
          refine lv_goto (tgt := 7) hx hb dX4_giveSeveral_48 (by decide) ?_
          exact ih7 x21 M20 _ _ _ Z (lv_sub hl [1, 2, 0] rfl) h
        refine lv_if_eq (tgt := 45) hx hb dX4_giveSeveral_24 (by decide) (fun c22 => ?_) (fun c22 => ?_)
        · have h := if_t c22 h
          exact hJ45 M14 _ _ _ Z (lv_sub hl [0, 1, 2] rfl) h
        · have h := if_f c22 h
          refine lv_aload_n hx hb dX4_giveSeveral_27 rfl (lv_at hl 0 rfl) ?_
          refine cr_X4_servers S X Z hin_X4 (cl_one N 13 (by decide)) hl_30 dX4_giveSeveral_28 ?_
          refine lv_iload_n hx hb dX4_giveSeveral_31 rfl (lv_at hl 2 rfl) ?_
          refine g_aald (i := (7, 0, 0)) (ca := 2) ⟨rfl, rfl⟩ S X Z (cl_one N 7 (by decide)) rfl dX4_giveSeveral_32 h (fun v23 hv23 h => ?_)
          refine lv_iload_n hx hb dX4_giveSeveral_33 rfl (lv_at hl 1 rfl) ?_
          refine lv_aload_n hx hb dX4_giveSeveral_34 rfl (lv_at hl 0 rfl) ?_
          refine cr_X4_candidates S X Z hin_X4 (cl_one N 13 (by decide)) hl_36 dX4_giveSeveral_35 ?_
          refine lv_aload_n hx hb dX4_giveSeveral_38 rfl (lv_at hl 0 rfl) ?_
          refine cr_X4_greater S X Z hin_X4 (cl_one N 13 (by decide)) hl_40 dX4_giveSeveral_39 ?_
          obtain ⟨M25, hc24, h⟩ := o1_e h
          refine c_v X Z (c_V (i := (20, v23, 0)) (As := [.int a1, .ref (A (60, 192, 0)), .ref (A (14, 0, 0))]) (rest := []) S X hN Z (cl_srv hv23) rfl rfl (t_X7_setVersions l N D dA A hJ (cl_srv hv23) (cl_cand N) ⟨(cl_one N 14 (by decide)), rfl⟩ hc24) (cwV 3 hts (cGV (cB 450 rfl) (cB 451 rfl) (cB 452 rfl) (cB 235 rfl) (cB 449 rfl)) rfl rfl rfl (by decide +kernel) ⟨Nat.le_of_ble_eq_true rfl, Nat.le_of_ble_eq_true rfl⟩) rfl hl.1 rfl (Nat.le_of_ble_eq_true rfl) dX4_giveSeveral_42 ⟨Nat.zero_le _, Nat.zero_le _⟩) (fun H locs Z => ?_)
          exact hJ45 M25 _ _ _ Z (lv_sub hl [0, 1, 2] rfl) h
  exact hL7 100 (0 : Int32) M2 _ _ _ Z (lv_sub hl [1, 2, 0] rfl) h
-- X4_joinFile (I)V: 53 instructions
theorem dX4_joinFile_0 : decode cX4_joinFile 0 = .ok (.aload_n 0, 1) := by decide +kernel
theorem dX4_joinFile_1 : decode cX4_joinFile 1 = .ok (.iload_n 1, 1) := by decide +kernel
theorem dX4_joinFile_2 : decode cX4_joinFile 2 = .ok (.invokevirtual 183, 3) := by decide +kernel
theorem dX4_joinFile_5 : decode cX4_joinFile 5 = .ok (.aload_n 0, 1) := by decide +kernel
theorem dX4_joinFile_6 : decode cX4_joinFile 6 = .ok (.getfield 36, 3) := by decide +kernel
theorem dX4_joinFile_9 : decode cX4_joinFile 9 = .ok (.getfield 141, 3) := by decide +kernel
theorem dX4_joinFile_12 : decode cX4_joinFile 12 = .ok (.iconst 1, 1) := by decide +kernel
theorem dX4_joinFile_13 : decode cX4_joinFile 13 = .ok (.if_icmp .ne 9, 3) := by decide +kernel
theorem dX4_joinFile_16 : decode cX4_joinFile 16 = .ok (.aload_n 0, 1) := by decide +kernel
theorem dX4_joinFile_17 : decode cX4_joinFile 17 = .ok (.iload_n 1, 1) := by decide +kernel
theorem dX4_joinFile_18 : decode cX4_joinFile 18 = .ok (.invokevirtual 186, 3) := by decide +kernel
theorem dX4_joinFile_21 : decode cX4_joinFile 21 = .ok (.return_, 1) := by decide +kernel
theorem dX4_joinFile_22 : decode cX4_joinFile 22 = .ok (.aload_n 0, 1) := by decide +kernel
theorem dX4_joinFile_23 : decode cX4_joinFile 23 = .ok (.iload_n 1, 1) := by decide +kernel
theorem dX4_joinFile_24 : decode cX4_joinFile 24 = .ok (.invokevirtual 165, 3) := by decide +kernel
theorem dX4_joinFile_27 : decode cX4_joinFile 27 = .ok (.ifCond .eq 53, 3) := by decide +kernel
theorem dX4_joinFile_30 : decode cX4_joinFile 30 = .ok (.aload_n 0, 1) := by decide +kernel
theorem dX4_joinFile_31 : decode cX4_joinFile 31 = .ok (.getfield 15, 3) := by decide +kernel
theorem dX4_joinFile_34 : decode cX4_joinFile 34 = .ok (.aload_n 0, 1) := by decide +kernel
theorem dX4_joinFile_35 : decode cX4_joinFile 35 = .ok (.getfield 44, 3) := by decide +kernel
theorem dX4_joinFile_38 : decode cX4_joinFile 38 = .ok (.iload_n 1, 1) := by decide +kernel
theorem dX4_joinFile_39 : decode cX4_joinFile 39 = .ok (.invokevirtual 168, 3) := by decide +kernel
theorem dX4_joinFile_42 : decode cX4_joinFile 42 = .ok (.ifCond .eq 38, 3) := by decide +kernel
theorem dX4_joinFile_45 : decode cX4_joinFile 45 = .ok (.aload_n 0, 1) := by decide +kernel
theorem dX4_joinFile_46 : decode cX4_joinFile 46 = .ok (.getfield 30, 3) := by decide +kernel
theorem dX4_joinFile_49 : decode cX4_joinFile 49 = .ok (.aload_n 0, 1) := by decide +kernel
theorem dX4_joinFile_50 : decode cX4_joinFile 50 = .ok (.getfield 15, 3) := by decide +kernel
theorem dX4_joinFile_53 : decode cX4_joinFile 53 = .ok (.aload_n 0, 1) := by decide +kernel
theorem dX4_joinFile_54 : decode cX4_joinFile 54 = .ok (.getfield 44, 3) := by decide +kernel
theorem dX4_joinFile_57 : decode cX4_joinFile 57 = .ok (.invokevirtual 70, 3) := by decide +kernel
theorem dX4_joinFile_60 : decode cX4_joinFile 60 = .ok (.aaload, 1) := by decide +kernel
theorem dX4_joinFile_61 : decode cX4_joinFile 61 = .ok (.getfield 137, 3) := by decide +kernel
theorem dX4_joinFile_64 : decode cX4_joinFile 64 = .ok (.iload_n 1, 1) := by decide +kernel
theorem dX4_joinFile_65 : decode cX4_joinFile 65 = .ok (.aaload, 1) := by decide +kernel
theorem dX4_joinFile_66 : decode cX4_joinFile 66 = .ok (.aload_n 0, 1) := by decide +kernel
theorem dX4_joinFile_67 : decode cX4_joinFile 67 = .ok (.getfield 36, 3) := by decide +kernel
theorem dX4_joinFile_70 : decode cX4_joinFile 70 = .ok (.invokevirtual 189, 3) := by decide +kernel
theorem dX4_joinFile_73 : decode cX4_joinFile 73 = .ok (.ifCond .eq 7, 3) := by decide +kernel
theorem dX4_joinFile_76 : decode cX4_joinFile 76 = .ok (.iconst 1, 1) := by decide +kernel
theorem dX4_joinFile_77 : decode cX4_joinFile 77 = .ok (.goto 4, 3) := by decide +kernel
theorem dX4_joinFile_80 : decode cX4_joinFile 80 = .ok (.iconst 0, 1) := by decide +kernel
theorem dX4_joinFile_81 : decode cX4_joinFile 81 = .ok (.istore_n 2, 1) := by decide +kernel
theorem dX4_joinFile_82 : decode cX4_joinFile 82 = .ok (.aload_n 0, 1) := by decide +kernel
theorem dX4_joinFile_83 : decode cX4_joinFile 83 = .ok (.getfield 36, 3) := by decide +kernel
theorem dX4_joinFile_86 : decode cX4_joinFile 86 = .ok (.getfield 141, 3) := by decide +kernel
theorem dX4_joinFile_89 : decode cX4_joinFile 89 = .ok (.iconst 1, 1) := by decide +kernel
theorem dX4_joinFile_90 : decode cX4_joinFile 90 = .ok (.if_icmp .le 12, 3) := by decide +kernel
theorem dX4_joinFile_93 : decode cX4_joinFile 93 = .ok (.iload_n 2, 1) := by decide +kernel
theorem dX4_joinFile_94 : decode cX4_joinFile 94 = .ok (.ifCond .ne 8, 3) := by decide +kernel
theorem dX4_joinFile_97 : decode cX4_joinFile 97 = .ok (.aload_n 0, 1) := by decide +kernel
theorem dX4_joinFile_98 : decode cX4_joinFile 98 = .ok (.iload_n 1, 1) := by decide +kernel
theorem dX4_joinFile_99 : decode cX4_joinFile 99 = .ok (.invokevirtual 193, 3) := by decide +kernel
theorem dX4_joinFile_102 : decode cX4_joinFile 102 = .ok (.return_, 1) := by decide +kernel
abbrev wmX4_joinFile : List Cond := .code yX4_joinFile cX4_joinFile 3 none :: cBig
def f_X4_joinFile (N : Nat) (M : gM) (a1 : Int32) : Option gM :=
  o1 (f_X4_gatherCandidates N M a1) (fun M2 => lt (M2 (60, 192, 0) 3) (fun v3 => (if v3 = (1 : Int32) then o1 (f_X4_giveOne N M2 a1) (fun M29 => some M29) else o1 (f_X4_allHold N M2 a1) (fun v6 => jn (fun (q : (Int32 × gM)) => match q with | (b7, M8) => lt (M8 (60, 192, 0) 3) (fun v9 => (if v9 ≤ (1 : Int32) then some M8 else (if b7 = 0 then o1 (f_X4_giveSeveral N M8 a1) (fun M13 => some M13) else some M8)))) (fun J81 => jn (fun (M14 : gM) => J81 ((0 : Int32), M14)) (fun J80 => (if v6 = 0 then J80 M2 else lt (M2 (13, 0, 0) 6) (fun v16 => o1 (f_X6_areAlike N M2 v16 a1) (fun v18 => (if v18 = 0 then J80 M2 else lt (M2 (13, 0, 0) 6) (fun v20 => o1 (f_X6_leastOf N M2 v20) (fun v22 => ix v22 N (fun v23 => ix a1 48 (fun v24 => o1 (f_X9_isLike N M2 (48 * v23 + v24) 192) (fun v26 => (if v26 = 0 then J80 M2 else J81 ((1 : Int32), M2)))))))))))))))))
set_option maxHeartbeats 4000000 in
set_option maxRecDepth 100000 in
theorem t_X4_joinFile (l : Launch) (N : Nat) (D : va_G) (dA : Nat → ClassId) (A : gI → Nat) (hJ : gJ (cLive N) A) {M : gM} {a1 : Int32}  {y : gM} (h : f_X4_joinFile N M a1 = some y) : cMv l yX4_joinFile wmX4_joinFile ({ frames := 5, cells := 0, slots := 0, locals := 114 } : Room) N D dA A [.ref (A (13, 0, 0)), .int a1] M y := by
  refine Met.ofW (cc := cX4_joinFile) (maxL := 3) (ret := none) (by decide) rfl ?_
  intro p e s m args below meth c s₁ B hml hv
  obtain ⟨rfl, hP, hK, hN⟩ := hv
  generalize hargs : ([.ref (A (13, 0, 0)), .int a1] : List Value).toArray = args at B ⊢
  have S : CallFix p m c cX4_joinFile 3 s args wmX4_joinFile RX4 := ⟨B.exec, B.bytes, hml, findClass_of_methodNamed B.named, atoms_spec (ws := wmX4_joinFile) B.pre⟩
  obtain ⟨hx, hb, -, hown, hts⟩ := id S
  have hr := B.returns
  have hlocks := B.notSynchronized
  have X : gX D vwCl dA (cLive N) A (gA (cLive N) A) s := ⟨hK, hJ, fun i hi => ⟨i, hi, rfl⟩⟩
  have Z : gZ D (cLay N) dA (cLive N) A (gA (cLive N) A) s.heap M s.heap [] := ⟨hP, va_S.rf⟩
  have hin_X4 : ∀ w ∈ wsX40, w ∈ wmX4_joinFile := cin_X4
  have hin_X7 : ∀ w ∈ wsX70, w ∈ wmX4_joinFile := cin_X7
  have hin_X9 : ∀ w ∈ wsX90, w ∈ wmX4_joinFile := cin_X9
  have hl_15 := hts (.fieldLink RX4 15 "ReplicaFiles$Meeting" "replicas" "LReplicaFiles$Replicas;") (cBc 323 rfl)
  have hl_30 := hts (.fieldLink RX4 30 "ReplicaFiles$Meeting" "servers" "[LReplicaFiles$Server;") (cBc 325 rfl)
  have hl_36 := hts (.fieldLink RX4 36 "ReplicaFiles$Meeting" "candidates" "LReplicaFiles$Versions;") (cBc 328 rfl)
  have hl_44 := hts (.fieldLink RX4 44 "ReplicaFiles$Meeting" "group" "I") (cBc 333 rfl)
  have hl_137 := va_Nw.use (A := args) rfl (hN.1 ("ReplicaFiles$Meeting", 137, "ReplicaFiles$Server", "versions", "[LReplicaFiles$Versions;", "ReplicaFiles") (by decide +kernel))
  have hl_141 := va_Nw.use (A := args) rfl (hN.1 ("ReplicaFiles$Meeting", 141, "ReplicaFiles$Versions", "length", "I", "ReplicaFiles") (by decide +kernel))
  have hl := lv_entry ([.ref (A (13, 0, 0)), .int a1]) (n := 3) (Nat.le_of_ble_eq_true rfl)
  rw [← hargs, lg_entry_eq, hargs]
  generalize (lg_sl ([.ref (A (13, 0, 0)), .int a1]) ++ List.replicate (3 - (lg_sl ([.ref (A (13, 0, 0)), .int a1])).length) Slot.unset).toArray = ls at hl ⊢
  have hl : lv_has ls 3 [(0, .ref (A (13, 0, 0))), (1, .int a1)] := hl
  unfold f_X4_joinFile at h
  refine lv_aload_n hx hb dX4_joinFile_0 rfl (lv_at hl 0 rfl) ?_
  refine lv_iload_n hx hb dX4_joinFile_1 rfl (lv_at hl 1 rfl) ?_
  obtain ⟨M2, hc1, h⟩ := o1_e h
  refine c_v X Z (c_V (i := (13, 0, 0)) (As := [.int a1]) (rest := []) S X hN Z (cl_one N 13 (by decide)) rfl rfl (t_X4_gatherCandidates l N D dA A hJ  hc1) (cwV 1 hts (cGV (cB 454 rfl) (cB 455 rfl) (cB 456 rfl) (cB 341 rfl) (cB 427 rfl)) rfl rfl rfl (by decide +kernel) ⟨Nat.le_of_ble_eq_true rfl, Nat.le_of_ble_eq_true rfl⟩) rfl hl.1 rfl (Nat.le_of_ble_eq_true rfl) dX4_joinFile_2 ⟨Nat.zero_le _, Nat.zero_le _⟩) (fun H locs Z => ?_)
  refine lv_aload_n hx hb dX4_joinFile_5 rfl (lv_at hl 0 rfl) ?_
  refine cr_X4_candidates S X Z hin_X4 (cl_one N 13 (by decide)) hl_36 dX4_joinFile_6 ?_
  refine cn_X9_length (a := 192) S X Z hin_X9 (cl_cand N) hl_141 dX4_joinFile_9 h (fun v3 h => ?_)
  refine lv_iconst (v := (1 : Int32)) hx hb dX4_joinFile_12 (by decide) ?_
  refine lv_icmp_ne (tgt := 22) hx hb dX4_joinFile_13 (by decide) (fun c4 => ?_) (fun c4 => ?_)
  · have h := if_f c4 h
    refine lv_aload_n hx hb dX4_joinFile_22 rfl (lv_at hl 0 rfl) ?_
    refine lv_iload_n hx hb dX4_joinFile_23 rfl (lv_at hl 1 rfl) ?_
    obtain ⟨v6, hc5, h⟩ := o1_e h
    refine c_i X Z (c_V (i := (13, 0, 0)) (As := [.int a1]) (rest := []) S X hN Z (cl_one N 13 (by decide)) rfl rfl (t_X4_allHold l N D dA A hJ  hc5) (cwV 1 hts (cGV (cB 396 rfl) (cB 397 rfl) (cB 398 rfl) (cB 341 rfl) (cB 375 rfl)) rfl rfl rfl (by decide +kernel) ⟨Nat.le_of_ble_eq_true rfl, Nat.le_of_ble_eq_true rfl⟩) rfl hl.1 rfl (Nat.le_of_ble_eq_true rfl) dX4_joinFile_24 ⟨Nat.zero_le _, Nat.zero_le _⟩) (fun H locs Z => ?_)
    obtain ⟨J81, eJ81, h⟩ := jn_e h
    have hJ81 : ∀ (b7 : Int32) (M8 : gM) (H : Heap) (locs : List Loc) (ls : Array Slot), gZ D (cLay N) dA (cLive N) A (gA (cLive N) A) s.heap M8 H locs → lv_has ls 3 [(0, .ref (A (13, 0, 0))), (1, .int a1)] → J81 (b7, M8) = some y → W p l e (headSpec wmX4_joinFile ({ frames := 5, cells := 0, slots := 0, locals := 114 } : Room)).room s m args below meth c H locs 0 0 (MQ below (cQv N D dA A y) args s 0 0 (gA (cLive N) A)) (F0 m 81 ls [.int b7]) := by
      intro b7 M8 H locs ls Z hl h
      rw [eJ81] at h
      try dsimp only at h
      refine lv_istore_n (lv' := [(2, .int b7), (0, .ref (A (13, 0, 0))), (1, .int a1)]) hx hb dX4_joinFile_81 rfl hl (by decide) rfl (fun ls hl => ?_)
      refine lv_aload_n hx hb dX4_joinFile_82 rfl (lv_at hl 1 rfl) ?_
      refine cr_X4_candidates S X Z hin_X4 (cl_one N 13 (by decide)) hl_36 dX4_joinFile_83 ?_
      refine cn_X9_length (a := 192) S X Z hin_X9 (cl_cand N) hl_141 dX4_joinFile_86 h (fun v9 h => ?_)
      refine lv_iconst (v := (1 : Int32)) hx hb dX4_joinFile_89 (by decide) ?_
      refine lv_icmp_le (tgt := 102) hx hb dX4_joinFile_90 (by decide) (fun c10 => ?_) (fun c10 => ?_)
      · have h := if_t c10 h
        have hy := Option.some.inj h
        subst hy
        exact g_rv S Z hr hlocks dX4_joinFile_102
      · have h := if_f c10 h
        refine lv_iload_n hx hb dX4_joinFile_93 rfl (lv_at hl 0 rfl) ?_
        refine lv_if_ne (tgt := 102) hx hb dX4_joinFile_94 (by decide) (fun c11 => ?_) (fun c11 => ?_)
        · have h := if_f c11 h
          have hy := Option.some.inj h
          subst hy
          exact g_rv S Z hr hlocks dX4_joinFile_102
        · have h := if_t c11 h
          refine lv_aload_n hx hb dX4_joinFile_97 rfl (lv_at hl 1 rfl) ?_
          refine lv_iload_n hx hb dX4_joinFile_98 rfl (lv_at hl 2 rfl) ?_
          obtain ⟨M13, hc12, h⟩ := o1_e h
          refine c_v X Z (c_V (i := (13, 0, 0)) (As := [.int a1]) (rest := []) S X hN Z (cl_one N 13 (by decide)) rfl rfl (t_X4_giveSeveral l N D dA A hJ  hc12) (cwV 1 hts (cGV (cB 461 rfl) (cB 462 rfl) (cB 463 rfl) (cB 341 rfl) (cB 453 rfl)) rfl rfl rfl (by decide +kernel) ⟨Nat.le_of_ble_eq_true rfl, Nat.le_of_ble_eq_true rfl⟩) rfl hl.1 rfl (Nat.le_of_ble_eq_true rfl) dX4_joinFile_99 ⟨Nat.zero_le _, Nat.zero_le _⟩) (fun H locs Z => ?_)
          have hy := Option.some.inj h
          subst hy
          exact g_rv S Z hr hlocks dX4_joinFile_102
    obtain ⟨J80, eJ80, h⟩ := jn_e h
    have hJ80 : ∀ (M14 : gM) (H : Heap) (locs : List Loc) (ls : Array Slot), gZ D (cLay N) dA (cLive N) A (gA (cLive N) A) s.heap M14 H locs → lv_has ls 3 [(0, .ref (A (13, 0, 0))), (1, .int a1)] → J80 M14 = some y → W p l e (headSpec wmX4_joinFile ({ frames := 5, cells := 0, slots := 0, locals := 114 } : Room)).room s m args below meth c H locs 0 0 (MQ below (cQv N D dA A y) args s 0 0 (gA (cLive N) A)) (F0 m 80 ls []) := by
      intro M14 H locs ls Z hl h
      rw [eJ80] at h
      try dsimp only at h
      refine lv_iconst (v := (0 : Int32)) hx hb dX4_joinFile_80 (by decide) ?_
      exact hJ81 (0 : Int32) M14 _ _ _ Z (lv_sub hl [0, 1] rfl) h
    refine lv_if_eq (tgt := 80) hx hb dX4_joinFile_27 (by decide) (fun c15 => ?_) (fun c15 => ?_)
    · have h := if_t c15 h
      exact hJ80 M2 _ _ _ Z (lv_sub hl [0, 1] rfl) h
    · have h := if_f c15 h
      refine lv_aload_n hx hb dX4_joinFile_30 rfl (lv_at hl 0 rfl) ?_
      refine cr_X4_replicas S X Z hin_X4 (cl_one N 13 (by decide)) hl_15 dX4_joinFile_31 ?_
      refine lv_aload_n hx hb dX4_joinFile_34 rfl (lv_at hl 0 rfl) ?_
      refine cr_X4_group S X Z hin_X4 (cl_one N 13 (by decide)) hl_44 dX4_joinFile_35 h (fun v16 h => ?_)
      refine lv_iload_n hx hb dX4_joinFile_38 rfl (lv_at hl 1 rfl) ?_
      obtain ⟨v18, hc17, h⟩ := o1_e h
      refine c_i X Z (c_V (i := (10, 0, 0)) (As := [.int v16, .int a1]) (rest := []) S X hN Z (cl_one N 10 (by decide)) rfl rfl (t_X6_areAlike l N D dA A hJ  hc17) (cwV 2 hts (cGV (cB 399 rfl) (cB 400 rfl) (cB 401 rfl) (cB 203 rfl) (cB 393 rfl)) rfl rfl rfl (by decide +kernel) ⟨Nat.le_of_ble_eq_true rfl, Nat.le_of_ble_eq_true rfl⟩) rfl hl.1 rfl (Nat.le_of_ble_eq_true rfl) dX4_joinFile_39 ⟨Nat.zero_le _, Nat.zero_le _⟩) (fun H locs Z => ?_)
      refine lv_if_eq (tgt := 80) hx hb dX4_joinFile_42 (by decide) (fun c19 => ?_) (fun c19 => ?_)
      · have h := if_t c19 h
        exact hJ80 M2 _ _ _ Z (lv_sub hl [0, 1] rfl) h
      · have h := if_f c19 h
        refine lv_aload_n hx hb dX4_joinFile_45 rfl (lv_at hl 0 rfl) ?_
        refine cr_X4_servers S X Z hin_X4 (cl_one N 13 (by decide)) hl_30 dX4_joinFile_46 ?_
        refine lv_aload_n hx hb dX4_joinFile_49 rfl (lv_at hl 0 rfl) ?_
        refine cr_X4_replicas S X Z hin_X4 (cl_one N 13 (by decide)) hl_15 dX4_joinFile_50 ?_
        refine lv_aload_n hx hb dX4_joinFile_53 rfl (lv_at hl 0 rfl) ?_
        refine cr_X4_group S X Z hin_X4 (cl_one N 13 (by decide)) hl_44 dX4_joinFile_54 h (fun v20 h => ?_)
        obtain ⟨v22, hc21, h⟩ := o1_e h
        refine c_i X Z (c_V (i := (10, 0, 0)) (As := [.int v20]) (rest := [.ref (A (7, 0, 0))]) S X hN Z (cl_one N 10 (by decide)) rfl rfl (t_X6_leastOf l N D dA A hJ  hc21) (cwV 1 hts (cGV (cB 364 rfl) (cB 302 rfl) (cB 303 rfl) (cB 203 rfl) (cB 176 rfl)) rfl rfl rfl (by decide +kernel) ⟨Nat.le_of_ble_eq_true rfl, Nat.le_of_ble_eq_true rfl⟩) rfl hl.1 rfl (Nat.le_of_ble_eq_true rfl) dX4_joinFile_57 ⟨Nat.zero_le _, Nat.zero_le _⟩) (fun H locs Z => ?_)
        refine g_aald (i := (7, 0, 0)) (ca := 2) ⟨rfl, rfl⟩ S X Z (cl_one N 7 (by decide)) rfl dX4_joinFile_60 h (fun v23 hv23 h => ?_)
        refine cn_X7_versions (a := v23) S X Z hin_X7 (cl_srv hv23) hl_137 dX4_joinFile_61 ?_
        refine lv_iload_n hx hb dX4_joinFile_64 rfl (lv_at hl 1 rfl) ?_
        refine g_aald (i := (21, v23, 0)) (ca := 4) ⟨rfl, rfl⟩ S X Z (cl_X7_versions (cl_srv hv23)) rfl dX4_joinFile_65 h (fun v24 hv24 h => ?_)
        refine lv_aload_n hx hb dX4_joinFile_66 rfl (lv_at hl 0 rfl) ?_
        refine cr_X4_candidates S X Z hin_X4 (cl_one N 13 (by decide)) hl_36 dX4_joinFile_67 ?_
        obtain ⟨v26, hc25, h⟩ := o1_e h
        refine c_i X Z (c_V (i := (60, (48 * v23 + v24), 0)) (As := [.ref (A (60, 192, 0))]) (rest := []) S X hN Z (cl_ver (cl_X7_versions (cl_srv hv23)) hv24) rfl rfl (t_X9_isLike l N D dA A hJ (cl_ver (cl_X7_versions (cl_srv hv23)) hv24) (cl_cand N) hc25) (cwV 1 hts (cGV (cB 460 rfl) (cB 386 rfl) (cB 387 rfl) (cB 191 rfl) (cB 378 rfl)) rfl rfl rfl (by decide +kernel) ⟨Nat.le_of_ble_eq_true rfl, Nat.le_of_ble_eq_true rfl⟩) rfl hl.1 rfl (Nat.le_of_ble_eq_true rfl) dX4_joinFile_70 ⟨Nat.zero_le _, Nat.zero_le _⟩) (fun H locs Z => ?_)
        refine lv_if_eq (tgt := 80) hx hb dX4_joinFile_73 (by decide) (fun c27 => ?_) (fun c27 => ?_)
        · have h := if_t c27 h
          exact hJ80 M2 _ _ _ Z (lv_sub hl [0, 1] rfl) h
        · have h := if_f c27 h
          refine lv_iconst (v := (1 : Int32)) hx hb dX4_joinFile_76 (by decide) ?_
          refine lv_goto (tgt := 81) hx hb dX4_joinFile_77 (by decide) ?_
          exact hJ81 (1 : Int32) M2 _ _ _ Z (lv_sub hl [0, 1] rfl) h
  · have h := if_t c4 h
    refine lv_aload_n hx hb dX4_joinFile_16 rfl (lv_at hl 0 rfl) ?_
    refine lv_iload_n hx hb dX4_joinFile_17 rfl (lv_at hl 1 rfl) ?_
    obtain ⟨M29, hc28, h⟩ := o1_e h
    refine c_v X Z (c_V (i := (13, 0, 0)) (As := [.int a1]) (rest := []) S X hN Z (cl_one N 13 (by decide)) rfl rfl (t_X4_giveOne l N D dA A hJ  hc28) (cwV 1 hts (cGV (cB 457 rfl) (cB 458 rfl) (cB 459 rfl) (cB 341 rfl) (cB 443 rfl)) rfl rfl rfl (by decide +kernel) ⟨Nat.le_of_ble_eq_true rfl, Nat.le_of_ble_eq_true rfl⟩) rfl hl.1 rfl (Nat.le_of_ble_eq_true rfl) dX4_joinFile_18 ⟨Nat.zero_le _, Nat.zero_le _⟩) (fun H locs Z => ?_)
    have hy := Option.some.inj h
    subst hy
    exact g_rv S Z hr hlocks dX4_joinFile_21
-- X4_hold (I)I: 38 instructions
theorem dX4_hold_0 : decode cX4_hold 0 = .ok (.aload_n 0, 1) := by decide +kernel
theorem dX4_hold_1 : decode cX4_hold 1 = .ok (.iload_n 1, 1) := by decide +kernel
theorem dX4_hold_2 : decode cX4_hold 2 = .ok (.putfield 44, 3) := by decide +kernel
theorem dX4_hold_5 : decode cX4_hold 5 = .ok (.aload_n 0, 1) := by decide +kernel
theorem dX4_hold_6 : decode cX4_hold 6 = .ok (.iconst 0, 1) := by decide +kernel
theorem dX4_hold_7 : decode cX4_hold 7 = .ok (.putfield 48, 3) := by decide +kernel
theorem dX4_hold_10 : decode cX4_hold 10 = .ok (.iconst 0, 1) := by decide +kernel
theorem dX4_hold_11 : decode cX4_hold 11 = .ok (.istore_n 2, 1) := by decide +kernel
theorem dX4_hold_12 : decode cX4_hold 12 = .ok (.iload_n 2, 1) := by decide +kernel
theorem dX4_hold_13 : decode cX4_hold 13 = .ok (.aload_n 0, 1) := by decide +kernel
theorem dX4_hold_14 : decode cX4_hold 14 = .ok (.getfield 25, 3) := by decide +kernel
theorem dX4_hold_17 : decode cX4_hold 17 = .ok (.getfield 51, 3) := by decide +kernel
theorem dX4_hold_20 : decode cX4_hold 20 = .ok (.if_icmp .gt 49, 3) := by decide +kernel
theorem dX4_hold_23 : decode cX4_hold 23 = .ok (.iload_n 2, 1) := by decide +kernel
theorem dX4_hold_24 : decode cX4_hold 24 = .ok (.ifCond .eq 14, 3) := by decide +kernel
theorem dX4_hold_27 : decode cX4_hold 27 = .ok (.aload_n 0, 1) := by decide +kernel
theorem dX4_hold_28 : decode cX4_hold 28 = .ok (.iload_n 2, 1) := by decide +kernel
theorem dX4_hold_29 : decode cX4_hold 29 = .ok (.invokevirtual 56, 3) := by decide +kernel
theorem dX4_hold_32 : decode cX4_hold 32 = .ok (.ifCond .ne 6, 3) := by decide +kernel
theorem dX4_hold_35 : decode cX4_hold 35 = .ok (.goto 28, 3) := by decide +kernel
theorem dX4_hold_38 : decode cX4_hold 38 = .ok (.aload_n 0, 1) := by decide +kernel
theorem dX4_hold_39 : decode cX4_hold 39 = .ok (.getfield 25, 3) := by decide +kernel
theorem dX4_hold_42 : decode cX4_hold 42 = .ok (.getfield 60, 3) := by decide +kernel
theorem dX4_hold_45 : decode cX4_hold 45 = .ok (.iload_n 2, 1) := by decide +kernel
theorem dX4_hold_46 : decode cX4_hold 46 = .ok (.baload, 1) := by decide +kernel
theorem dX4_hold_47 : decode cX4_hold 47 = .ok (.ifCond .eq 11, 3) := by decide +kernel
theorem dX4_hold_50 : decode cX4_hold 50 = .ok (.aload_n 0, 1) := by decide +kernel
theorem dX4_hold_51 : decode cX4_hold 51 = .ok (.iload_n 2, 1) := by decide +kernel
theorem dX4_hold_52 : decode cX4_hold 52 = .ok (.invokevirtual 63, 3) := by decide +kernel
theorem dX4_hold_55 : decode cX4_hold 55 = .ok (.goto 8, 3) := by decide +kernel
theorem dX4_hold_58 : decode cX4_hold 58 = .ok (.aload_n 0, 1) := by decide +kernel
theorem dX4_hold_59 : decode cX4_hold 59 = .ok (.iload_n 2, 1) := by decide +kernel
theorem dX4_hold_60 : decode cX4_hold 60 = .ok (.invokevirtual 67, 3) := by decide +kernel
theorem dX4_hold_63 : decode cX4_hold 63 = .ok (.iinc 2 1, 3) := by decide +kernel
theorem dX4_hold_66 : decode cX4_hold 66 = .ok (.goto (-54), 3) := by decide +kernel
theorem dX4_hold_69 : decode cX4_hold 69 = .ok (.aload_n 0, 1) := by decide +kernel
theorem dX4_hold_70 : decode cX4_hold 70 = .ok (.getfield 48, 3) := by decide +kernel
theorem dX4_hold_73 : decode cX4_hold 73 = .ok (.ireturn, 1) := by decide +kernel
abbrev wmX4_hold : List Cond := .code yX4_hold cX4_hold 3 (some .int) :: cBig
def f_X4_hold_L12 (N : Nat) : Nat → Int32 → gM → Option (Int32 × gM)
  | 0, _, _ => none
  | n5 + 1, x3, M4 => lt (M4 (1, 0, 0) 3) (fun v6 => (if v6 < x3 then lt (M4 (13, 0, 0) 7) (fun v8 => some (v8, M4)) else jn (fun (M9 : gM) => lt (x3 + 1) (fun x10 => f_X4_hold_L12 N n5 x10 M9)) (fun J63 => jn (fun (M11 : gM) => rd M11 (4, 0, 0) 48 x3 (fun v12 => (if v12 = 0 then o1 (f_X4_joinFile N M11 x3) (fun M15 => J63 M15) else o1 (f_X4_joinDirectory N M11 x3) (fun M17 => J63 M17)))) (fun J38 => (if x3 = 0 then J38 M4 else ob (f_X4_isToStay N M4 x3) (fun v21 M20 => (if v21 = 0 then J63 M20 else J38 M20)))))))
def f_X4_hold (N : Nat) (M : gM) (a1 : Int32) : Option (Int32 × gM) :=
  lt (gset M (13, 0, 0) 6 a1) (fun M1 => lt (gset M1 (13, 0, 0) 7 (0 : Int32)) (fun M2 => f_X4_hold_L12 N 100 (0 : Int32) M2))
set_option maxHeartbeats 4000000 in
set_option maxRecDepth 100000 in
theorem t_X4_hold (l : Launch) (N : Nat) (D : va_G) (dA : Nat → ClassId) (A : gI → Nat) (hJ : gJ (cLive N) A) {M : gM} {a1 : Int32}  {y : (Int32 × gM)} (h : f_X4_hold N M a1 = some y) : cMi l yX4_hold wmX4_hold ({ frames := 6, cells := 0, slots := 0, locals := 136 } : Room) N D dA A [.ref (A (13, 0, 0)), .int a1] M y.1 y.2 := by
  refine Met.ofW (cc := cX4_hold) (maxL := 3) (ret := (some .int)) (by decide) rfl ?_
  intro p e s m args below meth c s₁ B hml hv
  obtain ⟨rfl, hP, hK, hN⟩ := hv
  generalize hargs : ([.ref (A (13, 0, 0)), .int a1] : List Value).toArray = args at B ⊢
  have S : CallFix p m c cX4_hold 3 s args wmX4_hold RX4 := ⟨B.exec, B.bytes, hml, findClass_of_methodNamed B.named, atoms_spec (ws := wmX4_hold) B.pre⟩
  obtain ⟨hx, hb, -, hown, hts⟩ := id S
  have hr := B.returns
  have hlocks := B.notSynchronized
  have X : gX D vwCl dA (cLive N) A (gA (cLive N) A) s := ⟨hK, hJ, fun i hi => ⟨i, hi, rfl⟩⟩
  have Z : gZ D (cLay N) dA (cLive N) A (gA (cLive N) A) s.heap M s.heap [] := ⟨hP, va_S.rf⟩
  have hin_X0 : ∀ w ∈ wsX00, w ∈ wmX4_hold := cin_X0
  have hin_X4 : ∀ w ∈ wsX40, w ∈ wmX4_hold := cin_X4
  have hl_25 := hts (.fieldLink RX4 25 "ReplicaFiles$Meeting" "catalog" "LReplicaFiles$Catalog;") (cBc 324 rfl)
  have hl_44 := hts (.fieldLink RX4 44 "ReplicaFiles$Meeting" "group" "I") (cBc 333 rfl)
  have hl_48 := hts (.fieldLink RX4 48 "ReplicaFiles$Meeting" "changes" "I") (cBc 351 rfl)
  have hl_51 := va_Nw.use (A := args) rfl (hN.1 ("ReplicaFiles$Meeting", 51, "ReplicaFiles$Catalog", "made", "I", "ReplicaFiles") (by decide +kernel))
  have hl_60 := va_Nw.use (A := args) rfl (hN.1 ("ReplicaFiles$Meeting", 60, "ReplicaFiles$Catalog", "isDirectory", "[Z", "ReplicaFiles") (by decide +kernel))
  have hl := lv_entry ([.ref (A (13, 0, 0)), .int a1]) (n := 3) (Nat.le_of_ble_eq_true rfl)
  rw [← hargs, lg_entry_eq, hargs]
  generalize (lg_sl ([.ref (A (13, 0, 0)), .int a1]) ++ List.replicate (3 - (lg_sl ([.ref (A (13, 0, 0)), .int a1])).length) Slot.unset).toArray = ls at hl ⊢
  have hl : lv_has ls 3 [(0, .ref (A (13, 0, 0))), (1, .int a1)] := hl
  unfold f_X4_hold at h
  refine lv_aload_n hx hb dX4_hold_0 rfl (lv_at hl 0 rfl) ?_
  refine lv_iload_n hx hb dX4_hold_1 rfl (lv_at hl 1 rfl) ?_
  refine cp_X4_group S X Z hin_X4 (cl_one N 13 (by decide)) hl_44 dX4_hold_2 h (fun M1 H locs Z h => ?_)
  refine lv_aload_n hx hb dX4_hold_5 rfl (lv_at hl 0 rfl) ?_
  refine lv_iconst (v := (0 : Int32)) hx hb dX4_hold_6 (by decide) ?_
  refine cp_X4_changes S X Z hin_X4 (cl_one N 13 (by decide)) hl_48 dX4_hold_7 h (fun M2 H locs Z h => ?_)
  refine lv_iconst (v := (0 : Int32)) hx hb dX4_hold_10 (by decide) ?_
  refine lv_istore_n (lv' := [(2, .int (0 : Int32)), (0, .ref (A (13, 0, 0))), (1, .int a1)]) hx hb dX4_hold_11 rfl hl (by decide) rfl (fun ls hl => ?_)
  have hL12 : ∀ (n : Nat) (x3 : Int32) (M4 : gM) (H : Heap) (locs : List Loc) (ls : Array Slot), gZ D (cLay N) dA (cLive N) A (gA (cLive N) A) s.heap M4 H locs → lv_has ls 3 [(0, .ref (A (13, 0, 0))), (2, .int x3)] → f_X4_hold_L12 N n x3 M4 = some y → W p l e (headSpec wmX4_hold ({ frames := 6, cells := 0, slots := 0, locals := 136 } : Room)).room s m args below meth c H locs 0 0 (MQ below (cQi N D dA A y) args s 0 0 (gA (cLive N) A)) (F0 m 12 ls []) := by
    intro n
    induction n with
    | zero =>
      intro x3 M4 H locs ls Z hl h
      rw [f_X4_hold_L12] at h
      cases h
    | succ n5 ih12 =>
      intro x3 M4 H locs ls Z hl h
      rw [f_X4_hold_L12] at h
      refine lv_iload_n hx hb dX4_hold_12 rfl (lv_at hl 1 rfl) ?_
      refine lv_aload_n hx hb dX4_hold_13 rfl (lv_at hl 0 rfl) ?_
      refine cr_X4_catalog S X Z hin_X4 (cl_one N 13 (by decide)) hl_25 dX4_hold_14 ?_
      refine cn_X0_made S X Z hin_X0 (cl_one N 1 (by decide)) hl_51 dX4_hold_17 h (fun v6 h => ?_)
      refine lv_icmp_gt (tgt := 69) hx hb dX4_hold_20 (by decide) (fun c7 => ?_) (fun c7 => ?_)
      · have h := if_t c7 h
        refine lv_aload_n hx hb dX4_hold_69 rfl (lv_at hl 0 rfl) ?_
        refine cr_X4_changes S X Z hin_X4 (cl_one N 13 (by decide)) hl_48 dX4_hold_70 h (fun v8 h => ?_)
        have hy := Option.some.inj h
        subst hy
        exact g_ri S Z hr hlocks dX4_hold_73
      · have h := if_f c7 h
        refine lv_iload_n hx hb dX4_hold_23 rfl (lv_at hl 1 rfl) ?_
        obtain ⟨J63, eJ63, h⟩ := jn_e h
        have hJ63 : ∀ (M9 : gM) (H : Heap) (locs : List Loc) (ls : Array Slot), gZ D (cLay N) dA (cLive N) A (gA (cLive N) A) s.heap M9 H locs → lv_has ls 3 [(0, .ref (A (13, 0, 0))), (2, .int x3)] → J63 M9 = some y → W p l e (headSpec wmX4_hold ({ frames := 6, cells := 0, slots := 0, locals := 136 } : Room)).room s m args below meth c H locs 0 0 (MQ below (cQi N D dA A y) args s 0 0 (gA (cLive N) A)) (F0 m 63 ls []) := by
          intro M9 H locs ls Z hl h
          rw [eJ63] at h
          try dsimp only at h
          obtain ⟨x10, ex10, h⟩ := lt_e h
          refine lv_iinc (v := x10) (lv' := [(2, .int x10), (0, .ref (A (13, 0, 0)))]) hx hb dX4_hold_63 hl (k := 1) rfl (by rw [ex10]; rfl) (by decide) rfl (fun ls hl => ?_)
          refine lv_goto (tgt := 12) hx hb dX4_hold_66 (by decide) ?_
          exact ih12 x10 M9 _ _ _ Z (lv_sub hl [1, 0] rfl) h
        obtain ⟨J38, eJ38, h⟩ := jn_e h
        have hJ38 : ∀ (M11 : gM) (H : Heap) (locs : List Loc) (ls : Array Slot), gZ D (cLay N) dA (cLive N) A (gA (cLive N) A) s.heap M11 H locs → lv_has ls 3 [(0, .ref (A (13, 0, 0))), (2, .int x3)] → J38 M11 = some y → W p l e (headSpec wmX4_hold ({ frames := 6, cells := 0, slots := 0, locals := 136 } : Room)).room s m args below meth c H locs 0 0 (MQ below (cQi N D dA A y) args s 0 0 (gA (cLive N) A)) (F0 m 38 ls []) := by
          intro M11 H locs ls Z hl h
          rw [eJ38] at h
          try dsimp only at h
          refine lv_aload_n hx hb dX4_hold_38 rfl (lv_at hl 0 rfl) ?_
          refine cr_X4_catalog S X Z hin_X4 (cl_one N 13 (by decide)) hl_25 dX4_hold_39 ?_
          refine cn_X0_isDirectory S X Z hin_X0 (cl_one N 1 (by decide)) hl_60 dX4_hold_42 ?_
          refine lv_iload_n hx hb dX4_hold_45 rfl (lv_at hl 1 rfl) ?_
          refine g_zald (i := (4, 0, 0)) (n := 48) S X Z (cl_one N 4 (by decide)) rfl dX4_hold_46 h (fun v12 h => ?_)
          refine lv_if_eq (tgt := 58) hx hb dX4_hold_47 (by decide) (fun c13 => ?_) (fun c13 => ?_)
          · have h := if_t c13 h
            refine lv_aload_n hx hb dX4_hold_58 rfl (lv_at hl 0 rfl) ?_
            refine lv_iload_n hx hb dX4_hold_59 rfl (lv_at hl 1 rfl) ?_
            obtain ⟨M15, hc14, h⟩ := o1_e h
            refine c_v X Z (c_V (i := (13, 0, 0)) (As := [.int x3]) (rest := []) S X hN Z (cl_one N 13 (by decide)) rfl rfl (t_X4_joinFile l N D dA A hJ  hc14) (cwV 1 hts (cGV (cB 471 rfl) (cB 472 rfl) (cB 473 rfl) (cB 341 rfl) (cB 464 rfl)) rfl rfl rfl (by decide +kernel) ⟨Nat.le_of_ble_eq_true rfl, Nat.le_of_ble_eq_true rfl⟩) rfl hl.1 rfl (Nat.le_of_ble_eq_true rfl) dX4_hold_60 ⟨Nat.zero_le _, Nat.zero_le _⟩) (fun H locs Z => ?_)
            exact hJ63 M15 _ _ _ Z (lv_sub hl [0, 1] rfl) h
          · have h := if_f c13 h
            refine lv_aload_n hx hb dX4_hold_50 rfl (lv_at hl 0 rfl) ?_
            refine lv_iload_n hx hb dX4_hold_51 rfl (lv_at hl 1 rfl) ?_
            obtain ⟨M17, hc16, h⟩ := o1_e h
            refine c_v X Z (c_V (i := (13, 0, 0)) (As := [.int x3]) (rest := []) S X hN Z (cl_one N 13 (by decide)) rfl rfl (t_X4_joinDirectory l N D dA A hJ  hc16) (cwV 1 hts (cGV (cB 468 rfl) (cB 469 rfl) (cB 470 rfl) (cB 341 rfl) (cB 408 rfl)) rfl rfl rfl (by decide +kernel) ⟨Nat.le_of_ble_eq_true rfl, Nat.le_of_ble_eq_true rfl⟩) rfl hl.1 rfl (Nat.le_of_ble_eq_true rfl) dX4_hold_52 ⟨Nat.zero_le _, Nat.zero_le _⟩) (fun H locs Z => ?_)
            refine lv_goto (tgt := 63) hx hb dX4_hold_55 (by decide) ?_
            exact hJ63 M17 _ _ _ Z (lv_sub hl [0, 1] rfl) h
        refine lv_if_eq (tgt := 38) hx hb dX4_hold_24 (by decide) (fun c18 => ?_) (fun c18 => ?_)
        · have h := if_t c18 h
          exact hJ38 M4 _ _ _ Z (lv_sub hl [0, 1] rfl) h
        · have h := if_f c18 h
          refine lv_aload_n hx hb dX4_hold_27 rfl (lv_at hl 0 rfl) ?_
          refine lv_iload_n hx hb dX4_hold_28 rfl (lv_at hl 1 rfl) ?_
          obtain ⟨v21, M20, hc19, h⟩ := ob_e h
          refine c_i X Z (c_V (i := (13, 0, 0)) (As := [.int x3]) (rest := []) S X hN Z (cl_one N 13 (by decide)) rfl rfl (t_X4_isToStay l N D dA A hJ  hc19) (cwV 1 hts (cGV (cB 465 rfl) (cB 466 rfl) (cB 467 rfl) (cB 341 rfl) (cB 374 rfl)) rfl rfl rfl (by decide +kernel) ⟨Nat.le_of_ble_eq_true rfl, Nat.le_of_ble_eq_true rfl⟩) rfl hl.1 rfl (Nat.le_of_ble_eq_true rfl) dX4_hold_29 ⟨Nat.zero_le _, Nat.zero_le _⟩) (fun H locs Z => ?_)
          refine lv_if_ne (tgt := 38) hx hb dX4_hold_32 (by decide) (fun c22 => ?_) (fun c22 => ?_)
          · have h := if_f c22 h
            exact hJ38 M20 _ _ _ Z (lv_sub hl [0, 1] rfl) h
          · have h := if_t c22 h
            refine lv_goto (tgt := 63) hx hb dX4_hold_35 (by decide) ?_
            exact hJ63 M20 _ _ _ Z (lv_sub hl [0, 1] rfl) h
  exact hL12 100 (0 : Int32) M2 _ _ _ Z (lv_sub hl [1, 0] rfl) h
-- X5_isUp (I)Z: 5 instructions
theorem dX5_isUp_0 : decode cX5_isUp 0 = .ok (.aload_n 0, 1) := by decide +kernel
theorem dX5_isUp_1 : decode cX5_isUp 1 = .ok (.getfield 19, 3) := by decide +kernel
theorem dX5_isUp_4 : decode cX5_isUp 4 = .ok (.iload_n 1, 1) := by decide +kernel
theorem dX5_isUp_5 : decode cX5_isUp 5 = .ok (.invokestatic 22, 3) := by decide +kernel
theorem dX5_isUp_8 : decode cX5_isUp 8 = .ok (.ireturn, 1) := by decide +kernel
abbrev wmX5_isUp : List Cond := .code yX5_isUp cX5_isUp 2 (some .boolean) :: cBig
def f_X5_isUp (N : Nat) (M : gM) (a1 : Int32) : Option Int32 :=
  lt (M (5, 0, 0) 2) (fun v1 => o1 (f_X10_isIn N M v1 a1) (fun v3 => gz v3 (some v3)))
set_option maxHeartbeats 4000000 in
set_option maxRecDepth 100000 in
theorem t_X5_isUp (l : Launch) (N : Nat) (D : va_G) (dA : Nat → ClassId) (A : gI → Nat) (hJ : gJ (cLive N) A) {M : gM} {a1 : Int32}  {y : Int32} (h : f_X5_isUp N M a1 = some y) : cMi l yX5_isUp wmX5_isUp ({ frames := 1, cells := 0, slots := 0, locals := 21 } : Room) N D dA A [.ref (A (5, 0, 0)), .int a1] M y M := by
  refine Met.ofW (cc := cX5_isUp) (maxL := 2) (ret := (some .boolean)) (by decide) rfl ?_
  intro p e s m args below meth c s₁ B hml hv
  obtain ⟨rfl, hP, hK, hN⟩ := hv
  generalize hargs : ([.ref (A (5, 0, 0)), .int a1] : List Value).toArray = args at B ⊢
  have S : CallFix p m c cX5_isUp 2 s args wmX5_isUp RX5 := ⟨B.exec, B.bytes, hml, findClass_of_methodNamed B.named, atoms_spec (ws := wmX5_isUp) B.pre⟩
  obtain ⟨hx, hb, -, hown, hts⟩ := id S
  have hr := B.returns
  have hlocks := B.notSynchronized
  have X : gX D vwCl dA (cLive N) A (gA (cLive N) A) s := ⟨hK, hJ, fun i hi => ⟨i, hi, rfl⟩⟩
  have Z : gZ D (cLay N) dA (cLive N) A (gA (cLive N) A) s.heap M s.heap [] := ⟨hP, va_S.rf⟩
  have hin_X5 : ∀ w ∈ wsX50, w ∈ wmX5_isUp := cin_X5
  have hl_19 := hts (.fieldLink RX5 19 "ReplicaFiles$Net" "up" "I") (cBc 479 rfl)
  have hl := lv_entry ([.ref (A (5, 0, 0)), .int a1]) (n := 2) (Nat.le_of_ble_eq_true rfl)
  rw [← hargs, lg_entry_eq, hargs]
  generalize (lg_sl ([.ref (A (5, 0, 0)), .int a1]) ++ List.replicate (2 - (lg_sl ([.ref (A (5, 0, 0)), .int a1])).length) Slot.unset).toArray = ls at hl ⊢
  have hl : lv_has ls 2 [(0, .ref (A (5, 0, 0))), (1, .int a1)] := hl
  unfold f_X5_isUp at h
  refine lv_aload_n hx hb dX5_isUp_0 rfl (lv_at hl 0 rfl) ?_
  refine cr_X5_up S X Z hin_X5 (cl_one N 5 (by decide)) hl_19 dX5_isUp_1 h (fun v1 h => ?_)
  refine lv_iload_n hx hb dX5_isUp_4 rfl (lv_at hl 1 rfl) ?_
  obtain ⟨v3, hc2, h⟩ := o1_e h
  refine c_i X Z (c_SN (As := [.int v1, .int a1]) (rest := []) S X hN Z (t_X10_isIn l N D dA A hJ  hc2) ⟨va_cnB 2 hts (cG (cB 175 rfl)) rfl rfl rfl (hN.2 ("ReplicaFiles$Net", 22, yX10_isIn, "ReplicaFiles") (by decide +kernel)) (hts (.initialized RX10) (cBc 107 rfl)) (by decide +kernel) ⟨Nat.le_of_ble_eq_true rfl, Nat.le_of_ble_eq_true rfl⟩, hts (.static yX10_isIn) (cBc 178 rfl), trivial⟩ rfl hl.1 rfl (Nat.le_of_ble_eq_true rfl) dX5_isUp_5 ⟨Nat.zero_le _, Nat.zero_le _⟩) (fun H locs Z => ?_)
  obtain ⟨z4, h⟩ := gz_e h
  have hy := Option.some.inj h
  subst hy
  exact g_rz (z4) S Z hr hlocks dX5_isUp_8
-- X5_turnServer (IZ)Z: 30 instructions
theorem dX5_turnServer_0 : decode cX5_turnServer 0 = .ok (.aload_n 0, 1) := by decide +kernel
theorem dX5_turnServer_1 : decode cX5_turnServer 1 = .ok (.iload_n 1, 1) := by decide +kernel
theorem dX5_turnServer_2 : decode cX5_turnServer 2 = .ok (.invokevirtual 26, 3) := by decide +kernel
theorem dX5_turnServer_5 : decode cX5_turnServer 5 = .ok (.iload_n 2, 1) := by decide +kernel
theorem dX5_turnServer_6 : decode cX5_turnServer 6 = .ok (.if_icmp .eq 7, 3) := by decide +kernel
theorem dX5_turnServer_9 : decode cX5_turnServer 9 = .ok (.iconst 1, 1) := by decide +kernel
theorem dX5_turnServer_10 : decode cX5_turnServer 10 = .ok (.goto 4, 3) := by decide +kernel
theorem dX5_turnServer_13 : decode cX5_turnServer 13 = .ok (.iconst 0, 1) := by decide +kernel
theorem dX5_turnServer_14 : decode cX5_turnServer 14 = .ok (.istore_n 3, 1) := by decide +kernel
theorem dX5_turnServer_15 : decode cX5_turnServer 15 = .ok (.aload_n 0, 1) := by decide +kernel
theorem dX5_turnServer_16 : decode cX5_turnServer 16 = .ok (.iload_n 2, 1) := by decide +kernel
theorem dX5_turnServer_17 : decode cX5_turnServer 17 = .ok (.ifCond .eq 14, 3) := by decide +kernel
theorem dX5_turnServer_20 : decode cX5_turnServer 20 = .ok (.aload_n 0, 1) := by decide +kernel
theorem dX5_turnServer_21 : decode cX5_turnServer 21 = .ok (.getfield 19, 3) := by decide +kernel
theorem dX5_turnServer_24 : decode cX5_turnServer 24 = .ok (.iconst 1, 1) := by decide +kernel
theorem dX5_turnServer_25 : decode cX5_turnServer 25 = .ok (.iload_n 1, 1) := by decide +kernel
theorem dX5_turnServer_26 : decode cX5_turnServer 26 = .ok (.ishl, 1) := by decide +kernel
theorem dX5_turnServer_27 : decode cX5_turnServer 27 = .ok (.ior, 1) := by decide +kernel
theorem dX5_turnServer_28 : decode cX5_turnServer 28 = .ok (.goto 13, 3) := by decide +kernel
theorem dX5_turnServer_31 : decode cX5_turnServer 31 = .ok (.aload_n 0, 1) := by decide +kernel
theorem dX5_turnServer_32 : decode cX5_turnServer 32 = .ok (.getfield 19, 3) := by decide +kernel
theorem dX5_turnServer_35 : decode cX5_turnServer 35 = .ok (.iconst 1, 1) := by decide +kernel
theorem dX5_turnServer_36 : decode cX5_turnServer 36 = .ok (.iload_n 1, 1) := by decide +kernel
theorem dX5_turnServer_37 : decode cX5_turnServer 37 = .ok (.ishl, 1) := by decide +kernel
theorem dX5_turnServer_38 : decode cX5_turnServer 38 = .ok (.iconst (-1), 1) := by decide +kernel
theorem dX5_turnServer_39 : decode cX5_turnServer 39 = .ok (.ixor, 1) := by decide +kernel
theorem dX5_turnServer_40 : decode cX5_turnServer 40 = .ok (.iand, 1) := by decide +kernel
theorem dX5_turnServer_41 : decode cX5_turnServer 41 = .ok (.putfield 19, 3) := by decide +kernel
theorem dX5_turnServer_44 : decode cX5_turnServer 44 = .ok (.iload_n 3, 1) := by decide +kernel
theorem dX5_turnServer_45 : decode cX5_turnServer 45 = .ok (.ireturn, 1) := by decide +kernel
abbrev wmX5_turnServer : List Cond := .code yX5_turnServer cX5_turnServer 4 (some .boolean) :: cBig
def f_X5_turnServer (N : Nat) (M : gM) (a1 : Int32) (a2 : Int32) : Option (Int32 × gM) :=
  o1 (f_X5_isUp N M a1) (fun v2 => jn (fun (q : (Int32 × gM)) => match q with | (b3, M4) => jn (fun (q : (Int32 × gM)) => match q with | (b5, M6) => lt (gset M6 (5, 0, 0) 2 b5) (fun M7 => gz b3 (some (b3, M7)))) (fun J41 => (if a2 = 0 then lt (M4 (5, 0, 0) 2) (fun v10 => J41 ((v10 &&& (((1 : Int32) <<< (a1 &&& 31)) ^^^ (-1 : Int32))), M4)) else lt (M4 (5, 0, 0) 2) (fun v11 => J41 ((v11 ||| ((1 : Int32) <<< (a1 &&& 31))), M4))))) (fun J14 => (if v2 = a2 then J14 ((0 : Int32), M) else J14 ((1 : Int32), M))))
set_option maxHeartbeats 4000000 in
set_option maxRecDepth 100000 in
theorem t_X5_turnServer (l : Launch) (N : Nat) (D : va_G) (dA : Nat → ClassId) (A : gI → Nat) (hJ : gJ (cLive N) A) {M : gM} {a1 : Int32} {a2 : Int32}  {y : (Int32 × gM)} (h : f_X5_turnServer N M a1 a2 = some y) : cMi l yX5_turnServer wmX5_turnServer ({ frames := 2, cells := 0, slots := 0, locals := 42 } : Room) N D dA A [.ref (A (5, 0, 0)), .int a1, .int a2] M y.1 y.2 := by
  refine Met.ofW (cc := cX5_turnServer) (maxL := 4) (ret := (some .boolean)) (by decide) rfl ?_
  intro p e s m args below meth c s₁ B hml hv
  obtain ⟨rfl, hP, hK, hN⟩ := hv
  generalize hargs : ([.ref (A (5, 0, 0)), .int a1, .int a2] : List Value).toArray = args at B ⊢
  have S : CallFix p m c cX5_turnServer 4 s args wmX5_turnServer RX5 := ⟨B.exec, B.bytes, hml, findClass_of_methodNamed B.named, atoms_spec (ws := wmX5_turnServer) B.pre⟩
  obtain ⟨hx, hb, -, hown, hts⟩ := id S
  have hr := B.returns
  have hlocks := B.notSynchronized
  have X : gX D vwCl dA (cLive N) A (gA (cLive N) A) s := ⟨hK, hJ, fun i hi => ⟨i, hi, rfl⟩⟩
  have Z : gZ D (cLay N) dA (cLive N) A (gA (cLive N) A) s.heap M s.heap [] := ⟨hP, va_S.rf⟩
  have hin_X5 : ∀ w ∈ wsX50, w ∈ wmX5_turnServer := cin_X5
  have hl_19 := hts (.fieldLink RX5 19 "ReplicaFiles$Net" "up" "I") (cBc 479 rfl)
  have hl := lv_entry ([.ref (A (5, 0, 0)), .int a1, .int a2]) (n := 4) (Nat.le_of_ble_eq_true rfl)
  rw [← hargs, lg_entry_eq, hargs]
  generalize (lg_sl ([.ref (A (5, 0, 0)), .int a1, .int a2]) ++ List.replicate (4 - (lg_sl ([.ref (A (5, 0, 0)), .int a1, .int a2])).length) Slot.unset).toArray = ls at hl ⊢
  have hl : lv_has ls 4 [(0, .ref (A (5, 0, 0))), (1, .int a1), (2, .int a2)] := hl
  unfold f_X5_turnServer at h
  refine lv_aload_n hx hb dX5_turnServer_0 rfl (lv_at hl 0 rfl) ?_
  refine lv_iload_n hx hb dX5_turnServer_1 rfl (lv_at hl 1 rfl) ?_
  obtain ⟨v2, hc1, h⟩ := o1_e h
  refine c_i X Z (c_V (i := (5, 0, 0)) (As := [.int a1]) (rest := []) S X hN Z (cl_one N 5 (by decide)) rfl rfl (t_X5_isUp l N D dA A hJ  hc1) (cwV 1 hts (cGV (cB 482 rfl) (cB 483 rfl) (cB 484 rfl) (cB 485 rfl) (cB 480 rfl)) rfl rfl rfl (by decide +kernel) ⟨Nat.le_of_ble_eq_true rfl, Nat.le_of_ble_eq_true rfl⟩) rfl hl.1 rfl (Nat.le_of_ble_eq_true rfl) dX5_turnServer_2 ⟨Nat.zero_le _, Nat.zero_le _⟩) (fun H locs Z => ?_)
  refine lv_iload_n hx hb dX5_turnServer_5 rfl (lv_at hl 2 rfl) ?_
  obtain ⟨J14, eJ14, h⟩ := jn_e h
  have hJ14 : ∀ (b3 : Int32) (M4 : gM) (H : Heap) (locs : List Loc) (ls : Array Slot), gZ D (cLay N) dA (cLive N) A (gA (cLive N) A) s.heap M4 H locs → lv_has ls 4 [(0, .ref (A (5, 0, 0))), (1, .int a1), (2, .int a2)] → J14 (b3, M4) = some y → W p l e (headSpec wmX5_turnServer ({ frames := 2, cells := 0, slots := 0, locals := 42 } : Room)).room s m args below meth c H locs 0 0 (MQ below (cQi N D dA A y) args s 0 0 (gA (cLive N) A)) (F0 m 14 ls [.int b3]) := by
    intro b3 M4 H locs ls Z hl h
    rw [eJ14] at h
    try dsimp only at h
    refine lv_istore_n (lv' := [(3, .int b3), (0, .ref (A (5, 0, 0))), (1, .int a1), (2, .int a2)]) hx hb dX5_turnServer_14 rfl hl (by decide) rfl (fun ls hl => ?_)
    refine lv_aload_n hx hb dX5_turnServer_15 rfl (lv_at hl 1 rfl) ?_
    refine lv_iload_n hx hb dX5_turnServer_16 rfl (lv_at hl 3 rfl) ?_
    obtain ⟨J41, eJ41, h⟩ := jn_e h
    have hJ41 : ∀ (b5 : Int32) (M6 : gM) (H : Heap) (locs : List Loc) (ls : Array Slot), gZ D (cLay N) dA (cLive N) A (gA (cLive N) A) s.heap M6 H locs → lv_has ls 4 [(3, .int b3)] → J41 (b5, M6) = some y → W p l e (headSpec wmX5_turnServer ({ frames := 2, cells := 0, slots := 0, locals := 42 } : Room)).room s m args below meth c H locs 0 0 (MQ below (cQi N D dA A y) args s 0 0 (gA (cLive N) A)) (F0 m 41 ls [.int b5, .ref (A (5, 0, 0))]) := by
      intro b5 M6 H locs ls Z hl h
      rw [eJ41] at h
      try dsimp only at h
      refine cp_X5_up S X Z hin_X5 (cl_one N 5 (by decide)) hl_19 dX5_turnServer_41 h (fun M7 H locs Z h => ?_)
      refine lv_iload_n hx hb dX5_turnServer_44 rfl (lv_at hl 0 rfl) ?_
      obtain ⟨z8, h⟩ := gz_e h
      have hy := Option.some.inj h
      subst hy
      exact g_rz (z8) S Z hr hlocks dX5_turnServer_45
    refine lv_if_eq (tgt := 31) hx hb dX5_turnServer_17 (by decide) (fun c9 => ?_) (fun c9 => ?_)
    · have h := if_t c9 h
      refine lv_aload_n hx hb dX5_turnServer_31 rfl (lv_at hl 1 rfl) ?_
      refine cr_X5_up S X Z hin_X5 (cl_one N 5 (by decide)) hl_19 dX5_turnServer_32 h (fun v10 h => ?_)
      refine lv_iconst (v := (1 : Int32)) hx hb dX5_turnServer_35 (by decide) ?_
      refine lv_iload_n hx hb dX5_turnServer_36 rfl (lv_at hl 2 rfl) ?_
      refine lv_ishl hx hb dX5_turnServer_37 ?_
      refine lv_iconst (v := (-1 : Int32)) hx hb dX5_turnServer_38 (by decide) ?_
      refine lv_ixor hx hb dX5_turnServer_39 ?_
      refine lv_iand hx hb dX5_turnServer_40 ?_
      exact hJ41 (v10 &&& (((1 : Int32) <<< (a1 &&& 31)) ^^^ (-1 : Int32))) M4 _ _ _ Z (lv_sub hl [0] rfl) h
    · have h := if_f c9 h
      refine lv_aload_n hx hb dX5_turnServer_20 rfl (lv_at hl 1 rfl) ?_
      refine cr_X5_up S X Z hin_X5 (cl_one N 5 (by decide)) hl_19 dX5_turnServer_21 h (fun v11 h => ?_)
      refine lv_iconst (v := (1 : Int32)) hx hb dX5_turnServer_24 (by decide) ?_
      refine lv_iload_n hx hb dX5_turnServer_25 rfl (lv_at hl 2 rfl) ?_
      refine lv_ishl hx hb dX5_turnServer_26 ?_
      refine lv_ior hx hb dX5_turnServer_27 ?_
      refine lv_goto (tgt := 41) hx hb dX5_turnServer_28 (by decide) ?_
      exact hJ41 (v11 ||| ((1 : Int32) <<< (a1 &&& 31))) M4 _ _ _ Z (lv_sub hl [0] rfl) h
  refine lv_icmp_eq (tgt := 13) hx hb dX5_turnServer_6 (by decide) (fun c12 => ?_) (fun c12 => ?_)
  · have h := if_t c12 h
    refine lv_iconst (v := (0 : Int32)) hx hb dX5_turnServer_13 (by decide) ?_
    exact hJ14 (0 : Int32) M _ _ _ Z (lv_sub hl [0, 1, 2] rfl) h
  · have h := if_f c12 h
    refine lv_iconst (v := (1 : Int32)) hx hb dX5_turnServer_9 (by decide) ?_
    refine lv_goto (tgt := 14) hx hb dX5_turnServer_10 (by decide) ?_
    exact hJ14 (1 : Int32) M _ _ _ Z (lv_sub hl [0, 1, 2] rfl) h
