-- X2_handInMake (II)V: 45 instructions
theorem dX2_handInMake_0 : decode cX2_handInMake 0 = .ok (.aload_n 0, 1) := by decide +kernel
theorem dX2_handInMake_1 : decode cX2_handInMake 1 = .ok (.getfield 9, 3) := by decide +kernel
theorem dX2_handInMake_4 : decode cX2_handInMake 4 = .ok (.getfield 79, 3) := by decide +kernel
theorem dX2_handInMake_7 : decode cX2_handInMake 7 = .ok (.aload_n 0, 1) := by decide +kernel
theorem dX2_handInMake_8 : decode cX2_handInMake 8 = .ok (.getfield 37, 3) := by decide +kernel
theorem dX2_handInMake_11 : decode cX2_handInMake 11 = .ok (.aaload, 1) := by decide +kernel
theorem dX2_handInMake_12 : decode cX2_handInMake 12 = .ok (.getfield 83, 3) := by decide +kernel
theorem dX2_handInMake_15 : decode cX2_handInMake 15 = .ok (.getfield 89, 3) := by decide +kernel
theorem dX2_handInMake_18 : decode cX2_handInMake 18 = .ok (.iload_n 1, 1) := by decide +kernel
theorem dX2_handInMake_19 : decode cX2_handInMake 19 = .ok (.baload, 1) := by decide +kernel
theorem dX2_handInMake_20 : decode cX2_handInMake 20 = .ok (.ifCond .ne 17, 3) := by decide +kernel
theorem dX2_handInMake_23 : decode cX2_handInMake 23 = .ok (.aload_n 0, 1) := by decide +kernel
theorem dX2_handInMake_24 : decode cX2_handInMake 24 = .ok (.getfield 9, 3) := by decide +kernel
theorem dX2_handInMake_27 : decode cX2_handInMake 27 = .ok (.getfield 95, 3) := by decide +kernel
theorem dX2_handInMake_30 : decode cX2_handInMake 30 = .ok (.iconst 2, 1) := by decide +kernel
theorem dX2_handInMake_31 : decode cX2_handInMake 31 = .ok (.dup2, 1) := by decide +kernel
theorem dX2_handInMake_32 : decode cX2_handInMake 32 = .ok (.iaload, 1) := by decide +kernel
theorem dX2_handInMake_33 : decode cX2_handInMake 33 = .ok (.iconst 1, 1) := by decide +kernel
theorem dX2_handInMake_34 : decode cX2_handInMake 34 = .ok (.iadd, 1) := by decide +kernel
theorem dX2_handInMake_35 : decode cX2_handInMake 35 = .ok (.iastore, 1) := by decide +kernel
theorem dX2_handInMake_36 : decode cX2_handInMake 36 = .ok (.return_, 1) := by decide +kernel
theorem dX2_handInMake_37 : decode cX2_handInMake 37 = .ok (.aload_n 0, 1) := by decide +kernel
theorem dX2_handInMake_38 : decode cX2_handInMake 38 = .ok (.getfield 9, 3) := by decide +kernel
theorem dX2_handInMake_41 : decode cX2_handInMake 41 = .ok (.aload_n 0, 1) := by decide +kernel
theorem dX2_handInMake_42 : decode cX2_handInMake 42 = .ok (.getfield 29, 3) := by decide +kernel
theorem dX2_handInMake_45 : decode cX2_handInMake 45 = .ok (.iload_n 1, 1) := by decide +kernel
theorem dX2_handInMake_46 : decode cX2_handInMake 46 = .ok (.invokevirtual 163, 3) := by decide +kernel
theorem dX2_handInMake_49 : decode cX2_handInMake 49 = .ok (.istore_n 3, 1) := by decide +kernel
theorem dX2_handInMake_50 : decode cX2_handInMake 50 = .ok (.aload_n 0, 1) := by decide +kernel
theorem dX2_handInMake_51 : decode cX2_handInMake 51 = .ok (.getfield 9, 3) := by decide +kernel
theorem dX2_handInMake_54 : decode cX2_handInMake 54 = .ok (.iload_n 3, 1) := by decide +kernel
theorem dX2_handInMake_55 : decode cX2_handInMake 55 = .ok (.iload_n 2, 1) := by decide +kernel
theorem dX2_handInMake_56 : decode cX2_handInMake 56 = .ok (.invokevirtual 166, 3) := by decide +kernel
theorem dX2_handInMake_59 : decode cX2_handInMake 59 = .ok (.aload_n 0, 1) := by decide +kernel
theorem dX2_handInMake_60 : decode cX2_handInMake 60 = .ok (.getfield 9, 3) := by decide +kernel
theorem dX2_handInMake_63 : decode cX2_handInMake 63 = .ok (.iload_n 3, 1) := by decide +kernel
theorem dX2_handInMake_64 : decode cX2_handInMake 64 = .ok (.iload_n 1, 1) := by decide +kernel
theorem dX2_handInMake_65 : decode cX2_handInMake 65 = .ok (.invokevirtual 126, 3) := by decide +kernel
theorem dX2_handInMake_68 : decode cX2_handInMake 68 = .ok (.pop, 1) := by decide +kernel
theorem dX2_handInMake_69 : decode cX2_handInMake 69 = .ok (.aload_n 0, 1) := by decide +kernel
theorem dX2_handInMake_70 : decode cX2_handInMake 70 = .ok (.getfield 9, 3) := by decide +kernel
theorem dX2_handInMake_73 : decode cX2_handInMake 73 = .ok (.iload_n 3, 1) := by decide +kernel
theorem dX2_handInMake_74 : decode cX2_handInMake 74 = .ok (.iload_n 1, 1) := by decide +kernel
theorem dX2_handInMake_75 : decode cX2_handInMake 75 = .ok (.invokevirtual 130, 3) := by decide +kernel
theorem dX2_handInMake_78 : decode cX2_handInMake 78 = .ok (.return_, 1) := by decide +kernel
abbrev wmX2_handInMake : List Cond := .code yX2_handInMake cX2_handInMake 4 none :: cBig
def f_X2_handInMake (N : Nat) (M : gM) (a1 : Int32) (a2 : Int32) : Option gM :=
  lt (M (11, 0, 0) 4) (fun v1 => ix v1 N (fun v2 => rd M (51, v2, 0) 48 a1 (fun v3 => (if v3 = 0 then rd M (9, 0, 0) 8 (2 : Int32) (fun v15 => wr M (9, 0, 0) 8 (2 : Int32) (v15 + (1 : Int32)) (fun M16 => some M16)) else lt (M (11, 0, 0) 3) (fun v5 => o1 (f_X6_holders N M v5 a1) (fun v7 => o1 (f_X6_makeAt N M v7 a2) (fun M9 => ob (f_X6_countAct N M9 v7 a1) (fun v12 M11 => o1 (f_X6_endPromises N M11 v7 a1) (fun M14 => some M14)))))))))
set_option maxHeartbeats 4000000 in
set_option maxRecDepth 100000 in
theorem t_X2_handInMake (l : Launch) (N : Nat) (D : va_G) (dA : Nat → ClassId) (A : gI → Nat) (hJ : gJ (cLive N) A) {M : gM} {a1 : Int32} {a2 : Int32}  {y : gM} (h : f_X2_handInMake N M a1 a2 = some y) : cMv l yX2_handInMake wmX2_handInMake ({ frames := 3, cells := 0, slots := 0, locals := 70 } : Room) N D dA A [.ref (A (11, 0, 0)), .int a1, .int a2] M y := by
  refine Met.ofW (cc := cX2_handInMake) (maxL := 4) (ret := none) (by decide) rfl ?_
  intro p e s m args below meth c s₁ B hml hv
  obtain ⟨rfl, hP, hK, hN⟩ := hv
  generalize hargs : ([.ref (A (11, 0, 0)), .int a1, .int a2] : List Value).toArray = args at B ⊢
  have S : CallFix p m c cX2_handInMake 4 s args wmX2_handInMake RX2 := ⟨B.exec, B.bytes, hml, findClass_of_methodNamed B.named, atoms_spec (ws := wmX2_handInMake) B.pre⟩
  obtain ⟨hx, hb, -, hown, hts⟩ := id S
  have hr := B.returns
  have hlocks := B.notSynchronized
  have X : gX D vwCl dA (cLive N) A (gA (cLive N) A) s := ⟨hK, hJ, fun i hi => ⟨i, hi, rfl⟩⟩
  have Z : gZ D (cLay N) dA (cLive N) A (gA (cLive N) A) s.heap M s.heap [] := ⟨hP, va_S.rf⟩
  have hin_X2 : ∀ w ∈ wsX20, w ∈ wmX2_handInMake := cin_X2
  have hin_X6 : ∀ w ∈ wsX60, w ∈ wmX2_handInMake := cin_X6
  have hin_X7 : ∀ w ∈ wsX70, w ∈ wmX2_handInMake := cin_X7
  have hin_X8 : ∀ w ∈ wsX80, w ∈ wmX2_handInMake := cin_X8
  have hl_9 := hts (.fieldLink RX2 9 "ReplicaFiles$HandingIn" "replicas" "LReplicaFiles$Replicas;") (cBc 172 rfl)
  have hl_29 := hts (.fieldLink RX2 29 "ReplicaFiles$HandingIn" "near" "I") (cBc 240 rfl)
  have hl_37 := hts (.fieldLink RX2 37 "ReplicaFiles$HandingIn" "least" "I") (cBc 209 rfl)
  have hl_79 := va_Nw.use (A := args) rfl (hN.1 ("ReplicaFiles$HandingIn", 79, "ReplicaFiles$Replicas", "servers", "[LReplicaFiles$Server;", "ReplicaFiles") (by decide +kernel))
  have hl_83 := va_Nw.use (A := args) rfl (hN.1 ("ReplicaFiles$HandingIn", 83, "ReplicaFiles$Server", "tree", "LReplicaFiles$Tree;", "ReplicaFiles") (by decide +kernel))
  have hl_89 := va_Nw.use (A := args) rfl (hN.1 ("ReplicaFiles$HandingIn", 89, "ReplicaFiles$Tree", "held", "[Z", "ReplicaFiles") (by decide +kernel))
  have hl_95 := va_Nw.use (A := args) rfl (hN.1 ("ReplicaFiles$HandingIn", 95, "ReplicaFiles$Replicas", "tallies", "[I", "ReplicaFiles") (by decide +kernel))
  have hl := lv_entry ([.ref (A (11, 0, 0)), .int a1, .int a2]) (n := 4) (Nat.le_of_ble_eq_true rfl)
  rw [← hargs, lg_entry_eq, hargs]
  generalize (lg_sl ([.ref (A (11, 0, 0)), .int a1, .int a2]) ++ List.replicate (4 - (lg_sl ([.ref (A (11, 0, 0)), .int a1, .int a2])).length) Slot.unset).toArray = ls at hl ⊢
  have hl : lv_has ls 4 [(0, .ref (A (11, 0, 0))), (1, .int a1), (2, .int a2)] := hl
  unfold f_X2_handInMake at h
  refine lv_aload_n hx hb dX2_handInMake_0 rfl (lv_at hl 0 rfl) ?_
  refine cr_X2_replicas S X Z hin_X2 (cl_one N 11 (by decide)) hl_9 dX2_handInMake_1 ?_
  refine cn_X6_servers S X Z hin_X6 (cl_one N 10 (by decide)) hl_79 dX2_handInMake_4 ?_
  refine lv_aload_n hx hb dX2_handInMake_7 rfl (lv_at hl 0 rfl) ?_
  refine cr_X2_least S X Z hin_X2 (cl_one N 11 (by decide)) hl_37 dX2_handInMake_8 h (fun v1 h => ?_)
  refine g_aald (i := (7, 0, 0)) (ca := 2) ⟨rfl, rfl⟩ S X Z (cl_one N 7 (by decide)) rfl dX2_handInMake_11 h (fun v2 hv2 h => ?_)
  refine cn_X7_tree (a := v2) S X Z hin_X7 (cl_srv hv2) hl_83 dX2_handInMake_12 ?_
  refine cn_X8_held (a := v2) S X Z hin_X8 (cl_st (cl_srv hv2)) hl_89 dX2_handInMake_15 ?_
  refine lv_iload_n hx hb dX2_handInMake_18 rfl (lv_at hl 1 rfl) ?_
  refine g_zald (i := (51, v2, 0)) (n := 48) S X Z (cl_X8_held (cl_st (cl_srv hv2))) rfl dX2_handInMake_19 h (fun v3 h => ?_)
  refine lv_if_ne (tgt := 37) hx hb dX2_handInMake_20 (by decide) (fun c4 => ?_) (fun c4 => ?_)
  · have h := if_f c4 h
    refine lv_aload_n hx hb dX2_handInMake_37 rfl (lv_at hl 0 rfl) ?_
    refine cr_X2_replicas S X Z hin_X2 (cl_one N 11 (by decide)) hl_9 dX2_handInMake_38 ?_
    refine lv_aload_n hx hb dX2_handInMake_41 rfl (lv_at hl 0 rfl) ?_
    refine cr_X2_near S X Z hin_X2 (cl_one N 11 (by decide)) hl_29 dX2_handInMake_42 h (fun v5 h => ?_)
    refine lv_iload_n hx hb dX2_handInMake_45 rfl (lv_at hl 1 rfl) ?_
    obtain ⟨v7, hc6, h⟩ := o1_e h
    refine c_i X Z (c_V (i := (10, 0, 0)) (As := [.int v5, .int a1]) (rest := []) S X hN Z (cl_one N 10 (by decide)) rfl rfl (t_X6_holders l N D dA A hJ  hc6) (cwV 2 hts (cGV (cB 259 rfl) (cB 225 rfl) (cB 226 rfl) (cB 203 rfl) (cB 222 rfl)) rfl rfl rfl (by decide +kernel) ⟨Nat.le_of_ble_eq_true rfl, Nat.le_of_ble_eq_true rfl⟩) rfl hl.1 rfl (Nat.le_of_ble_eq_true rfl) dX2_handInMake_46 ⟨Nat.zero_le _, Nat.zero_le _⟩) (fun H locs Z => ?_)
    refine lv_istore_n (lv' := [(3, .int v7), (0, .ref (A (11, 0, 0))), (1, .int a1), (2, .int a2)]) hx hb dX2_handInMake_49 rfl hl (by decide) rfl (fun ls hl => ?_)
    refine lv_aload_n hx hb dX2_handInMake_50 rfl (lv_at hl 1 rfl) ?_
    refine cr_X2_replicas S X Z hin_X2 (cl_one N 11 (by decide)) hl_9 dX2_handInMake_51 ?_
    refine lv_iload_n hx hb dX2_handInMake_54 rfl (lv_at hl 0 rfl) ?_
    refine lv_iload_n hx hb dX2_handInMake_55 rfl (lv_at hl 3 rfl) ?_
    obtain ⟨M9, hc8, h⟩ := o1_e h
    refine c_v X Z (c_V (i := (10, 0, 0)) (As := [.int v7, .int a2]) (rest := []) S X hN Z (cl_one N 10 (by decide)) rfl rfl (t_X6_makeAt l N D dA A hJ  hc8) (cwV 2 hts (cGV (cB 260 rfl) (cB 261 rfl) (cB 262 rfl) (cB 203 rfl) (cB 258 rfl)) rfl rfl rfl (by decide +kernel) ⟨Nat.le_of_ble_eq_true rfl, Nat.le_of_ble_eq_true rfl⟩) rfl hl.1 rfl (Nat.le_of_ble_eq_true rfl) dX2_handInMake_56 ⟨Nat.zero_le _, Nat.zero_le _⟩) (fun H locs Z => ?_)
    refine lv_aload_n hx hb dX2_handInMake_59 rfl (lv_at hl 1 rfl) ?_
    refine cr_X2_replicas S X Z hin_X2 (cl_one N 11 (by decide)) hl_9 dX2_handInMake_60 ?_
    refine lv_iload_n hx hb dX2_handInMake_63 rfl (lv_at hl 0 rfl) ?_
    refine lv_iload_n hx hb dX2_handInMake_64 rfl (lv_at hl 2 rfl) ?_
    obtain ⟨v12, M11, hc10, h⟩ := ob_e h
    refine c_i X Z (c_V (i := (10, 0, 0)) (As := [.int v7, .int a1]) (rest := []) S X hN Z (cl_one N 10 (by decide)) rfl rfl (t_X6_countAct l N D dA A hJ  hc10) (cwV 2 hts (cGV (cB 252 rfl) (cB 253 rfl) (cB 254 rfl) (cB 203 rfl) (cB 239 rfl)) rfl rfl rfl (by decide +kernel) ⟨Nat.le_of_ble_eq_true rfl, Nat.le_of_ble_eq_true rfl⟩) rfl hl.1 rfl (Nat.le_of_ble_eq_true rfl) dX2_handInMake_65 ⟨Nat.zero_le _, Nat.zero_le _⟩) (fun H locs Z => ?_)
    refine lv_pop hx hb dX2_handInMake_68 rfl ?_
    refine lv_aload_n hx hb dX2_handInMake_69 rfl (lv_at hl 1 rfl) ?_
    refine cr_X2_replicas S X Z hin_X2 (cl_one N 11 (by decide)) hl_9 dX2_handInMake_70 ?_
    refine lv_iload_n hx hb dX2_handInMake_73 rfl (lv_at hl 0 rfl) ?_
    refine lv_iload_n hx hb dX2_handInMake_74 rfl (lv_at hl 2 rfl) ?_
    obtain ⟨M14, hc13, h⟩ := o1_e h
    refine c_v X Z (c_V (i := (10, 0, 0)) (As := [.int v7, .int a1]) (rest := []) S X hN Z (cl_one N 10 (by decide)) rfl rfl (t_X6_endPromises l N D dA A hJ  hc13) (cwV 2 hts (cGV (cB 218 rfl) (cB 219 rfl) (cB 220 rfl) (cB 203 rfl) (cB 207 rfl)) rfl rfl rfl (by decide +kernel) ⟨Nat.le_of_ble_eq_true rfl, Nat.le_of_ble_eq_true rfl⟩) rfl hl.1 rfl (Nat.le_of_ble_eq_true rfl) dX2_handInMake_75 ⟨Nat.zero_le _, Nat.zero_le _⟩) (fun H locs Z => ?_)
    have hy := Option.some.inj h
    subst hy
    exact g_rv S Z hr hlocks dX2_handInMake_78
  · have h := if_t c4 h
    refine lv_aload_n hx hb dX2_handInMake_23 rfl (lv_at hl 0 rfl) ?_
    refine cr_X2_replicas S X Z hin_X2 (cl_one N 11 (by decide)) hl_9 dX2_handInMake_24 ?_
    refine cn_X6_tallies S X Z hin_X6 (cl_one N 10 (by decide)) hl_95 dX2_handInMake_27 ?_
    refine lv_iconst (v := (2 : Int32)) hx hb dX2_handInMake_30 (by decide) ?_
    refine lv_dup2_11 hx hb dX2_handInMake_31 rfl rfl ?_
    refine g_iald (i := (9, 0, 0)) (n := 8) S X Z (cl_one N 9 (by decide)) rfl dX2_handInMake_32 h (fun v15 h => ?_)
    refine lv_iconst (v := (1 : Int32)) hx hb dX2_handInMake_33 (by decide) ?_
    refine lv_iadd hx hb dX2_handInMake_34 ?_
    refine g_iast (i := (9, 0, 0)) (n := 8) S X Z (cl_one N 9 (by decide)) rfl dX2_handInMake_35 h (fun M16 H locs Z h => ?_)
    have hy := Option.some.inj h
    subst hy
    exact g_rv S Z hr hlocks dX2_handInMake_36
-- X10_isAtMost ([I[I)Z: 23 instructions
theorem dX10_isAtMost_0 : decode cX10_isAtMost 0 = .ok (.iconst 0, 1) := by decide +kernel
theorem dX10_isAtMost_1 : decode cX10_isAtMost 1 = .ok (.istore_n 2, 1) := by decide +kernel
theorem dX10_isAtMost_2 : decode cX10_isAtMost 2 = .ok (.iload_n 2, 1) := by decide +kernel
theorem dX10_isAtMost_3 : decode cX10_isAtMost 3 = .ok (.aload_n 0, 1) := by decide +kernel
theorem dX10_isAtMost_4 : decode cX10_isAtMost 4 = .ok (.arraylength, 1) := by decide +kernel
theorem dX10_isAtMost_5 : decode cX10_isAtMost 5 = .ok (.if_icmp .ge 26, 3) := by decide +kernel
theorem dX10_isAtMost_8 : decode cX10_isAtMost 8 = .ok (.iload_n 2, 1) := by decide +kernel
theorem dX10_isAtMost_9 : decode cX10_isAtMost 9 = .ok (.aload_n 1, 1) := by decide +kernel
theorem dX10_isAtMost_10 : decode cX10_isAtMost 10 = .ok (.arraylength, 1) := by decide +kernel
theorem dX10_isAtMost_11 : decode cX10_isAtMost 11 = .ok (.if_icmp .ge 20, 3) := by decide +kernel
theorem dX10_isAtMost_14 : decode cX10_isAtMost 14 = .ok (.aload_n 0, 1) := by decide +kernel
theorem dX10_isAtMost_15 : decode cX10_isAtMost 15 = .ok (.iload_n 2, 1) := by decide +kernel
theorem dX10_isAtMost_16 : decode cX10_isAtMost 16 = .ok (.iaload, 1) := by decide +kernel
theorem dX10_isAtMost_17 : decode cX10_isAtMost 17 = .ok (.aload_n 1, 1) := by decide +kernel
theorem dX10_isAtMost_18 : decode cX10_isAtMost 18 = .ok (.iload_n 2, 1) := by decide +kernel
theorem dX10_isAtMost_19 : decode cX10_isAtMost 19 = .ok (.iaload, 1) := by decide +kernel
theorem dX10_isAtMost_20 : decode cX10_isAtMost 20 = .ok (.if_icmp .le 5, 3) := by decide +kernel
theorem dX10_isAtMost_23 : decode cX10_isAtMost 23 = .ok (.iconst 0, 1) := by decide +kernel
theorem dX10_isAtMost_24 : decode cX10_isAtMost 24 = .ok (.ireturn, 1) := by decide +kernel
theorem dX10_isAtMost_25 : decode cX10_isAtMost 25 = .ok (.iinc 2 1, 3) := by decide +kernel
theorem dX10_isAtMost_28 : decode cX10_isAtMost 28 = .ok (.goto (-26), 3) := by decide +kernel
theorem dX10_isAtMost_31 : decode cX10_isAtMost 31 = .ok (.iconst 1, 1) := by decide +kernel
theorem dX10_isAtMost_32 : decode cX10_isAtMost 32 = .ok (.ireturn, 1) := by decide +kernel
abbrev wmX10_isAtMost : List Cond := .code yX10_isAtMost cX10_isAtMost 3 (some .boolean) :: cBig
def f_X10_isAtMost_L2 (N : Nat) (M2 : gM) (a0 : gI) (a1 : gI) : Nat → Int32 → Option Int32
  | 0, _ => none
  | n3 + 1, x1 => (if (nI (cN N a0)) ≤ x1 then some (1 : Int32) else (if (nI (cN N a1)) ≤ x1 then some (1 : Int32) else rd M2 a0 (cN N a0) x1 (fun v6 => rd M2 a1 (cN N a1) x1 (fun v7 => (if v6 ≤ v7 then lt (x1 + 1) (fun x9 => f_X10_isAtMost_L2 N M2 a0 a1 n3 x9) else some (0 : Int32))))))
def f_X10_isAtMost (N : Nat) (M : gM) (a0 : gI) (a1 : gI) : Option Int32 :=
  f_X10_isAtMost_L2 N M a0 a1 100 (0 : Int32)
set_option maxHeartbeats 4000000 in
set_option maxRecDepth 100000 in
theorem t_X10_isAtMost (l : Launch) (N : Nat) (D : va_G) (dA : Nat → ClassId) (A : gI → Nat) (hJ : gJ (cLive N) A) {M : gM} {a0 : gI} {a1 : gI} (ha0 : cArr N a0) (ha1 : cArr N a1) {y : Int32} (h : f_X10_isAtMost N M a0 a1 = some y) : cMi l yX10_isAtMost wmX10_isAtMost ({ frames := 0, cells := 0, slots := 0, locals := 0 } : Room) N D dA A [.ref (A a0), .ref (A a1)] M y M := by
  refine Met.ofW (cc := cX10_isAtMost) (maxL := 3) (ret := (some .boolean)) (by decide) rfl ?_
  intro p e s m args below meth c s₁ B hml hv
  obtain ⟨rfl, hP, hK, hN⟩ := hv
  generalize hargs : ([.ref (A a0), .ref (A a1)] : List Value).toArray = args at B ⊢
  have S : CallFix p m c cX10_isAtMost 3 s args wmX10_isAtMost RX10 := ⟨B.exec, B.bytes, hml, findClass_of_methodNamed B.named, atoms_spec (ws := wmX10_isAtMost) B.pre⟩
  obtain ⟨hx, hb, -, hown, hts⟩ := id S
  have hr := B.returns
  have hlocks := B.notSynchronized
  have X : gX D vwCl dA (cLive N) A (gA (cLive N) A) s := ⟨hK, hJ, fun i hi => ⟨i, hi, rfl⟩⟩
  have Z : gZ D (cLay N) dA (cLive N) A (gA (cLive N) A) s.heap M s.heap [] := ⟨hP, va_S.rf⟩
  have hl := lv_entry ([.ref (A a0), .ref (A a1)]) (n := 3) (Nat.le_of_ble_eq_true rfl)
  rw [← hargs, lg_entry_eq, hargs]
  generalize (lg_sl ([.ref (A a0), .ref (A a1)]) ++ List.replicate (3 - (lg_sl ([.ref (A a0), .ref (A a1)])).length) Slot.unset).toArray = ls at hl ⊢
  have hl : lv_has ls 3 [(0, .ref (A a0)), (1, .ref (A a1))] := hl
  unfold f_X10_isAtMost at h
  refine lv_iconst (v := (0 : Int32)) hx hb dX10_isAtMost_0 (by decide) ?_
  refine lv_istore_n (lv' := [(2, .int (0 : Int32)), (0, .ref (A a0)), (1, .ref (A a1))]) hx hb dX10_isAtMost_1 rfl hl (by decide) rfl (fun ls hl => ?_)
  have hL2 : ∀ (n : Nat) (x1 : Int32) (H : Heap) (locs : List Loc) (ls : Array Slot), gZ D (cLay N) dA (cLive N) A (gA (cLive N) A) s.heap M H locs → lv_has ls 3 [(0, .ref (A a0)), (1, .ref (A a1)), (2, .int x1)] → f_X10_isAtMost_L2 N M a0 a1 n x1 = some y → W p l e (headSpec wmX10_isAtMost ({ frames := 0, cells := 0, slots := 0, locals := 0 } : Room)).room s m args below meth c H locs 0 0 (MQ below (cQi N D dA A (y, M)) args s 0 0 (gA (cLive N) A)) (F0 m 2 ls []) := by
    intro n
    induction n with
    | zero =>
      intro x1 H locs ls Z hl h
      rw [f_X10_isAtMost_L2] at h
      cases h
    | succ n3 ih2 =>
      intro x1 H locs ls Z hl h
      rw [f_X10_isAtMost_L2] at h
      refine lv_iload_n hx hb dX10_isAtMost_2 rfl (lv_at hl 2 rfl) ?_
      refine lv_aload_n hx hb dX10_isAtMost_3 rfl (lv_at hl 0 rfl) ?_
      refine g_alI (ca := 0) rfl S X Z ha0.1 ha0.2 dX10_isAtMost_4 ?_
      refine lv_icmp_ge (tgt := 31) hx hb dX10_isAtMost_5 (by decide) (fun c4 => ?_) (fun c4 => ?_)
      · have h := if_t c4 h
        refine lv_iconst (v := (1 : Int32)) hx hb dX10_isAtMost_31 (by decide) ?_
        have hy := Option.some.inj h
        subst hy
        exact g_rz (Or.inr rfl) S Z hr hlocks dX10_isAtMost_32
      · have h := if_f c4 h
        refine lv_iload_n hx hb dX10_isAtMost_8 rfl (lv_at hl 2 rfl) ?_
        refine lv_aload_n hx hb dX10_isAtMost_9 rfl (lv_at hl 1 rfl) ?_
        refine g_alI (ca := 0) rfl S X Z ha1.1 ha1.2 dX10_isAtMost_10 ?_
        refine lv_icmp_ge (tgt := 31) hx hb dX10_isAtMost_11 (by decide) (fun c5 => ?_) (fun c5 => ?_)
        · have h := if_t c5 h
          refine lv_iconst (v := (1 : Int32)) hx hb dX10_isAtMost_31 (by decide) ?_
          have hy := Option.some.inj h
          subst hy
          exact g_rz (Or.inr rfl) S Z hr hlocks dX10_isAtMost_32
        · have h := if_f c5 h
          refine lv_aload_n hx hb dX10_isAtMost_14 rfl (lv_at hl 0 rfl) ?_
          refine lv_iload_n hx hb dX10_isAtMost_15 rfl (lv_at hl 2 rfl) ?_
          refine g_iald (i := a0) (n := (cN N a0)) S X Z ha0.1 ha0.2 dX10_isAtMost_16 h (fun v6 h => ?_)
          refine lv_aload_n hx hb dX10_isAtMost_17 rfl (lv_at hl 1 rfl) ?_
          refine lv_iload_n hx hb dX10_isAtMost_18 rfl (lv_at hl 2 rfl) ?_
          refine g_iald (i := a1) (n := (cN N a1)) S X Z ha1.1 ha1.2 dX10_isAtMost_19 h (fun v7 h => ?_)
          refine lv_icmp_le (tgt := 25) hx hb dX10_isAtMost_20 (by decide) (fun c8 => ?_) (fun c8 => ?_)
          · have h := if_t c8 h
            obtain ⟨x9, ex9, h⟩ := lt_e h
            refine lv_iinc (v := x9) (lv' := [(2, .int x9), (0, .ref (A a0)), (1, .ref (A a1))]) hx hb dX10_isAtMost_25 hl (k := 2) rfl (by rw [ex9]; rfl) (by decide) rfl (fun ls hl => ?_)
            refine lv_goto (tgt := 2) hx hb dX10_isAtMost_28 (by decide) ?_
            exact ih2 x9 _ _ _ Z (lv_sub hl [1, 2, 0] rfl) h
          · have h := if_f c8 h
            refine lv_iconst (v := (0 : Int32)) hx hb dX10_isAtMost_23 (by decide) ?_
            have hy := Option.some.inj h
            subst hy
            exact g_rz (Or.inl rfl) S Z hr hlocks dX10_isAtMost_24
  exact hL2 100 (0 : Int32) _ _ _ Z (lv_sub hl [1, 2, 0] rfl) h
-- X8_isThereIn (II)Z: 22 instructions
theorem dX8_isThereIn_0 : decode cX8_isThereIn 0 = .ok (.aload_n 0, 1) := by decide +kernel
theorem dX8_isThereIn_1 : decode cX8_isThereIn 1 = .ok (.getfield 25, 3) := by decide +kernel
theorem dX8_isThereIn_4 : decode cX8_isThereIn 4 = .ok (.iload_n 2, 1) := by decide +kernel
theorem dX8_isThereIn_5 : decode cX8_isThereIn 5 = .ok (.invokevirtual 60, 3) := by decide +kernel
theorem dX8_isThereIn_8 : decode cX8_isThereIn 8 = .ok (.ifCond .eq 30, 3) := by decide +kernel
theorem dX8_isThereIn_11 : decode cX8_isThereIn 11 = .ok (.aload_n 0, 1) := by decide +kernel
theorem dX8_isThereIn_12 : decode cX8_isThereIn 12 = .ok (.getfield 25, 3) := by decide +kernel
theorem dX8_isThereIn_15 : decode cX8_isThereIn 15 = .ok (.getfield 57, 3) := by decide +kernel
theorem dX8_isThereIn_18 : decode cX8_isThereIn 18 = .ok (.iload_n 2, 1) := by decide +kernel
theorem dX8_isThereIn_19 : decode cX8_isThereIn 19 = .ok (.iaload, 1) := by decide +kernel
theorem dX8_isThereIn_20 : decode cX8_isThereIn 20 = .ok (.iload_n 1, 1) := by decide +kernel
theorem dX8_isThereIn_21 : decode cX8_isThereIn 21 = .ok (.if_icmp .ne 17, 3) := by decide +kernel
theorem dX8_isThereIn_24 : decode cX8_isThereIn 24 = .ok (.aload_n 0, 1) := by decide +kernel
theorem dX8_isThereIn_25 : decode cX8_isThereIn 25 = .ok (.getfield 22, 3) := by decide +kernel
theorem dX8_isThereIn_28 : decode cX8_isThereIn 28 = .ok (.iload_n 2, 1) := by decide +kernel
theorem dX8_isThereIn_29 : decode cX8_isThereIn 29 = .ok (.iaload, 1) := by decide +kernel
theorem dX8_isThereIn_30 : decode cX8_isThereIn 30 = .ok (.iconst 1, 1) := by decide +kernel
theorem dX8_isThereIn_31 : decode cX8_isThereIn 31 = .ok (.if_icmp .ne 7, 3) := by decide +kernel
theorem dX8_isThereIn_34 : decode cX8_isThereIn 34 = .ok (.iconst 1, 1) := by decide +kernel
theorem dX8_isThereIn_35 : decode cX8_isThereIn 35 = .ok (.goto 4, 3) := by decide +kernel
theorem dX8_isThereIn_38 : decode cX8_isThereIn 38 = .ok (.iconst 0, 1) := by decide +kernel
theorem dX8_isThereIn_39 : decode cX8_isThereIn 39 = .ok (.ireturn, 1) := by decide +kernel
abbrev wmX8_isThereIn : List Cond := .code yX8_isThereIn cX8_isThereIn 3 (some .boolean) :: cBig
def f_X8_isThereIn (N : Nat) (M : gM) (i0 : Nat) (a1 : Int32) (a2 : Int32) : Option Int32 :=
  o1 (f_X0_isMade N M a2) (fun v2 => (if v2 = 0 then some (0 : Int32) else rd M (2, 0, 0) 48 a2 (fun v4 => (if v4 = a1 then rd M (56, i0, 0) 48 a2 (fun v6 => (if v6 = (1 : Int32) then some (1 : Int32) else some (0 : Int32))) else some (0 : Int32)))))
set_option maxHeartbeats 4000000 in
set_option maxRecDepth 100000 in
theorem t_X8_isThereIn (l : Launch) (N : Nat) (D : va_G) (dA : Nat → ClassId) (A : gI → Nat) (hJ : gJ (cLive N) A) {M : gM} {i0 : Nat} {a1 : Int32} {a2 : Int32} (hi0 : cLive N (50, i0, 0)) {y : Int32} (h : f_X8_isThereIn N M i0 a1 a2 = some y) : cMi l yX8_isThereIn wmX8_isThereIn ({ frames := 1, cells := 0, slots := 0, locals := 21 } : Room) N D dA A [.ref (A (50, i0, 0)), .int a1, .int a2] M y M := by
  refine Met.ofW (cc := cX8_isThereIn) (maxL := 3) (ret := (some .boolean)) (by decide) rfl ?_
  intro p e s m args below meth c s₁ B hml hv
  obtain ⟨rfl, hP, hK, hN⟩ := hv
  generalize hargs : ([.ref (A (50, i0, 0)), .int a1, .int a2] : List Value).toArray = args at B ⊢
  have S : CallFix p m c cX8_isThereIn 3 s args wmX8_isThereIn RX8 := ⟨B.exec, B.bytes, hml, findClass_of_methodNamed B.named, atoms_spec (ws := wmX8_isThereIn) B.pre⟩
  obtain ⟨hx, hb, -, hown, hts⟩ := id S
  have hr := B.returns
  have hlocks := B.notSynchronized
  have X : gX D vwCl dA (cLive N) A (gA (cLive N) A) s := ⟨hK, hJ, fun i hi => ⟨i, hi, rfl⟩⟩
  have Z : gZ D (cLay N) dA (cLive N) A (gA (cLive N) A) s.heap M s.heap [] := ⟨hP, va_S.rf⟩
  have hin_X0 : ∀ w ∈ wsX00, w ∈ wmX8_isThereIn := cin_X0
  have hin_X8 : ∀ w ∈ wsX80, w ∈ wmX8_isThereIn := cin_X8
  have hl_22 := hts (.fieldLink RX8 22 "ReplicaFiles$Tree" "state" "[I") (cBc 22 rfl)
  have hl_25 := hts (.fieldLink RX8 25 "ReplicaFiles$Tree" "catalog" "LReplicaFiles$Catalog;") (cBc 23 rfl)
  have hl_57 := va_Nw.use (A := args) rfl (hN.1 ("ReplicaFiles$Tree", 57, "ReplicaFiles$Catalog", "parent", "[I", "ReplicaFiles") (by decide +kernel))
  have hl := lv_entry ([.ref (A (50, i0, 0)), .int a1, .int a2]) (n := 3) (Nat.le_of_ble_eq_true rfl)
  rw [← hargs, lg_entry_eq, hargs]
  generalize (lg_sl ([.ref (A (50, i0, 0)), .int a1, .int a2]) ++ List.replicate (3 - (lg_sl ([.ref (A (50, i0, 0)), .int a1, .int a2])).length) Slot.unset).toArray = ls at hl ⊢
  have hl : lv_has ls 3 [(0, .ref (A (50, i0, 0))), (1, .int a1), (2, .int a2)] := hl
  unfold f_X8_isThereIn at h
  refine lv_aload_n hx hb dX8_isThereIn_0 rfl (lv_at hl 0 rfl) ?_
  refine cr_X8_catalog (a := i0) S X Z hin_X8 hi0 hl_25 dX8_isThereIn_1 ?_
  refine lv_iload_n hx hb dX8_isThereIn_4 rfl (lv_at hl 2 rfl) ?_
  obtain ⟨v2, hc1, h⟩ := o1_e h
  refine c_i X Z (c_V (i := (1, 0, 0)) (As := [.int a2]) (rest := []) S X hN Z (cl_one N 1 (by decide)) rfl rfl (t_X0_isMade l N D dA A hJ  hc1) (cwV 1 hts (cGV (cB 266 rfl) (cB 267 rfl) (cB 268 rfl) (cB 16 rfl) (cB 9 rfl)) rfl rfl rfl (by decide +kernel) ⟨Nat.le_of_ble_eq_true rfl, Nat.le_of_ble_eq_true rfl⟩) rfl hl.1 rfl (Nat.le_of_ble_eq_true rfl) dX8_isThereIn_5 ⟨Nat.zero_le _, Nat.zero_le _⟩) (fun H locs Z => ?_)
  refine lv_if_eq (tgt := 38) hx hb dX8_isThereIn_8 (by decide) (fun c3 => ?_) (fun c3 => ?_)
  · have h := if_t c3 h
    refine lv_iconst (v := (0 : Int32)) hx hb dX8_isThereIn_38 (by decide) ?_
    have hy := Option.some.inj h
    subst hy
    exact g_rz (Or.inl rfl) S Z hr hlocks dX8_isThereIn_39
  · have h := if_f c3 h
    refine lv_aload_n hx hb dX8_isThereIn_11 rfl (lv_at hl 0 rfl) ?_
    refine cr_X8_catalog (a := i0) S X Z hin_X8 hi0 hl_25 dX8_isThereIn_12 ?_
    refine cn_X0_parent S X Z hin_X0 (cl_one N 1 (by decide)) hl_57 dX8_isThereIn_15 ?_
    refine lv_iload_n hx hb dX8_isThereIn_18 rfl (lv_at hl 2 rfl) ?_
    refine g_iald (i := (2, 0, 0)) (n := 48) S X Z (cl_one N 2 (by decide)) rfl dX8_isThereIn_19 h (fun v4 h => ?_)
    refine lv_iload_n hx hb dX8_isThereIn_20 rfl (lv_at hl 1 rfl) ?_
    refine lv_icmp_ne (tgt := 38) hx hb dX8_isThereIn_21 (by decide) (fun c5 => ?_) (fun c5 => ?_)
    · have h := if_f c5 h
      refine lv_iconst (v := (0 : Int32)) hx hb dX8_isThereIn_38 (by decide) ?_
      have hy := Option.some.inj h
      subst hy
      exact g_rz (Or.inl rfl) S Z hr hlocks dX8_isThereIn_39
    · have h := if_t c5 h
      refine lv_aload_n hx hb dX8_isThereIn_24 rfl (lv_at hl 0 rfl) ?_
      refine cr_X8_state (a := i0) S X Z hin_X8 hi0 hl_22 dX8_isThereIn_25 ?_
      refine lv_iload_n hx hb dX8_isThereIn_28 rfl (lv_at hl 2 rfl) ?_
      refine g_iald (i := (56, i0, 0)) (n := 48) S X Z (cl_X8_state hi0) rfl dX8_isThereIn_29 h (fun v6 h => ?_)
      refine lv_iconst (v := (1 : Int32)) hx hb dX8_isThereIn_30 (by decide) ?_
      refine lv_icmp_ne (tgt := 38) hx hb dX8_isThereIn_31 (by decide) (fun c7 => ?_) (fun c7 => ?_)
      · have h := if_f c7 h
        refine lv_iconst (v := (0 : Int32)) hx hb dX8_isThereIn_38 (by decide) ?_
        have hy := Option.some.inj h
        subst hy
        exact g_rz (Or.inl rfl) S Z hr hlocks dX8_isThereIn_39
      · have h := if_t c7 h
        refine lv_iconst (v := (1 : Int32)) hx hb dX8_isThereIn_34 (by decide) ?_
        refine lv_goto (tgt := 39) hx hb dX8_isThereIn_35 (by decide) ?_
        have hy := Option.some.inj h
        subst hy
        exact g_rz (Or.inr rfl) S Z hr hlocks dX8_isThereIn_39
-- X8_thereIn (I)I: 21 instructions
theorem dX8_thereIn_0 : decode cX8_thereIn 0 = .ok (.iconst 0, 1) := by decide +kernel
theorem dX8_thereIn_1 : decode cX8_thereIn 1 = .ok (.istore_n 2, 1) := by decide +kernel
theorem dX8_thereIn_2 : decode cX8_thereIn 2 = .ok (.iload_n 1, 1) := by decide +kernel
theorem dX8_thereIn_3 : decode cX8_thereIn 3 = .ok (.iconst 1, 1) := by decide +kernel
theorem dX8_thereIn_4 : decode cX8_thereIn 4 = .ok (.iadd, 1) := by decide +kernel
theorem dX8_thereIn_5 : decode cX8_thereIn 5 = .ok (.istore_n 3, 1) := by decide +kernel
theorem dX8_thereIn_6 : decode cX8_thereIn 6 = .ok (.iload_n 3, 1) := by decide +kernel
theorem dX8_thereIn_7 : decode cX8_thereIn 7 = .ok (.aload_n 0, 1) := by decide +kernel
theorem dX8_thereIn_8 : decode cX8_thereIn 8 = .ok (.getfield 25, 3) := by decide +kernel
theorem dX8_thereIn_11 : decode cX8_thereIn 11 = .ok (.getfield 51, 3) := by decide +kernel
theorem dX8_thereIn_14 : decode cX8_thereIn 14 = .ok (.if_icmp .gt 21, 3) := by decide +kernel
theorem dX8_thereIn_17 : decode cX8_thereIn 17 = .ok (.aload_n 0, 1) := by decide +kernel
theorem dX8_thereIn_18 : decode cX8_thereIn 18 = .ok (.iload_n 1, 1) := by decide +kernel
theorem dX8_thereIn_19 : decode cX8_thereIn 19 = .ok (.iload_n 3, 1) := by decide +kernel
theorem dX8_thereIn_20 : decode cX8_thereIn 20 = .ok (.invokevirtual 68, 3) := by decide +kernel
theorem dX8_thereIn_23 : decode cX8_thereIn 23 = .ok (.ifCond .eq 6, 3) := by decide +kernel
theorem dX8_thereIn_26 : decode cX8_thereIn 26 = .ok (.iinc 2 1, 3) := by decide +kernel
theorem dX8_thereIn_29 : decode cX8_thereIn 29 = .ok (.iinc 3 1, 3) := by decide +kernel
theorem dX8_thereIn_32 : decode cX8_thereIn 32 = .ok (.goto (-26), 3) := by decide +kernel
theorem dX8_thereIn_35 : decode cX8_thereIn 35 = .ok (.iload_n 2, 1) := by decide +kernel
theorem dX8_thereIn_36 : decode cX8_thereIn 36 = .ok (.ireturn, 1) := by decide +kernel
abbrev wmX8_thereIn : List Cond := .code yX8_thereIn cX8_thereIn 4 (some .int) :: cBig
def f_X8_thereIn_L6 (N : Nat) (M4 : gM) (i0 : Nat) (a1 : Int32) : Nat → Int32 → Int32 → Option Int32
  | 0, _, _ => none
  | n5 + 1, x2, x3 => lt (M4 (1, 0, 0) 3) (fun v6 => (if v6 < x3 then some x2 else o1 (f_X8_isThereIn N M4 i0 a1 x3) (fun v9 => jn (fun (b10 : Int32) => lt (x3 + 1) (fun x11 => f_X8_thereIn_L6 N M4 i0 a1 n5 b10 x11)) (fun J29 => (if v9 = 0 then J29 x2 else lt (x2 + 1) (fun x13 => J29 x13))))))
def f_X8_thereIn (N : Nat) (M : gM) (i0 : Nat) (a1 : Int32) : Option Int32 :=
  lt ((a1 + (1 : Int32))) (fun x1 => f_X8_thereIn_L6 N M i0 a1 100 (0 : Int32) x1)
set_option maxHeartbeats 4000000 in
set_option maxRecDepth 100000 in
theorem t_X8_thereIn (l : Launch) (N : Nat) (D : va_G) (dA : Nat → ClassId) (A : gI → Nat) (hJ : gJ (cLive N) A) {M : gM} {i0 : Nat} {a1 : Int32} (hi0 : cLive N (50, i0, 0)) {y : Int32} (h : f_X8_thereIn N M i0 a1 = some y) : cMi l yX8_thereIn wmX8_thereIn ({ frames := 2, cells := 0, slots := 0, locals := 43 } : Room) N D dA A [.ref (A (50, i0, 0)), .int a1] M y M := by
  refine Met.ofW (cc := cX8_thereIn) (maxL := 4) (ret := (some .int)) (by decide) rfl ?_
  intro p e s m args below meth c s₁ B hml hv
  obtain ⟨rfl, hP, hK, hN⟩ := hv
  generalize hargs : ([.ref (A (50, i0, 0)), .int a1] : List Value).toArray = args at B ⊢
  have S : CallFix p m c cX8_thereIn 4 s args wmX8_thereIn RX8 := ⟨B.exec, B.bytes, hml, findClass_of_methodNamed B.named, atoms_spec (ws := wmX8_thereIn) B.pre⟩
  obtain ⟨hx, hb, -, hown, hts⟩ := id S
  have hr := B.returns
  have hlocks := B.notSynchronized
  have X : gX D vwCl dA (cLive N) A (gA (cLive N) A) s := ⟨hK, hJ, fun i hi => ⟨i, hi, rfl⟩⟩
  have Z : gZ D (cLay N) dA (cLive N) A (gA (cLive N) A) s.heap M s.heap [] := ⟨hP, va_S.rf⟩
  have hin_X0 : ∀ w ∈ wsX00, w ∈ wmX8_thereIn := cin_X0
  have hin_X8 : ∀ w ∈ wsX80, w ∈ wmX8_thereIn := cin_X8
  have hl_25 := hts (.fieldLink RX8 25 "ReplicaFiles$Tree" "catalog" "LReplicaFiles$Catalog;") (cBc 23 rfl)
  have hl_51 := va_Nw.use (A := args) rfl (hN.1 ("ReplicaFiles$Tree", 51, "ReplicaFiles$Catalog", "made", "I", "ReplicaFiles") (by decide +kernel))
  have hl := lv_entry ([.ref (A (50, i0, 0)), .int a1]) (n := 4) (Nat.le_of_ble_eq_true rfl)
  rw [← hargs, lg_entry_eq, hargs]
  generalize (lg_sl ([.ref (A (50, i0, 0)), .int a1]) ++ List.replicate (4 - (lg_sl ([.ref (A (50, i0, 0)), .int a1])).length) Slot.unset).toArray = ls at hl ⊢
  have hl : lv_has ls 4 [(0, .ref (A (50, i0, 0))), (1, .int a1)] := hl
  unfold f_X8_thereIn at h
  refine lv_iconst (v := (0 : Int32)) hx hb dX8_thereIn_0 (by decide) ?_
  refine lv_istore_n (lv' := [(2, .int (0 : Int32)), (0, .ref (A (50, i0, 0))), (1, .int a1)]) hx hb dX8_thereIn_1 rfl hl (by decide) rfl (fun ls hl => ?_)
  refine lv_iload_n hx hb dX8_thereIn_2 rfl (lv_at hl 2 rfl) ?_
  refine lv_iconst (v := (1 : Int32)) hx hb dX8_thereIn_3 (by decide) ?_
  refine lv_iadd hx hb dX8_thereIn_4 ?_
  refine g_topi h (fun x1 h => ?_)
  refine lv_istore_n (lv' := [(3, .int x1), (2, .int (0 : Int32)), (0, .ref (A (50, i0, 0))), (1, .int a1)]) hx hb dX8_thereIn_5 rfl hl (by decide) rfl (fun ls hl => ?_)
  have hL6 : ∀ (n : Nat) (x2 : Int32) (x3 : Int32) (H : Heap) (locs : List Loc) (ls : Array Slot), gZ D (cLay N) dA (cLive N) A (gA (cLive N) A) s.heap M H locs → lv_has ls 4 [(0, .ref (A (50, i0, 0))), (1, .int a1), (2, .int x2), (3, .int x3)] → f_X8_thereIn_L6 N M i0 a1 n x2 x3 = some y → W p l e (headSpec wmX8_thereIn ({ frames := 2, cells := 0, slots := 0, locals := 43 } : Room)).room s m args below meth c H locs 0 0 (MQ below (cQi N D dA A (y, M)) args s 0 0 (gA (cLive N) A)) (F0 m 6 ls []) := by
    intro n
    induction n with
    | zero =>
      intro x2 x3 H locs ls Z hl h
      rw [f_X8_thereIn_L6] at h
      cases h
    | succ n5 ih6 =>
      intro x2 x3 H locs ls Z hl h
      rw [f_X8_thereIn_L6] at h
      refine lv_iload_n hx hb dX8_thereIn_6 rfl (lv_at hl 3 rfl) ?_
      refine lv_aload_n hx hb dX8_thereIn_7 rfl (lv_at hl 0 rfl) ?_
      refine cr_X8_catalog (a := i0) S X Z hin_X8 hi0 hl_25 dX8_thereIn_8 ?_
      refine cn_X0_made S X Z hin_X0 (cl_one N 1 (by decide)) hl_51 dX8_thereIn_11 h (fun v6 h => ?_)
      refine lv_icmp_gt (tgt := 35) hx hb dX8_thereIn_14 (by decide) (fun c7 => ?_) (fun c7 => ?_)
      · have h := if_t c7 h
        refine lv_iload_n hx hb dX8_thereIn_35 rfl (lv_at hl 2 rfl) ?_
        have hy := Option.some.inj h
        subst hy
        exact g_ri S Z hr hlocks dX8_thereIn_36
      · have h := if_f c7 h
        refine lv_aload_n hx hb dX8_thereIn_17 rfl (lv_at hl 0 rfl) ?_
        refine lv_iload_n hx hb dX8_thereIn_18 rfl (lv_at hl 1 rfl) ?_
        refine lv_iload_n hx hb dX8_thereIn_19 rfl (lv_at hl 3 rfl) ?_
        obtain ⟨v9, hc8, h⟩ := o1_e h
        refine c_i X Z (c_V (i := (50, i0, 0)) (As := [.int a1, .int x3]) (rest := []) S X hN Z hi0 rfl rfl (t_X8_isThereIn l N D dA A hJ hi0 hc8) (cwV 2 hts (cGV (cB 270 rfl) (cB 271 rfl) (cB 272 rfl) (cB 44 rfl) (cB 265 rfl)) rfl rfl rfl (by decide +kernel) ⟨Nat.le_of_ble_eq_true rfl, Nat.le_of_ble_eq_true rfl⟩) rfl hl.1 rfl (Nat.le_of_ble_eq_true rfl) dX8_thereIn_20 ⟨Nat.zero_le _, Nat.zero_le _⟩) (fun H locs Z => ?_)
        obtain ⟨J29, eJ29, h⟩ := jn_e h
        have hJ29 : ∀ (b10 : Int32) (H : Heap) (locs : List Loc) (ls : Array Slot), gZ D (cLay N) dA (cLive N) A (gA (cLive N) A) s.heap M H locs → lv_has ls 4 [(0, .ref (A (50, i0, 0))), (1, .int a1), (2, .int b10), (3, .int x3)] → J29 b10 = some y → W p l e (headSpec wmX8_thereIn ({ frames := 2, cells := 0, slots := 0, locals := 43 } : Room)).room s m args below meth c H locs 0 0 (MQ below (cQi N D dA A (y, M)) args s 0 0 (gA (cLive N) A)) (F0 m 29 ls []) := by
          intro b10 H locs ls Z hl h
          rw [eJ29] at h
          try dsimp only at h
          obtain ⟨x11, ex11, h⟩ := lt_e h
          refine lv_iinc (v := x11) (lv' := [(3, .int x11), (0, .ref (A (50, i0, 0))), (1, .int a1), (2, .int b10)]) hx hb dX8_thereIn_29 hl (k := 3) rfl (by rw [ex11]; rfl) (by decide) rfl (fun ls hl => ?_)
          refine lv_goto (tgt := 6) hx hb dX8_thereIn_32 (by decide) ?_
          exact ih6 b10 x11 _ _ _ Z (lv_sub hl [1, 2, 3, 0] rfl) h
        refine lv_if_eq (tgt := 29) hx hb dX8_thereIn_23 (by decide) (fun c12 => ?_) (fun c12 => ?_)
        · have h := if_t c12 h
          exact hJ29 x2 _ _ _ Z (lv_sub hl [0, 1, 2, 3] rfl) h
        · have h := if_f c12 h
          obtain ⟨x13, ex13, h⟩ := lt_e h
          refine lv_iinc (v := x13) (lv' := [(2, .int x13), (0, .ref (A (50, i0, 0))), (1, .int a1), (3, .int x3)]) hx hb dX8_thereIn_26 hl (k := 2) rfl (by rw [ex13]; rfl) (by decide) rfl (fun ls hl => ?_)
          exact hJ29 x13 _ _ _ Z (lv_sub hl [1, 2, 0, 3] rfl) h
  exact hL6 100 (0 : Int32) x1 _ _ _ Z (lv_sub hl [2, 3, 1, 0] rfl) h
-- X8_holdsSomethingIn (I)Z: 27 instructions
theorem dX8_holdsSomethingIn_0 : decode cX8_holdsSomethingIn 0 = .ok (.iload_n 1, 1) := by decide +kernel
theorem dX8_holdsSomethingIn_1 : decode cX8_holdsSomethingIn 1 = .ok (.iconst 1, 1) := by decide +kernel
theorem dX8_holdsSomethingIn_2 : decode cX8_holdsSomethingIn 2 = .ok (.iadd, 1) := by decide +kernel
theorem dX8_holdsSomethingIn_3 : decode cX8_holdsSomethingIn 3 = .ok (.istore_n 2, 1) := by decide +kernel
theorem dX8_holdsSomethingIn_4 : decode cX8_holdsSomethingIn 4 = .ok (.iload_n 2, 1) := by decide +kernel
theorem dX8_holdsSomethingIn_5 : decode cX8_holdsSomethingIn 5 = .ok (.aload_n 0, 1) := by decide +kernel
theorem dX8_holdsSomethingIn_6 : decode cX8_holdsSomethingIn 6 = .ok (.getfield 25, 3) := by decide +kernel
theorem dX8_holdsSomethingIn_9 : decode cX8_holdsSomethingIn 9 = .ok (.getfield 51, 3) := by decide +kernel
theorem dX8_holdsSomethingIn_12 : decode cX8_holdsSomethingIn 12 = .ok (.if_icmp .gt 33, 3) := by decide +kernel
theorem dX8_holdsSomethingIn_15 : decode cX8_holdsSomethingIn 15 = .ok (.aload_n 0, 1) := by decide +kernel
theorem dX8_holdsSomethingIn_16 : decode cX8_holdsSomethingIn 16 = .ok (.getfield 9, 3) := by decide +kernel
theorem dX8_holdsSomethingIn_19 : decode cX8_holdsSomethingIn 19 = .ok (.iload_n 2, 1) := by decide +kernel
theorem dX8_holdsSomethingIn_20 : decode cX8_holdsSomethingIn 20 = .ok (.baload, 1) := by decide +kernel
theorem dX8_holdsSomethingIn_21 : decode cX8_holdsSomethingIn 21 = .ok (.ifCond .eq 18, 3) := by decide +kernel
theorem dX8_holdsSomethingIn_24 : decode cX8_holdsSomethingIn 24 = .ok (.aload_n 0, 1) := by decide +kernel
theorem dX8_holdsSomethingIn_25 : decode cX8_holdsSomethingIn 25 = .ok (.getfield 25, 3) := by decide +kernel
theorem dX8_holdsSomethingIn_28 : decode cX8_holdsSomethingIn 28 = .ok (.getfield 57, 3) := by decide +kernel
theorem dX8_holdsSomethingIn_31 : decode cX8_holdsSomethingIn 31 = .ok (.iload_n 2, 1) := by decide +kernel
theorem dX8_holdsSomethingIn_32 : decode cX8_holdsSomethingIn 32 = .ok (.iaload, 1) := by decide +kernel
theorem dX8_holdsSomethingIn_33 : decode cX8_holdsSomethingIn 33 = .ok (.iload_n 1, 1) := by decide +kernel
theorem dX8_holdsSomethingIn_34 : decode cX8_holdsSomethingIn 34 = .ok (.if_icmp .ne 5, 3) := by decide +kernel
theorem dX8_holdsSomethingIn_37 : decode cX8_holdsSomethingIn 37 = .ok (.iconst 1, 1) := by decide +kernel
theorem dX8_holdsSomethingIn_38 : decode cX8_holdsSomethingIn 38 = .ok (.ireturn, 1) := by decide +kernel
theorem dX8_holdsSomethingIn_39 : decode cX8_holdsSomethingIn 39 = .ok (.iinc 2 1, 3) := by decide +kernel
theorem dX8_holdsSomethingIn_42 : decode cX8_holdsSomethingIn 42 = .ok (.goto (-38), 3) := by decide +kernel
theorem dX8_holdsSomethingIn_45 : decode cX8_holdsSomethingIn 45 = .ok (.iconst 0, 1) := by decide +kernel
theorem dX8_holdsSomethingIn_46 : decode cX8_holdsSomethingIn 46 = .ok (.ireturn, 1) := by decide +kernel
abbrev wmX8_holdsSomethingIn : List Cond := .code yX8_holdsSomethingIn cX8_holdsSomethingIn 3 (some .boolean) :: cBig
def f_X8_holdsSomethingIn_L4 (N : Nat) (M3 : gM) (i0 : Nat) (a1 : Int32) : Nat → Int32 → Option Int32
  | 0, _ => none
  | n4 + 1, x2 => lt (M3 (1, 0, 0) 3) (fun v5 => (if v5 < x2 then some (0 : Int32) else rd M3 (51, i0, 0) 48 x2 (fun v7 => jn (fun (_ : Unit) => lt (x2 + 1) (fun x8 => f_X8_holdsSomethingIn_L4 N M3 i0 a1 n4 x8)) (fun J39 => (if v7 = 0 then J39 () else rd M3 (2, 0, 0) 48 x2 (fun v10 => (if v10 = a1 then some (1 : Int32) else J39 ())))))))
def f_X8_holdsSomethingIn (N : Nat) (M : gM) (i0 : Nat) (a1 : Int32) : Option Int32 :=
  lt ((a1 + (1 : Int32))) (fun x1 => f_X8_holdsSomethingIn_L4 N M i0 a1 100 x1)
set_option maxHeartbeats 4000000 in
set_option maxRecDepth 100000 in
theorem t_X8_holdsSomethingIn (l : Launch) (N : Nat) (D : va_G) (dA : Nat → ClassId) (A : gI → Nat) (hJ : gJ (cLive N) A) {M : gM} {i0 : Nat} {a1 : Int32} (hi0 : cLive N (50, i0, 0)) {y : Int32} (h : f_X8_holdsSomethingIn N M i0 a1 = some y) : cMi l yX8_holdsSomethingIn wmX8_holdsSomethingIn ({ frames := 0, cells := 0, slots := 0, locals := 0 } : Room) N D dA A [.ref (A (50, i0, 0)), .int a1] M y M := by
  refine Met.ofW (cc := cX8_holdsSomethingIn) (maxL := 3) (ret := (some .boolean)) (by decide) rfl ?_
  intro p e s m args below meth c s₁ B hml hv
  obtain ⟨rfl, hP, hK, hN⟩ := hv
  generalize hargs : ([.ref (A (50, i0, 0)), .int a1] : List Value).toArray = args at B ⊢
  have S : CallFix p m c cX8_holdsSomethingIn 3 s args wmX8_holdsSomethingIn RX8 := ⟨B.exec, B.bytes, hml, findClass_of_methodNamed B.named, atoms_spec (ws := wmX8_holdsSomethingIn) B.pre⟩
  obtain ⟨hx, hb, -, hown, hts⟩ := id S
  have hr := B.returns
  have hlocks := B.notSynchronized
  have X : gX D vwCl dA (cLive N) A (gA (cLive N) A) s := ⟨hK, hJ, fun i hi => ⟨i, hi, rfl⟩⟩
  have Z : gZ D (cLay N) dA (cLive N) A (gA (cLive N) A) s.heap M s.heap [] := ⟨hP, va_S.rf⟩
  have hin_X0 : ∀ w ∈ wsX00, w ∈ wmX8_holdsSomethingIn := cin_X0
  have hin_X8 : ∀ w ∈ wsX80, w ∈ wmX8_holdsSomethingIn := cin_X8
  have hl_9 := hts (.fieldLink RX8 9 "ReplicaFiles$Tree" "held" "[Z") (cBc 19 rfl)
  have hl_25 := hts (.fieldLink RX8 25 "ReplicaFiles$Tree" "catalog" "LReplicaFiles$Catalog;") (cBc 23 rfl)
  have hl_51 := va_Nw.use (A := args) rfl (hN.1 ("ReplicaFiles$Tree", 51, "ReplicaFiles$Catalog", "made", "I", "ReplicaFiles") (by decide +kernel))
  have hl_57 := va_Nw.use (A := args) rfl (hN.1 ("ReplicaFiles$Tree", 57, "ReplicaFiles$Catalog", "parent", "[I", "ReplicaFiles") (by decide +kernel))
  have hl := lv_entry ([.ref (A (50, i0, 0)), .int a1]) (n := 3) (Nat.le_of_ble_eq_true rfl)
  rw [← hargs, lg_entry_eq, hargs]
  generalize (lg_sl ([.ref (A (50, i0, 0)), .int a1]) ++ List.replicate (3 - (lg_sl ([.ref (A (50, i0, 0)), .int a1])).length) Slot.unset).toArray = ls at hl ⊢
  have hl : lv_has ls 3 [(0, .ref (A (50, i0, 0))), (1, .int a1)] := hl
  unfold f_X8_holdsSomethingIn at h
  refine lv_iload_n hx hb dX8_holdsSomethingIn_0 rfl (lv_at hl 1 rfl) ?_
  refine lv_iconst (v := (1 : Int32)) hx hb dX8_holdsSomethingIn_1 (by decide) ?_
  refine lv_iadd hx hb dX8_holdsSomethingIn_2 ?_
  refine g_topi h (fun x1 h => ?_)
  refine lv_istore_n (lv' := [(2, .int x1), (0, .ref (A (50, i0, 0))), (1, .int a1)]) hx hb dX8_holdsSomethingIn_3 rfl hl (by decide) rfl (fun ls hl => ?_)
  have hL4 : ∀ (n : Nat) (x2 : Int32) (H : Heap) (locs : List Loc) (ls : Array Slot), gZ D (cLay N) dA (cLive N) A (gA (cLive N) A) s.heap M H locs → lv_has ls 3 [(0, .ref (A (50, i0, 0))), (1, .int a1), (2, .int x2)] → f_X8_holdsSomethingIn_L4 N M i0 a1 n x2 = some y → W p l e (headSpec wmX8_holdsSomethingIn ({ frames := 0, cells := 0, slots := 0, locals := 0 } : Room)).room s m args below meth c H locs 0 0 (MQ below (cQi N D dA A (y, M)) args s 0 0 (gA (cLive N) A)) (F0 m 4 ls []) := by
    intro n
    induction n with
    | zero =>
      intro x2 H locs ls Z hl h
      rw [f_X8_holdsSomethingIn_L4] at h
      cases h
    | succ n4 ih4 =>
      intro x2 H locs ls Z hl h
      rw [f_X8_holdsSomethingIn_L4] at h
      refine lv_iload_n hx hb dX8_holdsSomethingIn_4 rfl (lv_at hl 2 rfl) ?_
      refine lv_aload_n hx hb dX8_holdsSomethingIn_5 rfl (lv_at hl 0 rfl) ?_
      refine cr_X8_catalog (a := i0) S X Z hin_X8 hi0 hl_25 dX8_holdsSomethingIn_6 ?_
      refine cn_X0_made S X Z hin_X0 (cl_one N 1 (by decide)) hl_51 dX8_holdsSomethingIn_9 h (fun v5 h => ?_)
      refine lv_icmp_gt (tgt := 45) hx hb dX8_holdsSomethingIn_12 (by decide) (fun c6 => ?_) (fun c6 => ?_)
      · have h := if_t c6 h
        refine lv_iconst (v := (0 : Int32)) hx hb dX8_holdsSomethingIn_45 (by decide) ?_
        have hy := Option.some.inj h
        subst hy
        exact g_rz (Or.inl rfl) S Z hr hlocks dX8_holdsSomethingIn_46
      · have h := if_f c6 h
        refine lv_aload_n hx hb dX8_holdsSomethingIn_15 rfl (lv_at hl 0 rfl) ?_
        refine cr_X8_held (a := i0) S X Z hin_X8 hi0 hl_9 dX8_holdsSomethingIn_16 ?_
        refine lv_iload_n hx hb dX8_holdsSomethingIn_19 rfl (lv_at hl 2 rfl) ?_
        refine g_zald (i := (51, i0, 0)) (n := 48) S X Z (cl_X8_held hi0) rfl dX8_holdsSomethingIn_20 h (fun v7 h => ?_)
        obtain ⟨J39, eJ39, h⟩ := jn_e h
        have hJ39 : ∀  (H : Heap) (locs : List Loc) (ls : Array Slot), gZ D (cLay N) dA (cLive N) A (gA (cLive N) A) s.heap M H locs → lv_has ls 3 [(0, .ref (A (50, i0, 0))), (1, .int a1), (2, .int x2)] → J39 () = some y → W p l e (headSpec wmX8_holdsSomethingIn ({ frames := 0, cells := 0, slots := 0, locals := 0 } : Room)).room s m args below meth c H locs 0 0 (MQ below (cQi N D dA A (y, M)) args s 0 0 (gA (cLive N) A)) (F0 m 39 ls []) := by
          intro  H locs ls Z hl h
          rw [eJ39] at h
          try dsimp only at h
          obtain ⟨x8, ex8, h⟩ := lt_e h
          refine lv_iinc (v := x8) (lv' := [(2, .int x8), (0, .ref (A (50, i0, 0))), (1, .int a1)]) hx hb dX8_holdsSomethingIn_39 hl (k := 2) rfl (by rw [ex8]; rfl) (by decide) rfl (fun ls hl => ?_)
          refine lv_goto (tgt := 4) hx hb dX8_holdsSomethingIn_42 (by decide) ?_
          exact ih4 x8 _ _ _ Z (lv_sub hl [1, 2, 0] rfl) h
        refine lv_if_eq (tgt := 39) hx hb dX8_holdsSomethingIn_21 (by decide) (fun c9 => ?_) (fun c9 => ?_)
        · have h := if_t c9 h
          exact hJ39  _ _ _ Z (lv_sub hl [0, 1, 2] rfl) h
        · have h := if_f c9 h
          refine lv_aload_n hx hb dX8_holdsSomethingIn_24 rfl (lv_at hl 0 rfl) ?_
          refine cr_X8_catalog (a := i0) S X Z hin_X8 hi0 hl_25 dX8_holdsSomethingIn_25 ?_
          refine cn_X0_parent S X Z hin_X0 (cl_one N 1 (by decide)) hl_57 dX8_holdsSomethingIn_28 ?_
          refine lv_iload_n hx hb dX8_holdsSomethingIn_31 rfl (lv_at hl 2 rfl) ?_
          refine g_iald (i := (2, 0, 0)) (n := 48) S X Z (cl_one N 2 (by decide)) rfl dX8_holdsSomethingIn_32 h (fun v10 h => ?_)
          refine lv_iload_n hx hb dX8_holdsSomethingIn_33 rfl (lv_at hl 1 rfl) ?_
          refine lv_icmp_ne (tgt := 39) hx hb dX8_holdsSomethingIn_34 (by decide) (fun c11 => ?_) (fun c11 => ?_)
          · have h := if_f c11 h
            exact hJ39  _ _ _ Z (lv_sub hl [0, 1, 2] rfl) h
          · have h := if_t c11 h
            refine lv_iconst (v := (1 : Int32)) hx hb dX8_holdsSomethingIn_37 (by decide) ?_
            have hy := Option.some.inj h
            subst hy
            exact g_rz (Or.inr rfl) S Z hr hlocks dX8_holdsSomethingIn_38
  exact hL4 100 x1 _ _ _ Z (lv_sub hl [1, 2, 0] rfl) h
-- X9_clear ()V: 4 instructions
theorem dX9_clear_0 : decode cX9_clear 0 = .ok (.aload_n 0, 1) := by decide +kernel
theorem dX9_clear_1 : decode cX9_clear 1 = .ok (.iconst 0, 1) := by decide +kernel
theorem dX9_clear_2 : decode cX9_clear 2 = .ok (.putfield 21, 3) := by decide +kernel
theorem dX9_clear_5 : decode cX9_clear 5 = .ok (.return_, 1) := by decide +kernel
abbrev wmX9_clear : List Cond := .code yX9_clear cX9_clear 1 none :: cBig
def f_X9_clear (N : Nat) (M : gM) (i0 : Nat) : Option gM :=
  lt (gset M (60, i0, 0) 3 (0 : Int32)) (fun M1 => some M1)
set_option maxHeartbeats 4000000 in
set_option maxRecDepth 100000 in
theorem t_X9_clear (l : Launch) (N : Nat) (D : va_G) (dA : Nat → ClassId) (A : gI → Nat) (hJ : gJ (cLive N) A) {M : gM} {i0 : Nat} (hi0 : cLive N (60, i0, 0)) {y : gM} (h : f_X9_clear N M i0 = some y) : cMv l yX9_clear wmX9_clear ({ frames := 0, cells := 0, slots := 0, locals := 0 } : Room) N D dA A [.ref (A (60, i0, 0))] M y := by
  refine Met.ofW (cc := cX9_clear) (maxL := 1) (ret := none) (by decide) rfl ?_
  intro p e s m args below meth c s₁ B hml hv
  obtain ⟨rfl, hP, hK, hN⟩ := hv
  generalize hargs : ([.ref (A (60, i0, 0))] : List Value).toArray = args at B ⊢
  have S : CallFix p m c cX9_clear 1 s args wmX9_clear RX9 := ⟨B.exec, B.bytes, hml, findClass_of_methodNamed B.named, atoms_spec (ws := wmX9_clear) B.pre⟩
  obtain ⟨hx, hb, -, hown, hts⟩ := id S
  have hr := B.returns
  have hlocks := B.notSynchronized
  have X : gX D vwCl dA (cLive N) A (gA (cLive N) A) s := ⟨hK, hJ, fun i hi => ⟨i, hi, rfl⟩⟩
  have Z : gZ D (cLay N) dA (cLive N) A (gA (cLive N) A) s.heap M s.heap [] := ⟨hP, va_S.rf⟩
  have hin_X9 : ∀ w ∈ wsX90, w ∈ wmX9_clear := cin_X9
  have hl_21 := hts (.fieldLink RX9 21 "ReplicaFiles$Versions" "length" "I") (cBc 183 rfl)
  have hl := lv_entry ([.ref (A (60, i0, 0))]) (n := 1) (Nat.le_of_ble_eq_true rfl)
  rw [← hargs, lg_entry_eq, hargs]
  generalize (lg_sl ([.ref (A (60, i0, 0))]) ++ List.replicate (1 - (lg_sl ([.ref (A (60, i0, 0))])).length) Slot.unset).toArray = ls at hl ⊢
  have hl : lv_has ls 1 [(0, .ref (A (60, i0, 0)))] := hl
  unfold f_X9_clear at h
  refine lv_aload_n hx hb dX9_clear_0 rfl (lv_at hl 0 rfl) ?_
  refine lv_iconst (v := (0 : Int32)) hx hb dX9_clear_1 (by decide) ?_
  refine cp_X9_length (a := i0) S X Z hin_X9 hi0 hl_21 dX9_clear_2 h (fun M1 H locs Z h => ?_)
  have hy := Option.some.inj h
  subst hy
  exact g_rv S Z hr hlocks dX9_clear_5
-- X7_drop (I)V: 10 instructions
theorem dX7_drop_0 : decode cX7_drop 0 = .ok (.aload_n 0, 1) := by decide +kernel
theorem dX7_drop_1 : decode cX7_drop 1 = .ok (.getfield 26, 3) := by decide +kernel
theorem dX7_drop_4 : decode cX7_drop 4 = .ok (.iload_n 1, 1) := by decide +kernel
theorem dX7_drop_5 : decode cX7_drop 5 = .ok (.invokevirtual 41, 3) := by decide +kernel
theorem dX7_drop_8 : decode cX7_drop 8 = .ok (.aload_n 0, 1) := by decide +kernel
theorem dX7_drop_9 : decode cX7_drop 9 = .ok (.getfield 11, 3) := by decide +kernel
theorem dX7_drop_12 : decode cX7_drop 12 = .ok (.iload_n 1, 1) := by decide +kernel
theorem dX7_drop_13 : decode cX7_drop 13 = .ok (.aaload, 1) := by decide +kernel
theorem dX7_drop_14 : decode cX7_drop 14 = .ok (.invokevirtual 45, 3) := by decide +kernel
theorem dX7_drop_17 : decode cX7_drop 17 = .ok (.return_, 1) := by decide +kernel
abbrev wmX7_drop : List Cond := .code yX7_drop cX7_drop 2 none :: cBig
def f_X7_drop (N : Nat) (M : gM) (i0 : Nat) (a1 : Int32) : Option gM :=
  o1 (f_X8_drop N M i0 a1) (fun M2 => ix a1 48 (fun v3 => o1 (f_X9_clear N M2 (48 * i0 + v3)) (fun M5 => some M5)))
set_option maxHeartbeats 4000000 in
set_option maxRecDepth 100000 in
theorem t_X7_drop (l : Launch) (N : Nat) (D : va_G) (dA : Nat → ClassId) (A : gI → Nat) (hJ : gJ (cLive N) A) {M : gM} {i0 : Nat} {a1 : Int32} (hi0 : cLive N (20, i0, 0)) {y : gM} (h : f_X7_drop N M i0 a1 = some y) : cMv l yX7_drop wmX7_drop ({ frames := 2, cells := 0, slots := 0, locals := 45 } : Room) N D dA A [.ref (A (20, i0, 0)), .int a1] M y := by
  refine Met.ofW (cc := cX7_drop) (maxL := 2) (ret := none) (by decide) rfl ?_
  intro p e s m args below meth c s₁ B hml hv
  obtain ⟨rfl, hP, hK, hN⟩ := hv
  generalize hargs : ([.ref (A (20, i0, 0)), .int a1] : List Value).toArray = args at B ⊢
  have S : CallFix p m c cX7_drop 2 s args wmX7_drop RX7 := ⟨B.exec, B.bytes, hml, findClass_of_methodNamed B.named, atoms_spec (ws := wmX7_drop) B.pre⟩
  obtain ⟨hx, hb, -, hown, hts⟩ := id S
  have hr := B.returns
  have hlocks := B.notSynchronized
  have X : gX D vwCl dA (cLive N) A (gA (cLive N) A) s := ⟨hK, hJ, fun i hi => ⟨i, hi, rfl⟩⟩
  have Z : gZ D (cLay N) dA (cLive N) A (gA (cLive N) A) s.heap M s.heap [] := ⟨hP, va_S.rf⟩
  have hin_X7 : ∀ w ∈ wsX70, w ∈ wmX7_drop := cin_X7
  have hl_11 := hts (.fieldLink RX7 11 "ReplicaFiles$Server" "versions" "[LReplicaFiles$Versions;") (cBc 180 rfl)
  have hl_26 := hts (.fieldLink RX7 26 "ReplicaFiles$Server" "tree" "LReplicaFiles$Tree;") (cBc 275 rfl)
  have hl := lv_entry ([.ref (A (20, i0, 0)), .int a1]) (n := 2) (Nat.le_of_ble_eq_true rfl)
  rw [← hargs, lg_entry_eq, hargs]
  generalize (lg_sl ([.ref (A (20, i0, 0)), .int a1]) ++ List.replicate (2 - (lg_sl ([.ref (A (20, i0, 0)), .int a1])).length) Slot.unset).toArray = ls at hl ⊢
  have hl : lv_has ls 2 [(0, .ref (A (20, i0, 0))), (1, .int a1)] := hl
  unfold f_X7_drop at h
  refine lv_aload_n hx hb dX7_drop_0 rfl (lv_at hl 0 rfl) ?_
  refine cr_X7_tree (a := i0) S X Z hin_X7 hi0 hl_26 dX7_drop_1 ?_
  refine lv_iload_n hx hb dX7_drop_4 rfl (lv_at hl 1 rfl) ?_
  obtain ⟨M2, hc1, h⟩ := o1_e h
  refine c_v X Z (c_V (i := (50, i0, 0)) (As := [.int a1]) (rest := []) S X hN Z (cl_st hi0) rfl rfl (t_X8_drop l N D dA A hJ (cl_st hi0) hc1) (cwV 1 hts (cGV (cB 276 rfl) (cB 78 rfl) (cB 79 rfl) (cB 44 rfl) (cB 69 rfl)) rfl rfl rfl (by decide +kernel) ⟨Nat.le_of_ble_eq_true rfl, Nat.le_of_ble_eq_true rfl⟩) rfl hl.1 rfl (Nat.le_of_ble_eq_true rfl) dX7_drop_5 ⟨Nat.zero_le _, Nat.zero_le _⟩) (fun H locs Z => ?_)
  refine lv_aload_n hx hb dX7_drop_8 rfl (lv_at hl 0 rfl) ?_
  refine cr_X7_versions (a := i0) S X Z hin_X7 hi0 hl_11 dX7_drop_9 ?_
  refine lv_iload_n hx hb dX7_drop_12 rfl (lv_at hl 1 rfl) ?_
  refine g_aald (i := (21, i0, 0)) (ca := 4) ⟨rfl, rfl⟩ S X Z (cl_X7_versions hi0) rfl dX7_drop_13 h (fun v3 hv3 h => ?_)
  obtain ⟨M5, hc4, h⟩ := o1_e h
  refine c_v X Z (c_V (i := (60, (48 * i0 + v3), 0)) (As := []) (rest := []) S X hN Z (cl_ver (cl_X7_versions hi0) hv3) rfl rfl (t_X9_clear l N D dA A hJ (cl_ver (cl_X7_versions hi0) hv3) hc4) (cwV 0 hts (cGV (cB 277 rfl) (cB 278 rfl) (cB 279 rfl) (cB 191 rfl) (cB 274 rfl)) rfl rfl rfl (by decide +kernel) ⟨Nat.le_of_ble_eq_true rfl, Nat.le_of_ble_eq_true rfl⟩) rfl hl.1 rfl (Nat.le_of_ble_eq_true rfl) dX7_drop_14 ⟨Nat.zero_le _, Nat.zero_le _⟩) (fun H locs Z => ?_)
  have hy := Option.some.inj h
  subst hy
  exact g_rv S Z hr hlocks dX7_drop_17
-- X6_removeAtOne (LReplicaFiles$Server;I[I)V: 38 instructions
theorem dX6_removeAtOne_0 : decode cX6_removeAtOne 0 = .ok (.aload_n 1, 1) := by decide +kernel
theorem dX6_removeAtOne_1 : decode cX6_removeAtOne 1 = .ok (.getfield 31, 3) := by decide +kernel
theorem dX6_removeAtOne_4 : decode cX6_removeAtOne 4 = .ok (.iload_n 2, 1) := by decide +kernel
theorem dX6_removeAtOne_5 : decode cX6_removeAtOne 5 = .ok (.aload_n 3, 1) := by decide +kernel
theorem dX6_removeAtOne_6 : decode cX6_removeAtOne 6 = .ok (.invokevirtual 85, 3) := by decide +kernel
theorem dX6_removeAtOne_9 : decode cX6_removeAtOne 9 = .ok (.aload_n 1, 1) := by decide +kernel
theorem dX6_removeAtOne_10 : decode cX6_removeAtOne 10 = .ok (.getfield 31, 3) := by decide +kernel
theorem dX6_removeAtOne_13 : decode cX6_removeAtOne 13 = .ok (.getfield 47, 3) := by decide +kernel
theorem dX6_removeAtOne_16 : decode cX6_removeAtOne 16 = .ok (.iload_n 2, 1) := by decide +kernel
theorem dX6_removeAtOne_17 : decode cX6_removeAtOne 17 = .ok (.aaload, 1) := by decide +kernel
theorem dX6_removeAtOne_18 : decode cX6_removeAtOne 18 = .ok (.aload_n 3, 1) := by decide +kernel
theorem dX6_removeAtOne_19 : decode cX6_removeAtOne 19 = .ok (.invokestatic 67, 3) := by decide +kernel
theorem dX6_removeAtOne_22 : decode cX6_removeAtOne 22 = .ok (.ifCond .eq 15, 3) := by decide +kernel
theorem dX6_removeAtOne_25 : decode cX6_removeAtOne 25 = .ok (.aload_n 1, 1) := by decide +kernel
theorem dX6_removeAtOne_26 : decode cX6_removeAtOne 26 = .ok (.iload_n 2, 1) := by decide +kernel
theorem dX6_removeAtOne_27 : decode cX6_removeAtOne 27 = .ok (.invokevirtual 59, 3) := by decide +kernel
theorem dX6_removeAtOne_30 : decode cX6_removeAtOne 30 = .ok (.ifCond .ne 7, 3) := by decide +kernel
theorem dX6_removeAtOne_33 : decode cX6_removeAtOne 33 = .ok (.iconst 1, 1) := by decide +kernel
theorem dX6_removeAtOne_34 : decode cX6_removeAtOne 34 = .ok (.goto 4, 3) := by decide +kernel
theorem dX6_removeAtOne_37 : decode cX6_removeAtOne 37 = .ok (.iconst 0, 1) := by decide +kernel
theorem dX6_removeAtOne_38 : decode cX6_removeAtOne 38 = .ok (.istore 4, 2) := by decide +kernel
theorem dX6_removeAtOne_40 : decode cX6_removeAtOne 40 = .ok (.aload_n 1, 1) := by decide +kernel
theorem dX6_removeAtOne_41 : decode cX6_removeAtOne 41 = .ok (.getfield 31, 3) := by decide +kernel
theorem dX6_removeAtOne_44 : decode cX6_removeAtOne 44 = .ok (.getfield 37, 3) := by decide +kernel
theorem dX6_removeAtOne_47 : decode cX6_removeAtOne 47 = .ok (.iload_n 2, 1) := by decide +kernel
theorem dX6_removeAtOne_48 : decode cX6_removeAtOne 48 = .ok (.baload, 1) := by decide +kernel
theorem dX6_removeAtOne_49 : decode cX6_removeAtOne 49 = .ok (.ifCond .eq 24, 3) := by decide +kernel
theorem dX6_removeAtOne_52 : decode cX6_removeAtOne 52 = .ok (.iload 4, 2) := by decide +kernel
theorem dX6_removeAtOne_54 : decode cX6_removeAtOne 54 = .ok (.ifCond .eq 19, 3) := by decide +kernel
theorem dX6_removeAtOne_57 : decode cX6_removeAtOne 57 = .ok (.aload_n 1, 1) := by decide +kernel
theorem dX6_removeAtOne_58 : decode cX6_removeAtOne 58 = .ok (.getfield 31, 3) := by decide +kernel
theorem dX6_removeAtOne_61 : decode cX6_removeAtOne 61 = .ok (.iload_n 2, 1) := by decide +kernel
theorem dX6_removeAtOne_62 : decode cX6_removeAtOne 62 = .ok (.invokevirtual 89, 3) := by decide +kernel
theorem dX6_removeAtOne_65 : decode cX6_removeAtOne 65 = .ok (.ifCond .ne 8, 3) := by decide +kernel
theorem dX6_removeAtOne_68 : decode cX6_removeAtOne 68 = .ok (.aload_n 1, 1) := by decide +kernel
theorem dX6_removeAtOne_69 : decode cX6_removeAtOne 69 = .ok (.iload_n 2, 1) := by decide +kernel
theorem dX6_removeAtOne_70 : decode cX6_removeAtOne 70 = .ok (.invokevirtual 92, 3) := by decide +kernel
theorem dX6_removeAtOne_73 : decode cX6_removeAtOne 73 = .ok (.return_, 1) := by decide +kernel
abbrev wmX6_removeAtOne : List Cond := .code yX6_removeAtOne cX6_removeAtOne 5 none :: cBig
def f_X6_removeAtOne (N : Nat) (M : gM) (i1 : Nat) (a2 : Int32) (a3 : gI) : Option gM :=
  o1 (f_X8_setGone N M i1 a2 a3) (fun M2 => ix a2 48 (fun v3 => o1 (f_X10_isAtMost N M2 (55, i1, v3) a3) (fun v5 => jn (fun (q : (Int32 × gM)) => match q with | (b6, M7) => rd M7 (51, i1, 0) 48 a2 (fun v8 => (if v8 = 0 then some M7 else (if b6 = 0 then some M7 else o1 (f_X8_holdsSomethingIn N M7 i1 a2) (fun v12 => (if v12 = 0 then o1 (f_X7_drop N M7 i1 a2) (fun M15 => some M15) else some M7)))))) (fun J38 => jn (fun (M16 : gM) => J38 ((0 : Int32), M16)) (fun J37 => (if v5 = 0 then J37 M2 else o1 (f_X7_isInConflict N M2 i1 a2) (fun v19 => (if v19 = 0 then J38 ((1 : Int32), M2) else J37 M2))))))))
set_option maxHeartbeats 4000000 in
set_option maxRecDepth 100000 in
theorem t_X6_removeAtOne (l : Launch) (N : Nat) (D : va_G) (dA : Nat → ClassId) (A : gI → Nat) (hJ : gJ (cLive N) A) {M : gM} {i1 : Nat} {a2 : Int32} {a3 : gI} (hi1 : cLive N (20, i1, 0)) (ha3 : cArr N a3) {y : gM} (h : f_X6_removeAtOne N M i1 a2 a3 = some y) : cMv l yX6_removeAtOne wmX6_removeAtOne ({ frames := 3, cells := 0, slots := 0, locals := 66 } : Room) N D dA A [.ref (A (10, 0, 0)), .ref (A (20, i1, 0)), .int a2, .ref (A a3)] M y := by
  refine Met.ofW (cc := cX6_removeAtOne) (maxL := 5) (ret := none) (by decide) rfl ?_
  intro p e s m args below meth c s₁ B hml hv
  obtain ⟨rfl, hP, hK, hN⟩ := hv
  generalize hargs : ([.ref (A (10, 0, 0)), .ref (A (20, i1, 0)), .int a2, .ref (A a3)] : List Value).toArray = args at B ⊢
  have S : CallFix p m c cX6_removeAtOne 5 s args wmX6_removeAtOne RX6 := ⟨B.exec, B.bytes, hml, findClass_of_methodNamed B.named, atoms_spec (ws := wmX6_removeAtOne) B.pre⟩
  obtain ⟨hx, hb, -, hown, hts⟩ := id S
  have hr := B.returns
  have hlocks := B.notSynchronized
  have X : gX D vwCl dA (cLive N) A (gA (cLive N) A) s := ⟨hK, hJ, fun i hi => ⟨i, hi, rfl⟩⟩
  have Z : gZ D (cLay N) dA (cLive N) A (gA (cLive N) A) s.heap M s.heap [] := ⟨hP, va_S.rf⟩
  have hin_X7 : ∀ w ∈ wsX70, w ∈ wmX6_removeAtOne := cin_X7
  have hin_X8 : ∀ w ∈ wsX80, w ∈ wmX6_removeAtOne := cin_X8
  have hl_31 := va_Nw.use (A := args) rfl (hN.1 ("ReplicaFiles$Replicas", 31, "ReplicaFiles$Server", "tree", "LReplicaFiles$Tree;", "ReplicaFiles") (by decide +kernel))
  have hl_37 := va_Nw.use (A := args) rfl (hN.1 ("ReplicaFiles$Replicas", 37, "ReplicaFiles$Tree", "held", "[Z", "ReplicaFiles") (by decide +kernel))
  have hl_47 := va_Nw.use (A := args) rfl (hN.1 ("ReplicaFiles$Replicas", 47, "ReplicaFiles$Tree", "counts", "[[I", "ReplicaFiles") (by decide +kernel))
  have hl := lv_entry ([.ref (A (10, 0, 0)), .ref (A (20, i1, 0)), .int a2, .ref (A a3)]) (n := 5) (Nat.le_of_ble_eq_true rfl)
  rw [← hargs, lg_entry_eq, hargs]
  generalize (lg_sl ([.ref (A (10, 0, 0)), .ref (A (20, i1, 0)), .int a2, .ref (A a3)]) ++ List.replicate (5 - (lg_sl ([.ref (A (10, 0, 0)), .ref (A (20, i1, 0)), .int a2, .ref (A a3)])).length) Slot.unset).toArray = ls at hl ⊢
  have hl : lv_has ls 5 [(0, .ref (A (10, 0, 0))), (1, .ref (A (20, i1, 0))), (2, .int a2), (3, .ref (A a3))] := hl
  unfold f_X6_removeAtOne at h
  refine lv_aload_n hx hb dX6_removeAtOne_0 rfl (lv_at hl 1 rfl) ?_
  refine cn_X7_tree (a := i1) S X Z hin_X7 hi1 hl_31 dX6_removeAtOne_1 ?_
  refine lv_iload_n hx hb dX6_removeAtOne_4 rfl (lv_at hl 2 rfl) ?_
  refine lv_aload_n hx hb dX6_removeAtOne_5 rfl (lv_at hl 3 rfl) ?_
  obtain ⟨M2, hc1, h⟩ := o1_e h
  refine c_v X Z (c_V (i := (50, i1, 0)) (As := [.int a2, .ref (A a3)]) (rest := []) S X hN Z (cl_st hi1) rfl rfl (t_X8_setGone l N D dA A hJ (cl_st hi1) ha3 hc1) (cwV 2 hts (cGV (cB 281 rfl) (cB 128 rfl) (cB 129 rfl) (cB 44 rfl) (cB 126 rfl)) rfl rfl rfl (by decide +kernel) ⟨Nat.le_of_ble_eq_true rfl, Nat.le_of_ble_eq_true rfl⟩) rfl hl.1 rfl (Nat.le_of_ble_eq_true rfl) dX6_removeAtOne_6 ⟨Nat.zero_le _, Nat.zero_le _⟩) (fun H locs Z => ?_)
  refine lv_aload_n hx hb dX6_removeAtOne_9 rfl (lv_at hl 1 rfl) ?_
  refine cn_X7_tree (a := i1) S X Z hin_X7 hi1 hl_31 dX6_removeAtOne_10 ?_
  refine cn_X8_counts (a := i1) S X Z hin_X8 (cl_st hi1) hl_47 dX6_removeAtOne_13 ?_
  refine lv_iload_n hx hb dX6_removeAtOne_16 rfl (lv_at hl 2 rfl) ?_
  refine g_aald (i := (54, i1, 0)) (ca := 5) ⟨rfl, rfl⟩ S X Z (cl_X8_counts (cl_st hi1)) rfl dX6_removeAtOne_17 h (fun v3 hv3 h => ?_)
  refine lv_aload_n hx hb dX6_removeAtOne_18 rfl (lv_at hl 3 rfl) ?_
  obtain ⟨v5, hc4, h⟩ := o1_e h
  refine c_i X Z (c_SN (As := [.ref (A (55, i1, v3)), .ref (A a3)]) (rest := []) S X hN Z (t_X10_isAtMost l N D dA A hJ ⟨(cl_55 (cl_X8_counts (cl_st hi1)) hv3), rfl⟩ ha3 hc4) ⟨va_cnB 2 hts (cG (cB 264 rfl)) rfl rfl rfl (hN.2 ("ReplicaFiles$Replicas", 67, yX10_isAtMost, "ReplicaFiles") (by decide +kernel)) (hts (.initialized RX10) (cBc 107 rfl)) (by decide +kernel) ⟨Nat.le_of_ble_eq_true rfl, Nat.le_of_ble_eq_true rfl⟩, hts (.static yX10_isAtMost) (cBc 282 rfl), trivial⟩ rfl hl.1 rfl (Nat.le_of_ble_eq_true rfl) dX6_removeAtOne_19 ⟨Nat.zero_le _, Nat.zero_le _⟩) (fun H locs Z => ?_)
  obtain ⟨J38, eJ38, h⟩ := jn_e h
  have hJ38 : ∀ (b6 : Int32) (M7 : gM) (H : Heap) (locs : List Loc) (ls : Array Slot), gZ D (cLay N) dA (cLive N) A (gA (cLive N) A) s.heap M7 H locs → lv_has ls 5 [(1, .ref (A (20, i1, 0))), (2, .int a2)] → J38 (b6, M7) = some y → W p l e (headSpec wmX6_removeAtOne ({ frames := 3, cells := 0, slots := 0, locals := 66 } : Room)).room s m args below meth c H locs 0 0 (MQ below (cQv N D dA A y) args s 0 0 (gA (cLive N) A)) (F0 m 38 ls [.int b6]) := by
    intro b6 M7 H locs ls Z hl h
    rw [eJ38] at h
    try dsimp only at h
    refine lv_istore (lv' := [(4, .int b6), (1, .ref (A (20, i1, 0))), (2, .int a2)]) hx hb dX6_removeAtOne_38 hl (by decide) rfl (fun ls hl => ?_)
    refine lv_aload_n hx hb dX6_removeAtOne_40 rfl (lv_at hl 1 rfl) ?_
    refine cn_X7_tree (a := i1) S X Z hin_X7 hi1 hl_31 dX6_removeAtOne_41 ?_
    refine cn_X8_held (a := i1) S X Z hin_X8 (cl_st hi1) hl_37 dX6_removeAtOne_44 ?_
    refine lv_iload_n hx hb dX6_removeAtOne_47 rfl (lv_at hl 2 rfl) ?_
    refine g_zald (i := (51, i1, 0)) (n := 48) S X Z (cl_X8_held (cl_st hi1)) rfl dX6_removeAtOne_48 h (fun v8 h => ?_)
    refine lv_if_eq (tgt := 73) hx hb dX6_removeAtOne_49 (by decide) (fun c9 => ?_) (fun c9 => ?_)
    · have h := if_t c9 h
      have hy := Option.some.inj h
      subst hy
      exact g_rv S Z hr hlocks dX6_removeAtOne_73
    · have h := if_f c9 h
      refine lv_iload hx hb dX6_removeAtOne_52 (lv_at hl 0 rfl) ?_
      refine lv_if_eq (tgt := 73) hx hb dX6_removeAtOne_54 (by decide) (fun c10 => ?_) (fun c10 => ?_)
      · have h := if_t c10 h
        have hy := Option.some.inj h
        subst hy
        exact g_rv S Z hr hlocks dX6_removeAtOne_73
      · have h := if_f c10 h
        refine lv_aload_n hx hb dX6_removeAtOne_57 rfl (lv_at hl 1 rfl) ?_
        refine cn_X7_tree (a := i1) S X Z hin_X7 hi1 hl_31 dX6_removeAtOne_58 ?_
        refine lv_iload_n hx hb dX6_removeAtOne_61 rfl (lv_at hl 2 rfl) ?_
        obtain ⟨v12, hc11, h⟩ := o1_e h
        refine c_i X Z (c_V (i := (50, i1, 0)) (As := [.int a2]) (rest := []) S X hN Z (cl_st hi1) rfl rfl (t_X8_holdsSomethingIn l N D dA A hJ (cl_st hi1) hc11) (cwV 1 hts (cGV (cB 283 rfl) (cB 284 rfl) (cB 285 rfl) (cB 44 rfl) (cB 273 rfl)) rfl rfl rfl (by decide +kernel) ⟨Nat.le_of_ble_eq_true rfl, Nat.le_of_ble_eq_true rfl⟩) rfl hl.1 rfl (Nat.le_of_ble_eq_true rfl) dX6_removeAtOne_62 ⟨Nat.zero_le _, Nat.zero_le _⟩) (fun H locs Z => ?_)
        refine lv_if_ne (tgt := 73) hx hb dX6_removeAtOne_65 (by decide) (fun c13 => ?_) (fun c13 => ?_)
        · have h := if_f c13 h
          have hy := Option.some.inj h
          subst hy
          exact g_rv S Z hr hlocks dX6_removeAtOne_73
        · have h := if_t c13 h
          refine lv_aload_n hx hb dX6_removeAtOne_68 rfl (lv_at hl 1 rfl) ?_
          refine lv_iload_n hx hb dX6_removeAtOne_69 rfl (lv_at hl 2 rfl) ?_
          obtain ⟨M15, hc14, h⟩ := o1_e h
          refine c_v X Z (c_V (i := (20, i1, 0)) (As := [.int a2]) (rest := []) S X hN Z hi1 rfl rfl (t_X7_drop l N D dA A hJ hi1 hc14) (cwV 1 hts (cGV (cB 286 rfl) (cB 287 rfl) (cB 288 rfl) (cB 235 rfl) (cB 280 rfl)) rfl rfl rfl (by decide +kernel) ⟨Nat.le_of_ble_eq_true rfl, Nat.le_of_ble_eq_true rfl⟩) rfl hl.1 rfl (Nat.le_of_ble_eq_true rfl) dX6_removeAtOne_70 ⟨Nat.zero_le _, Nat.zero_le _⟩) (fun H locs Z => ?_)
          have hy := Option.some.inj h
          subst hy
          exact g_rv S Z hr hlocks dX6_removeAtOne_73
  obtain ⟨J37, eJ37, h⟩ := jn_e h
  have hJ37 : ∀ (M16 : gM) (H : Heap) (locs : List Loc) (ls : Array Slot), gZ D (cLay N) dA (cLive N) A (gA (cLive N) A) s.heap M16 H locs → lv_has ls 5 [(1, .ref (A (20, i1, 0))), (2, .int a2)] → J37 M16 = some y → W p l e (headSpec wmX6_removeAtOne ({ frames := 3, cells := 0, slots := 0, locals := 66 } : Room)).room s m args below meth c H locs 0 0 (MQ below (cQv N D dA A y) args s 0 0 (gA (cLive N) A)) (F0 m 37 ls []) := by
    intro M16 H locs ls Z hl h
    rw [eJ37] at h
    try dsimp only at h
    refine lv_iconst (v := (0 : Int32)) hx hb dX6_removeAtOne_37 (by decide) ?_
    exact hJ38 (0 : Int32) M16 _ _ _ Z (lv_sub hl [0, 1] rfl) h
  refine lv_if_eq (tgt := 37) hx hb dX6_removeAtOne_22 (by decide) (fun c17 => ?_) (fun c17 => ?_)
  · have h := if_t c17 h
    exact hJ37 M2 _ _ _ Z (lv_sub hl [1, 2] rfl) h
  · have h := if_f c17 h
    refine lv_aload_n hx hb dX6_removeAtOne_25 rfl (lv_at hl 1 rfl) ?_
    refine lv_iload_n hx hb dX6_removeAtOne_26 rfl (lv_at hl 2 rfl) ?_
    obtain ⟨v19, hc18, h⟩ := o1_e h
    refine c_i X Z (c_V (i := (20, i1, 0)) (As := [.int a2]) (rest := []) S X hN Z hi1 rfl rfl (t_X7_isInConflict l N D dA A hJ hi1 hc18) (cwV 1 hts (cGV (cB 232 rfl) (cB 233 rfl) (cB 234 rfl) (cB 235 rfl) (cB 179 rfl)) rfl rfl rfl (by decide +kernel) ⟨Nat.le_of_ble_eq_true rfl, Nat.le_of_ble_eq_true rfl⟩) rfl hl.1 rfl (Nat.le_of_ble_eq_true rfl) dX6_removeAtOne_27 ⟨Nat.zero_le _, Nat.zero_le _⟩) (fun H locs Z => ?_)
    refine lv_if_ne (tgt := 37) hx hb dX6_removeAtOne_30 (by decide) (fun c20 => ?_) (fun c20 => ?_)
    · have h := if_f c20 h
      exact hJ37 M2 _ _ _ Z (lv_sub hl [1, 2] rfl) h
    · have h := if_t c20 h
      refine lv_iconst (v := (1 : Int32)) hx hb dX6_removeAtOne_33 (by decide) ?_
      refine lv_goto (tgt := 38) hx hb dX6_removeAtOne_34 (by decide) ?_
      exact hJ38 (1 : Int32) M2 _ _ _ Z (lv_sub hl [1, 2] rfl) h
-- X6_removeAt (II[I)V: 30 instructions
theorem dX6_removeAt_0 : decode cX6_removeAt 0 = .ok (.iconst 0, 1) := by decide +kernel
theorem dX6_removeAt_1 : decode cX6_removeAt 1 = .ok (.istore 4, 2) := by decide +kernel
theorem dX6_removeAt_3 : decode cX6_removeAt 3 = .ok (.iload 4, 2) := by decide +kernel
theorem dX6_removeAt_5 : decode cX6_removeAt 5 = .ok (.aload_n 0, 1) := by decide +kernel
theorem dX6_removeAt_6 : decode cX6_removeAt 6 = .ok (.getfield 15, 3) := by decide +kernel
theorem dX6_removeAt_9 : decode cX6_removeAt 9 = .ok (.arraylength, 1) := by decide +kernel
theorem dX6_removeAt_10 : decode cX6_removeAt 10 = .ok (.if_icmp .ge 41, 3) := by decide +kernel
theorem dX6_removeAt_13 : decode cX6_removeAt 13 = .ok (.iload_n 1, 1) := by decide +kernel
theorem dX6_removeAt_14 : decode cX6_removeAt 14 = .ok (.iload 4, 2) := by decide +kernel
theorem dX6_removeAt_16 : decode cX6_removeAt 16 = .ok (.invokestatic 27, 3) := by decide +kernel
theorem dX6_removeAt_19 : decode cX6_removeAt 19 = .ok (.ifCond .eq 26, 3) := by decide +kernel
theorem dX6_removeAt_22 : decode cX6_removeAt 22 = .ok (.aload_n 0, 1) := by decide +kernel
theorem dX6_removeAt_23 : decode cX6_removeAt 23 = .ok (.aload_n 0, 1) := by decide +kernel
theorem dX6_removeAt_24 : decode cX6_removeAt 24 = .ok (.getfield 15, 3) := by decide +kernel
theorem dX6_removeAt_27 : decode cX6_removeAt 27 = .ok (.iload 4, 2) := by decide +kernel
theorem dX6_removeAt_29 : decode cX6_removeAt 29 = .ok (.aaload, 1) := by decide +kernel
theorem dX6_removeAt_30 : decode cX6_removeAt 30 = .ok (.iload_n 2, 1) := by decide +kernel
theorem dX6_removeAt_31 : decode cX6_removeAt 31 = .ok (.aload_n 3, 1) := by decide +kernel
theorem dX6_removeAt_32 : decode cX6_removeAt 32 = .ok (.invokevirtual 81, 3) := by decide +kernel
theorem dX6_removeAt_35 : decode cX6_removeAt 35 = .ok (.aload_n 0, 1) := by decide +kernel
theorem dX6_removeAt_36 : decode cX6_removeAt 36 = .ok (.getfield 23, 3) := by decide +kernel
theorem dX6_removeAt_39 : decode cX6_removeAt 39 = .ok (.iconst 1, 1) := by decide +kernel
theorem dX6_removeAt_40 : decode cX6_removeAt 40 = .ok (.dup2, 1) := by decide +kernel
theorem dX6_removeAt_41 : decode cX6_removeAt 41 = .ok (.iaload, 1) := by decide +kernel
theorem dX6_removeAt_42 : decode cX6_removeAt 42 = .ok (.iconst 1, 1) := by decide +kernel
theorem dX6_removeAt_43 : decode cX6_removeAt 43 = .ok (.iadd, 1) := by decide +kernel
theorem dX6_removeAt_44 : decode cX6_removeAt 44 = .ok (.iastore, 1) := by decide +kernel
theorem dX6_removeAt_45 : decode cX6_removeAt 45 = .ok (.iinc 4 1, 3) := by decide +kernel
theorem dX6_removeAt_48 : decode cX6_removeAt 48 = .ok (.goto (-45), 3) := by decide +kernel
theorem dX6_removeAt_51 : decode cX6_removeAt 51 = .ok (.return_, 1) := by decide +kernel
abbrev wmX6_removeAt : List Cond := .code yX6_removeAt cX6_removeAt 5 none :: cBig
def f_X6_removeAt_L3 (N : Nat) (a1 : Int32) (a2 : Int32) (a3 : gI) : Nat → Int32 → gM → Option gM
  | 0, _, _ => none
  | n3 + 1, x1, M2 => (if (nI N) ≤ x1 then some M2 else o1 (f_X10_isIn N M2 a1 x1) (fun v6 => jn (fun (M7 : gM) => lt (x1 + 1) (fun x8 => f_X6_removeAt_L3 N a1 a2 a3 n3 x8 M7)) (fun J45 => (if v6 = 0 then J45 M2 else ix x1 N (fun v10 => o1 (f_X6_removeAtOne N M2 v10 a2 a3) (fun M12 => rd M12 (9, 0, 0) 8 (1 : Int32) (fun v13 => wr M12 (9, 0, 0) 8 (1 : Int32) (v13 + (1 : Int32)) (fun M14 => J45 M14))))))))
def f_X6_removeAt (N : Nat) (M : gM) (a1 : Int32) (a2 : Int32) (a3 : gI) : Option gM :=
  f_X6_removeAt_L3 N a1 a2 a3 100 (0 : Int32) M
set_option maxHeartbeats 4000000 in
set_option maxRecDepth 100000 in
theorem t_X6_removeAt (l : Launch) (N : Nat) (D : va_G) (dA : Nat → ClassId) (A : gI → Nat) (hJ : gJ (cLive N) A) {M : gM} {a1 : Int32} {a2 : Int32} {a3 : gI} (ha3 : cArr N a3) {y : gM} (h : f_X6_removeAt N M a1 a2 a3 = some y) : cMv l yX6_removeAt wmX6_removeAt ({ frames := 4, cells := 0, slots := 0, locals := 90 } : Room) N D dA A [.ref (A (10, 0, 0)), .int a1, .int a2, .ref (A a3)] M y := by
  refine Met.ofW (cc := cX6_removeAt) (maxL := 5) (ret := none) (by decide) rfl ?_
  intro p e s m args below meth c s₁ B hml hv
  obtain ⟨rfl, hP, hK, hN⟩ := hv
  generalize hargs : ([.ref (A (10, 0, 0)), .int a1, .int a2, .ref (A a3)] : List Value).toArray = args at B ⊢
  have S : CallFix p m c cX6_removeAt 5 s args wmX6_removeAt RX6 := ⟨B.exec, B.bytes, hml, findClass_of_methodNamed B.named, atoms_spec (ws := wmX6_removeAt) B.pre⟩
  obtain ⟨hx, hb, -, hown, hts⟩ := id S
  have hr := B.returns
  have hlocks := B.notSynchronized
  have X : gX D vwCl dA (cLive N) A (gA (cLive N) A) s := ⟨hK, hJ, fun i hi => ⟨i, hi, rfl⟩⟩
  have Z : gZ D (cLay N) dA (cLive N) A (gA (cLive N) A) s.heap M s.heap [] := ⟨hP, va_S.rf⟩
  have hin_X6 : ∀ w ∈ wsX60, w ∈ wmX6_removeAt := cin_X6
  have hl_15 := hts (.fieldLink RX6 15 "ReplicaFiles$Replicas" "servers" "[LReplicaFiles$Server;") (cBc 177 rfl)
  have hl_23 := hts (.fieldLink RX6 23 "ReplicaFiles$Replicas" "tallies" "[I") (cBc 237 rfl)
  have hl := lv_entry ([.ref (A (10, 0, 0)), .int a1, .int a2, .ref (A a3)]) (n := 5) (Nat.le_of_ble_eq_true rfl)
  rw [← hargs, lg_entry_eq, hargs]
  generalize (lg_sl ([.ref (A (10, 0, 0)), .int a1, .int a2, .ref (A a3)]) ++ List.replicate (5 - (lg_sl ([.ref (A (10, 0, 0)), .int a1, .int a2, .ref (A a3)])).length) Slot.unset).toArray = ls at hl ⊢
  have hl : lv_has ls 5 [(0, .ref (A (10, 0, 0))), (1, .int a1), (2, .int a2), (3, .ref (A a3))] := hl
  unfold f_X6_removeAt at h
  refine lv_iconst (v := (0 : Int32)) hx hb dX6_removeAt_0 (by decide) ?_
  refine lv_istore (lv' := [(4, .int (0 : Int32)), (0, .ref (A (10, 0, 0))), (1, .int a1), (2, .int a2), (3, .ref (A a3))]) hx hb dX6_removeAt_1 hl (by decide) rfl (fun ls hl => ?_)
  have hL3 : ∀ (n : Nat) (x1 : Int32) (M2 : gM) (H : Heap) (locs : List Loc) (ls : Array Slot), gZ D (cLay N) dA (cLive N) A (gA (cLive N) A) s.heap M2 H locs → lv_has ls 5 [(0, .ref (A (10, 0, 0))), (1, .int a1), (2, .int a2), (3, .ref (A a3)), (4, .int x1)] → f_X6_removeAt_L3 N a1 a2 a3 n x1 M2 = some y → W p l e (headSpec wmX6_removeAt ({ frames := 4, cells := 0, slots := 0, locals := 90 } : Room)).room s m args below meth c H locs 0 0 (MQ below (cQv N D dA A y) args s 0 0 (gA (cLive N) A)) (F0 m 3 ls []) := by
    intro n
    induction n with
    | zero =>
      intro x1 M2 H locs ls Z hl h
      rw [f_X6_removeAt_L3] at h
      cases h
    | succ n3 ih3 =>
      intro x1 M2 H locs ls Z hl h
      rw [f_X6_removeAt_L3] at h
      refine lv_iload hx hb dX6_removeAt_3 (lv_at hl 4 rfl) ?_
      refine lv_aload_n hx hb dX6_removeAt_5 rfl (lv_at hl 0 rfl) ?_
      refine cr_X6_servers S X Z hin_X6 (cl_one N 10 (by decide)) hl_15 dX6_removeAt_6 ?_
      refine g_alR (i := (7, 0, 0)) (ca := 2) rfl S X Z (cl_one N 7 (by decide)) rfl dX6_removeAt_9 ?_
      refine lv_icmp_ge (tgt := 51) hx hb dX6_removeAt_10 (by decide) (fun c4 => ?_) (fun c4 => ?_)
      · have h := if_t c4 h
        have hy := Option.some.inj h
        subst hy
        exact g_rv S Z hr hlocks dX6_removeAt_51
      · have h := if_f c4 h
        refine lv_iload_n hx hb dX6_removeAt_13 rfl (lv_at hl 1 rfl) ?_
        refine lv_iload hx hb dX6_removeAt_14 (lv_at hl 4 rfl) ?_
        obtain ⟨v6, hc5, h⟩ := o1_e h
        refine c_i X Z (c_SN (As := [.int a1, .int x1]) (rest := []) S X hN Z (t_X10_isIn l N D dA A hJ  hc5) ⟨va_cnB 2 hts (cG (cB 175 rfl)) rfl rfl rfl (hN.2 ("ReplicaFiles$Replicas", 27, yX10_isIn, "ReplicaFiles") (by decide +kernel)) (hts (.initialized RX10) (cBc 107 rfl)) (by decide +kernel) ⟨Nat.le_of_ble_eq_true rfl, Nat.le_of_ble_eq_true rfl⟩, hts (.static yX10_isIn) (cBc 178 rfl), trivial⟩ rfl hl.1 rfl (Nat.le_of_ble_eq_true rfl) dX6_removeAt_16 ⟨Nat.zero_le _, Nat.zero_le _⟩) (fun H locs Z => ?_)
        obtain ⟨J45, eJ45, h⟩ := jn_e h
        have hJ45 : ∀ (M7 : gM) (H : Heap) (locs : List Loc) (ls : Array Slot), gZ D (cLay N) dA (cLive N) A (gA (cLive N) A) s.heap M7 H locs → lv_has ls 5 [(0, .ref (A (10, 0, 0))), (1, .int a1), (2, .int a2), (3, .ref (A a3)), (4, .int x1)] → J45 M7 = some y → W p l e (headSpec wmX6_removeAt ({ frames := 4, cells := 0, slots := 0, locals := 90 } : Room)).room s m args below meth c H locs 0 0 (MQ below (cQv N D dA A y) args s 0 0 (gA (cLive N) A)) (F0 m 45 ls []) := by
          intro M7 H locs ls Z hl h
          rw [eJ45] at h
          try dsimp only at h
          obtain ⟨x8, ex8, h⟩ := lt_e h
          refine lv_iinc (v := x8) (lv' := [(4, .int x8), (0, .ref (A (10, 0, 0))), (1, .int a1), (2, .int a2), (3, .ref (A a3))]) hx hb dX6_removeAt_45 hl (k := 4) rfl (by rw [ex8]; rfl) (by decide) rfl (fun ls hl => ?_)
          refine lv_goto (tgt := 3) hx hb dX6_removeAt_48 (by decide) ?_
          exact ih3 x8 M7 _ _ _ Z (lv_sub hl [1, 2, 3, 4, 0] rfl) h
        refine lv_if_eq (tgt := 45) hx hb dX6_removeAt_19 (by decide) (fun c9 => ?_) (fun c9 => ?_)
        · have h := if_t c9 h
          exact hJ45 M2 _ _ _ Z (lv_sub hl [0, 1, 2, 3, 4] rfl) h
        · have h := if_f c9 h
          refine lv_aload_n hx hb dX6_removeAt_22 rfl (lv_at hl 0 rfl) ?_
          refine lv_aload_n hx hb dX6_removeAt_23 rfl (lv_at hl 0 rfl) ?_
          refine cr_X6_servers S X Z hin_X6 (cl_one N 10 (by decide)) hl_15 dX6_removeAt_24 ?_
          refine lv_iload hx hb dX6_removeAt_27 (lv_at hl 4 rfl) ?_
          refine g_aald (i := (7, 0, 0)) (ca := 2) ⟨rfl, rfl⟩ S X Z (cl_one N 7 (by decide)) rfl dX6_removeAt_29 h (fun v10 hv10 h => ?_)
          refine lv_iload_n hx hb dX6_removeAt_30 rfl (lv_at hl 2 rfl) ?_
          refine lv_aload_n hx hb dX6_removeAt_31 rfl (lv_at hl 3 rfl) ?_
          obtain ⟨M12, hc11, h⟩ := o1_e h
          refine c_v X Z (c_V (i := (10, 0, 0)) (As := [.ref (A (20, v10, 0)), .int a2, .ref (A a3)]) (rest := []) S X hN Z (cl_one N 10 (by decide)) rfl rfl (t_X6_removeAtOne l N D dA A hJ (cl_srv hv10) ha3 hc11) (cwV 3 hts (cGV (cB 290 rfl) (cB 291 rfl) (cB 292 rfl) (cB 203 rfl) (cB 289 rfl)) rfl rfl rfl (by decide +kernel) ⟨Nat.le_of_ble_eq_true rfl, Nat.le_of_ble_eq_true rfl⟩) rfl hl.1 rfl (Nat.le_of_ble_eq_true rfl) dX6_removeAt_32 ⟨Nat.zero_le _, Nat.zero_le _⟩) (fun H locs Z => ?_)
          refine lv_aload_n hx hb dX6_removeAt_35 rfl (lv_at hl 0 rfl) ?_
          refine cr_X6_tallies S X Z hin_X6 (cl_one N 10 (by decide)) hl_23 dX6_removeAt_36 ?_
          refine lv_iconst (v := (1 : Int32)) hx hb dX6_removeAt_39 (by decide) ?_
          refine lv_dup2_11 hx hb dX6_removeAt_40 rfl rfl ?_
          refine g_iald (i := (9, 0, 0)) (n := 8) S X Z (cl_one N 9 (by decide)) rfl dX6_removeAt_41 h (fun v13 h => ?_)
          refine lv_iconst (v := (1 : Int32)) hx hb dX6_removeAt_42 (by decide) ?_
          refine lv_iadd hx hb dX6_removeAt_43 ?_
          refine g_iast (i := (9, 0, 0)) (n := 8) S X Z (cl_one N 9 (by decide)) rfl dX6_removeAt_44 h (fun M14 H locs Z h => ?_)
          exact hJ45 M14 _ _ _ Z (lv_sub hl [0, 1, 2, 3, 4] rfl) h
  exact hL3 100 (0 : Int32) M _ _ _ Z (lv_sub hl [1, 2, 3, 4, 0] rfl) h
-- X2_handInRemove (II[I)V: 89 instructions
theorem dX2_handInRemove_0 : decode cX2_handInRemove 0 = .ok (.aload_n 0, 1) := by decide +kernel
theorem dX2_handInRemove_1 : decode cX2_handInRemove 1 = .ok (.getfield 9, 3) := by decide +kernel
theorem dX2_handInRemove_4 : decode cX2_handInRemove 4 = .ok (.getfield 79, 3) := by decide +kernel
theorem dX2_handInRemove_7 : decode cX2_handInRemove 7 = .ok (.aload_n 0, 1) := by decide +kernel
theorem dX2_handInRemove_8 : decode cX2_handInRemove 8 = .ok (.getfield 37, 3) := by decide +kernel
theorem dX2_handInRemove_11 : decode cX2_handInRemove 11 = .ok (.aaload, 1) := by decide +kernel
theorem dX2_handInRemove_12 : decode cX2_handInRemove 12 = .ok (.astore 4, 2) := by decide +kernel
theorem dX2_handInRemove_14 : decode cX2_handInRemove 14 = .ok (.aload 4, 2) := by decide +kernel
theorem dX2_handInRemove_16 : decode cX2_handInRemove 16 = .ok (.getfield 83, 3) := by decide +kernel
theorem dX2_handInRemove_19 : decode cX2_handInRemove 19 = .ok (.getfield 89, 3) := by decide +kernel
theorem dX2_handInRemove_22 : decode cX2_handInRemove 22 = .ok (.iload_n 2, 1) := by decide +kernel
theorem dX2_handInRemove_23 : decode cX2_handInRemove 23 = .ok (.baload, 1) := by decide +kernel
theorem dX2_handInRemove_24 : decode cX2_handInRemove 24 = .ok (.ifCond .eq 30, 3) := by decide +kernel
theorem dX2_handInRemove_27 : decode cX2_handInRemove 27 = .ok (.aload 4, 2) := by decide +kernel
theorem dX2_handInRemove_29 : decode cX2_handInRemove 29 = .ok (.getfield 83, 3) := by decide +kernel
theorem dX2_handInRemove_32 : decode cX2_handInRemove 32 = .ok (.getfield 89, 3) := by decide +kernel
theorem dX2_handInRemove_35 : decode cX2_handInRemove 35 = .ok (.iload_n 1, 1) := by decide +kernel
theorem dX2_handInRemove_36 : decode cX2_handInRemove 36 = .ok (.baload, 1) := by decide +kernel
theorem dX2_handInRemove_37 : decode cX2_handInRemove 37 = .ok (.ifCond .eq 17, 3) := by decide +kernel
theorem dX2_handInRemove_40 : decode cX2_handInRemove 40 = .ok (.aload 4, 2) := by decide +kernel
theorem dX2_handInRemove_42 : decode cX2_handInRemove 42 = .ok (.getfield 83, 3) := by decide +kernel
theorem dX2_handInRemove_45 : decode cX2_handInRemove 45 = .ok (.getfield 169, 3) := by decide +kernel
theorem dX2_handInRemove_48 : decode cX2_handInRemove 48 = .ok (.iload_n 2, 1) := by decide +kernel
theorem dX2_handInRemove_49 : decode cX2_handInRemove 49 = .ok (.iaload, 1) := by decide +kernel
theorem dX2_handInRemove_50 : decode cX2_handInRemove 50 = .ok (.iconst 2, 1) := by decide +kernel
theorem dX2_handInRemove_51 : decode cX2_handInRemove 51 = .ok (.if_icmp .ne 4, 3) := by decide +kernel
theorem dX2_handInRemove_54 : decode cX2_handInRemove 54 = .ok (.return_, 1) := by decide +kernel
theorem dX2_handInRemove_55 : decode cX2_handInRemove 55 = .ok (.aload 4, 2) := by decide +kernel
theorem dX2_handInRemove_57 : decode cX2_handInRemove 57 = .ok (.getfield 83, 3) := by decide +kernel
theorem dX2_handInRemove_60 : decode cX2_handInRemove 60 = .ok (.getfield 102, 3) := by decide +kernel
theorem dX2_handInRemove_63 : decode cX2_handInRemove 63 = .ok (.iload_n 2, 1) := by decide +kernel
theorem dX2_handInRemove_64 : decode cX2_handInRemove 64 = .ok (.aaload, 1) := by decide +kernel
theorem dX2_handInRemove_65 : decode cX2_handInRemove 65 = .ok (.aload_n 3, 1) := by decide +kernel
theorem dX2_handInRemove_66 : decode cX2_handInRemove 66 = .ok (.invokestatic 172, 3) := by decide +kernel
theorem dX2_handInRemove_69 : decode cX2_handInRemove 69 = .ok (.ifCond .eq 24, 3) := by decide +kernel
theorem dX2_handInRemove_72 : decode cX2_handInRemove 72 = .ok (.aload 4, 2) := by decide +kernel
theorem dX2_handInRemove_74 : decode cX2_handInRemove 74 = .ok (.iload_n 2, 1) := by decide +kernel
theorem dX2_handInRemove_75 : decode cX2_handInRemove 75 = .ok (.invokevirtual 98, 3) := by decide +kernel
theorem dX2_handInRemove_78 : decode cX2_handInRemove 78 = .ok (.ifCond .ne 15, 3) := by decide +kernel
theorem dX2_handInRemove_81 : decode cX2_handInRemove 81 = .ok (.aload 4, 2) := by decide +kernel
theorem dX2_handInRemove_83 : decode cX2_handInRemove 83 = .ok (.getfield 83, 3) := by decide +kernel
theorem dX2_handInRemove_86 : decode cX2_handInRemove 86 = .ok (.iload_n 2, 1) := by decide +kernel
theorem dX2_handInRemove_87 : decode cX2_handInRemove 87 = .ok (.invokevirtual 175, 3) := by decide +kernel
theorem dX2_handInRemove_90 : decode cX2_handInRemove 90 = .ok (.ifCond .le 17, 3) := by decide +kernel
theorem dX2_handInRemove_93 : decode cX2_handInRemove 93 = .ok (.aload_n 0, 1) := by decide +kernel
theorem dX2_handInRemove_94 : decode cX2_handInRemove 94 = .ok (.getfield 9, 3) := by decide +kernel
theorem dX2_handInRemove_97 : decode cX2_handInRemove 97 = .ok (.getfield 95, 3) := by decide +kernel
theorem dX2_handInRemove_100 : decode cX2_handInRemove 100 = .ok (.iconst 3, 1) := by decide +kernel
theorem dX2_handInRemove_101 : decode cX2_handInRemove 101 = .ok (.dup2, 1) := by decide +kernel
theorem dX2_handInRemove_102 : decode cX2_handInRemove 102 = .ok (.iaload, 1) := by decide +kernel
theorem dX2_handInRemove_103 : decode cX2_handInRemove 103 = .ok (.iconst 1, 1) := by decide +kernel
theorem dX2_handInRemove_104 : decode cX2_handInRemove 104 = .ok (.iadd, 1) := by decide +kernel
theorem dX2_handInRemove_105 : decode cX2_handInRemove 105 = .ok (.iastore, 1) := by decide +kernel
theorem dX2_handInRemove_106 : decode cX2_handInRemove 106 = .ok (.return_, 1) := by decide +kernel
theorem dX2_handInRemove_107 : decode cX2_handInRemove 107 = .ok (.aload_n 0, 1) := by decide +kernel
theorem dX2_handInRemove_108 : decode cX2_handInRemove 108 = .ok (.getfield 9, 3) := by decide +kernel
theorem dX2_handInRemove_111 : decode cX2_handInRemove 111 = .ok (.aload_n 0, 1) := by decide +kernel
theorem dX2_handInRemove_112 : decode cX2_handInRemove 112 = .ok (.getfield 29, 3) := by decide +kernel
theorem dX2_handInRemove_115 : decode cX2_handInRemove 115 = .ok (.iload_n 1, 1) := by decide +kernel
theorem dX2_handInRemove_116 : decode cX2_handInRemove 116 = .ok (.aload 4, 2) := by decide +kernel
theorem dX2_handInRemove_118 : decode cX2_handInRemove 118 = .ok (.getfield 83, 3) := by decide +kernel
theorem dX2_handInRemove_121 : decode cX2_handInRemove 121 = .ok (.getfield 102, 3) := by decide +kernel
theorem dX2_handInRemove_124 : decode cX2_handInRemove 124 = .ok (.iload_n 1, 1) := by decide +kernel
theorem dX2_handInRemove_125 : decode cX2_handInRemove 125 = .ok (.aaload, 1) := by decide +kernel
theorem dX2_handInRemove_126 : decode cX2_handInRemove 126 = .ok (.invokevirtual 111, 3) := by decide +kernel
theorem dX2_handInRemove_129 : decode cX2_handInRemove 129 = .ok (.istore 5, 2) := by decide +kernel
theorem dX2_handInRemove_131 : decode cX2_handInRemove 131 = .ok (.aload_n 0, 1) := by decide +kernel
theorem dX2_handInRemove_132 : decode cX2_handInRemove 132 = .ok (.getfield 9, 3) := by decide +kernel
theorem dX2_handInRemove_135 : decode cX2_handInRemove 135 = .ok (.iload 5, 2) := by decide +kernel
theorem dX2_handInRemove_137 : decode cX2_handInRemove 137 = .ok (.iload_n 2, 1) := by decide +kernel
theorem dX2_handInRemove_138 : decode cX2_handInRemove 138 = .ok (.aload_n 3, 1) := by decide +kernel
theorem dX2_handInRemove_139 : decode cX2_handInRemove 139 = .ok (.invokevirtual 178, 3) := by decide +kernel
theorem dX2_handInRemove_142 : decode cX2_handInRemove 142 = .ok (.aload_n 0, 1) := by decide +kernel
theorem dX2_handInRemove_143 : decode cX2_handInRemove 143 = .ok (.getfield 9, 3) := by decide +kernel
theorem dX2_handInRemove_146 : decode cX2_handInRemove 146 = .ok (.iload 5, 2) := by decide +kernel
theorem dX2_handInRemove_148 : decode cX2_handInRemove 148 = .ok (.iload_n 1, 1) := by decide +kernel
theorem dX2_handInRemove_149 : decode cX2_handInRemove 149 = .ok (.invokevirtual 126, 3) := by decide +kernel
theorem dX2_handInRemove_152 : decode cX2_handInRemove 152 = .ok (.pop, 1) := by decide +kernel
theorem dX2_handInRemove_153 : decode cX2_handInRemove 153 = .ok (.aload_n 0, 1) := by decide +kernel
theorem dX2_handInRemove_154 : decode cX2_handInRemove 154 = .ok (.getfield 9, 3) := by decide +kernel
theorem dX2_handInRemove_157 : decode cX2_handInRemove 157 = .ok (.iload 5, 2) := by decide +kernel
theorem dX2_handInRemove_159 : decode cX2_handInRemove 159 = .ok (.iload_n 1, 1) := by decide +kernel
theorem dX2_handInRemove_160 : decode cX2_handInRemove 160 = .ok (.invokevirtual 130, 3) := by decide +kernel
theorem dX2_handInRemove_163 : decode cX2_handInRemove 163 = .ok (.aload_n 0, 1) := by decide +kernel
theorem dX2_handInRemove_164 : decode cX2_handInRemove 164 = .ok (.getfield 9, 3) := by decide +kernel
theorem dX2_handInRemove_167 : decode cX2_handInRemove 167 = .ok (.iload 5, 2) := by decide +kernel
theorem dX2_handInRemove_169 : decode cX2_handInRemove 169 = .ok (.iload_n 2, 1) := by decide +kernel
theorem dX2_handInRemove_170 : decode cX2_handInRemove 170 = .ok (.invokevirtual 130, 3) := by decide +kernel
theorem dX2_handInRemove_173 : decode cX2_handInRemove 173 = .ok (.return_, 1) := by decide +kernel
abbrev wmX2_handInRemove : List Cond := .code yX2_handInRemove cX2_handInRemove 6 none :: cBig
def f_X2_handInRemove (N : Nat) (M : gM) (a1 : Int32) (a2 : Int32) (a3 : gI) : Option gM :=
  lt (M (11, 0, 0) 4) (fun v1 => ix v1 N (fun v2 => rd M (51, v2, 0) 48 a2 (fun v3 => (if v3 = 0 then some M else rd M (51, v2, 0) 48 a1 (fun v5 => (if v5 = 0 then some M else rd M (56, v2, 0) 48 a2 (fun v7 => (if v7 = (2 : Int32) then some M else ix a2 48 (fun v9 => o1 (f_X10_isAtMost N M (55, v2, v9) a3) (fun v11 => jn (fun (M12 : gM) => rd M12 (9, 0, 0) 8 (3 : Int32) (fun v13 => wr M12 (9, 0, 0) 8 (3 : Int32) (v13 + (1 : Int32)) (fun M14 => some M14))) (fun J93 => (if v11 = 0 then J93 M else o1 (f_X7_isInConflict N M v2 a2) (fun v17 => (if v17 = 0 then o1 (f_X8_thereIn N M v2 a2) (fun v20 => (if v20 ≤ 0 then lt (M (11, 0, 0) 3) (fun v22 => ix a1 48 (fun v23 => o1 (f_X6_holdersOf N M v22 a1 (55, v2, v23)) (fun v25 => o1 (f_X6_removeAt N M v25 a2 a3) (fun M27 => ob (f_X6_countAct N M27 v25 a1) (fun v30 M29 => o1 (f_X6_endPromises N M29 v25 a1) (fun M32 => o1 (f_X6_endPromises N M32 v25 a2) (fun M34 => some M34))))))) else J93 M)) else J93 M))))))))))))))
set_option maxHeartbeats 4000000 in
set_option maxRecDepth 100000 in
theorem t_X2_handInRemove (l : Launch) (N : Nat) (D : va_G) (dA : Nat → ClassId) (A : gI → Nat) (hJ : gJ (cLive N) A) {M : gM} {a1 : Int32} {a2 : Int32} {a3 : gI} (ha3 : cArr N a3) {y : gM} (h : f_X2_handInRemove N M a1 a2 a3 = some y) : cMv l yX2_handInRemove wmX2_handInRemove ({ frames := 5, cells := 0, slots := 0, locals := 114 } : Room) N D dA A [.ref (A (11, 0, 0)), .int a1, .int a2, .ref (A a3)] M y := by
  refine Met.ofW (cc := cX2_handInRemove) (maxL := 6) (ret := none) (by decide) rfl ?_
  intro p e s m args below meth c s₁ B hml hv
  obtain ⟨rfl, hP, hK, hN⟩ := hv
  generalize hargs : ([.ref (A (11, 0, 0)), .int a1, .int a2, .ref (A a3)] : List Value).toArray = args at B ⊢
  have S : CallFix p m c cX2_handInRemove 6 s args wmX2_handInRemove RX2 := ⟨B.exec, B.bytes, hml, findClass_of_methodNamed B.named, atoms_spec (ws := wmX2_handInRemove) B.pre⟩
  obtain ⟨hx, hb, -, hown, hts⟩ := id S
  have hr := B.returns
  have hlocks := B.notSynchronized
  have X : gX D vwCl dA (cLive N) A (gA (cLive N) A) s := ⟨hK, hJ, fun i hi => ⟨i, hi, rfl⟩⟩
  have Z : gZ D (cLay N) dA (cLive N) A (gA (cLive N) A) s.heap M s.heap [] := ⟨hP, va_S.rf⟩
  have hin_X2 : ∀ w ∈ wsX20, w ∈ wmX2_handInRemove := cin_X2
  have hin_X6 : ∀ w ∈ wsX60, w ∈ wmX2_handInRemove := cin_X6
  have hin_X7 : ∀ w ∈ wsX70, w ∈ wmX2_handInRemove := cin_X7
  have hin_X8 : ∀ w ∈ wsX80, w ∈ wmX2_handInRemove := cin_X8
  have hl_9 := hts (.fieldLink RX2 9 "ReplicaFiles$HandingIn" "replicas" "LReplicaFiles$Replicas;") (cBc 172 rfl)
  have hl_29 := hts (.fieldLink RX2 29 "ReplicaFiles$HandingIn" "near" "I") (cBc 240 rfl)
  have hl_37 := hts (.fieldLink RX2 37 "ReplicaFiles$HandingIn" "least" "I") (cBc 209 rfl)
  have hl_79 := va_Nw.use (A := args) rfl (hN.1 ("ReplicaFiles$HandingIn", 79, "ReplicaFiles$Replicas", "servers", "[LReplicaFiles$Server;", "ReplicaFiles") (by decide +kernel))
  have hl_83 := va_Nw.use (A := args) rfl (hN.1 ("ReplicaFiles$HandingIn", 83, "ReplicaFiles$Server", "tree", "LReplicaFiles$Tree;", "ReplicaFiles") (by decide +kernel))
  have hl_89 := va_Nw.use (A := args) rfl (hN.1 ("ReplicaFiles$HandingIn", 89, "ReplicaFiles$Tree", "held", "[Z", "ReplicaFiles") (by decide +kernel))
  have hl_95 := va_Nw.use (A := args) rfl (hN.1 ("ReplicaFiles$HandingIn", 95, "ReplicaFiles$Replicas", "tallies", "[I", "ReplicaFiles") (by decide +kernel))
  have hl_102 := va_Nw.use (A := args) rfl (hN.1 ("ReplicaFiles$HandingIn", 102, "ReplicaFiles$Tree", "counts", "[[I", "ReplicaFiles") (by decide +kernel))
  have hl_169 := va_Nw.use (A := args) rfl (hN.1 ("ReplicaFiles$HandingIn", 169, "ReplicaFiles$Tree", "state", "[I", "ReplicaFiles") (by decide +kernel))
  have hl := lv_entry ([.ref (A (11, 0, 0)), .int a1, .int a2, .ref (A a3)]) (n := 6) (Nat.le_of_ble_eq_true rfl)
  rw [← hargs, lg_entry_eq, hargs]
  generalize (lg_sl ([.ref (A (11, 0, 0)), .int a1, .int a2, .ref (A a3)]) ++ List.replicate (6 - (lg_sl ([.ref (A (11, 0, 0)), .int a1, .int a2, .ref (A a3)])).length) Slot.unset).toArray = ls at hl ⊢
  have hl : lv_has ls 6 [(0, .ref (A (11, 0, 0))), (1, .int a1), (2, .int a2), (3, .ref (A a3))] := hl
  unfold f_X2_handInRemove at h
  refine lv_aload_n hx hb dX2_handInRemove_0 rfl (lv_at hl 0 rfl) ?_
  refine cr_X2_replicas S X Z hin_X2 (cl_one N 11 (by decide)) hl_9 dX2_handInRemove_1 ?_
  refine cn_X6_servers S X Z hin_X6 (cl_one N 10 (by decide)) hl_79 dX2_handInRemove_4 ?_
  refine lv_aload_n hx hb dX2_handInRemove_7 rfl (lv_at hl 0 rfl) ?_
  refine cr_X2_least S X Z hin_X2 (cl_one N 11 (by decide)) hl_37 dX2_handInRemove_8 h (fun v1 h => ?_)
  refine g_aald (i := (7, 0, 0)) (ca := 2) ⟨rfl, rfl⟩ S X Z (cl_one N 7 (by decide)) rfl dX2_handInRemove_11 h (fun v2 hv2 h => ?_)
  refine lv_astore (lv' := [(4, .ref (A (20, v2, 0))), (0, .ref (A (11, 0, 0))), (1, .int a1), (2, .int a2), (3, .ref (A a3))]) hx hb dX2_handInRemove_12 hl (by decide) rfl (fun ls hl => ?_)
  refine lv_aload hx hb dX2_handInRemove_14 (lv_at hl 0 rfl) ?_
  refine cn_X7_tree (a := v2) S X Z hin_X7 (cl_srv hv2) hl_83 dX2_handInRemove_16 ?_
  refine cn_X8_held (a := v2) S X Z hin_X8 (cl_st (cl_srv hv2)) hl_89 dX2_handInRemove_19 ?_
  refine lv_iload_n hx hb dX2_handInRemove_22 rfl (lv_at hl 3 rfl) ?_
  refine g_zald (i := (51, v2, 0)) (n := 48) S X Z (cl_X8_held (cl_st (cl_srv hv2))) rfl dX2_handInRemove_23 h (fun v3 h => ?_)
  refine lv_if_eq (tgt := 54) hx hb dX2_handInRemove_24 (by decide) (fun c4 => ?_) (fun c4 => ?_)
  · have h := if_t c4 h
    have hy := Option.some.inj h
    subst hy
    exact g_rv S Z hr hlocks dX2_handInRemove_54
  · have h := if_f c4 h
    refine lv_aload hx hb dX2_handInRemove_27 (lv_at hl 0 rfl) ?_
    refine cn_X7_tree (a := v2) S X Z hin_X7 (cl_srv hv2) hl_83 dX2_handInRemove_29 ?_
    refine cn_X8_held (a := v2) S X Z hin_X8 (cl_st (cl_srv hv2)) hl_89 dX2_handInRemove_32 ?_
    refine lv_iload_n hx hb dX2_handInRemove_35 rfl (lv_at hl 2 rfl) ?_
    refine g_zald (i := (51, v2, 0)) (n := 48) S X Z (cl_X8_held (cl_st (cl_srv hv2))) rfl dX2_handInRemove_36 h (fun v5 h => ?_)
    refine lv_if_eq (tgt := 54) hx hb dX2_handInRemove_37 (by decide) (fun c6 => ?_) (fun c6 => ?_)
    · have h := if_t c6 h
      have hy := Option.some.inj h
      subst hy
      exact g_rv S Z hr hlocks dX2_handInRemove_54
    · have h := if_f c6 h
      refine lv_aload hx hb dX2_handInRemove_40 (lv_at hl 0 rfl) ?_
      refine cn_X7_tree (a := v2) S X Z hin_X7 (cl_srv hv2) hl_83 dX2_handInRemove_42 ?_
      refine cn_X8_state (a := v2) S X Z hin_X8 (cl_st (cl_srv hv2)) hl_169 dX2_handInRemove_45 ?_
      refine lv_iload_n hx hb dX2_handInRemove_48 rfl (lv_at hl 3 rfl) ?_
      refine g_iald (i := (56, v2, 0)) (n := 48) S X Z (cl_X8_state (cl_st (cl_srv hv2))) rfl dX2_handInRemove_49 h (fun v7 h => ?_)
      refine lv_iconst (v := (2 : Int32)) hx hb dX2_handInRemove_50 (by decide) ?_
      refine lv_icmp_ne (tgt := 55) hx hb dX2_handInRemove_51 (by decide) (fun c8 => ?_) (fun c8 => ?_)
      · have h := if_f c8 h
        refine lv_aload hx hb dX2_handInRemove_55 (lv_at hl 0 rfl) ?_
        refine cn_X7_tree (a := v2) S X Z hin_X7 (cl_srv hv2) hl_83 dX2_handInRemove_57 ?_
        refine cn_X8_counts (a := v2) S X Z hin_X8 (cl_st (cl_srv hv2)) hl_102 dX2_handInRemove_60 ?_
        refine lv_iload_n hx hb dX2_handInRemove_63 rfl (lv_at hl 3 rfl) ?_
        refine g_aald (i := (54, v2, 0)) (ca := 5) ⟨rfl, rfl⟩ S X Z (cl_X8_counts (cl_st (cl_srv hv2))) rfl dX2_handInRemove_64 h (fun v9 hv9 h => ?_)
        refine lv_aload_n hx hb dX2_handInRemove_65 rfl (lv_at hl 4 rfl) ?_
        obtain ⟨v11, hc10, h⟩ := o1_e h
        refine c_i X Z (c_SN (As := [.ref (A (55, v2, v9)), .ref (A a3)]) (rest := []) S X hN Z (t_X10_isAtMost l N D dA A hJ ⟨(cl_55 (cl_X8_counts (cl_st (cl_srv hv2))) hv9), rfl⟩ ha3 hc10) ⟨va_cnB 2 hts (cG (cB 264 rfl)) rfl rfl rfl (hN.2 ("ReplicaFiles$HandingIn", 172, yX10_isAtMost, "ReplicaFiles") (by decide +kernel)) (hts (.initialized RX10) (cBc 107 rfl)) (by decide +kernel) ⟨Nat.le_of_ble_eq_true rfl, Nat.le_of_ble_eq_true rfl⟩, hts (.static yX10_isAtMost) (cBc 282 rfl), trivial⟩ rfl hl.1 rfl (Nat.le_of_ble_eq_true rfl) dX2_handInRemove_66 ⟨Nat.zero_le _, Nat.zero_le _⟩) (fun H locs Z => ?_)
        obtain ⟨J93, eJ93, h⟩ := jn_e h
        have hJ93 : ∀ (M12 : gM) (H : Heap) (locs : List Loc) (ls : Array Slot), gZ D (cLay N) dA (cLive N) A (gA (cLive N) A) s.heap M12 H locs → lv_has ls 6 [(0, .ref (A (11, 0, 0)))] → J93 M12 = some y → W p l e (headSpec wmX2_handInRemove ({ frames := 5, cells := 0, slots := 0, locals := 114 } : Room)).room s m args below meth c H locs 0 0 (MQ below (cQv N D dA A y) args s 0 0 (gA (cLive N) A)) (F0 m 93 ls []) := by
          intro M12 H locs ls Z hl h
          rw [eJ93] at h
          try dsimp only at h
          refine lv_aload_n hx hb dX2_handInRemove_93 rfl (lv_at hl 0 rfl) ?_
          refine cr_X2_replicas S X Z hin_X2 (cl_one N 11 (by decide)) hl_9 dX2_handInRemove_94 ?_
          refine cn_X6_tallies S X Z hin_X6 (cl_one N 10 (by decide)) hl_95 dX2_handInRemove_97 ?_
          refine lv_iconst (v := (3 : Int32)) hx hb dX2_handInRemove_100 (by decide) ?_
          refine lv_dup2_11 hx hb dX2_handInRemove_101 rfl rfl ?_
          refine g_iald (i := (9, 0, 0)) (n := 8) S X Z (cl_one N 9 (by decide)) rfl dX2_handInRemove_102 h (fun v13 h => ?_)
          refine lv_iconst (v := (1 : Int32)) hx hb dX2_handInRemove_103 (by decide) ?_
          refine lv_iadd hx hb dX2_handInRemove_104 ?_
          refine g_iast (i := (9, 0, 0)) (n := 8) S X Z (cl_one N 9 (by decide)) rfl dX2_handInRemove_105 h (fun M14 H locs Z h => ?_)
          have hy := Option.some.inj h
          subst hy
          exact g_rv S Z hr hlocks dX2_handInRemove_106
        refine lv_if_eq (tgt := 93) hx hb dX2_handInRemove_69 (by decide) (fun c15 => ?_) (fun c15 => ?_)
        · have h := if_t c15 h
          exact hJ93 M _ _ _ Z (lv_sub hl [1] rfl) h
        · have h := if_f c15 h
          refine lv_aload hx hb dX2_handInRemove_72 (lv_at hl 0 rfl) ?_
          refine lv_iload_n hx hb dX2_handInRemove_74 rfl (lv_at hl 3 rfl) ?_
          obtain ⟨v17, hc16, h⟩ := o1_e h
          refine c_i X Z (c_V (i := (20, v2, 0)) (As := [.int a2]) (rest := []) S X hN Z (cl_srv hv2) rfl rfl (t_X7_isInConflict l N D dA A hJ (cl_srv hv2) hc16) (cwV 1 hts (cGV (cB 241 rfl) (cB 233 rfl) (cB 234 rfl) (cB 235 rfl) (cB 179 rfl)) rfl rfl rfl (by decide +kernel) ⟨Nat.le_of_ble_eq_true rfl, Nat.le_of_ble_eq_true rfl⟩) rfl hl.1 rfl (Nat.le_of_ble_eq_true rfl) dX2_handInRemove_75 ⟨Nat.zero_le _, Nat.zero_le _⟩) (fun H locs Z => ?_)
          refine lv_if_ne (tgt := 93) hx hb dX2_handInRemove_78 (by decide) (fun c18 => ?_) (fun c18 => ?_)
          · have h := if_f c18 h
            exact hJ93 M _ _ _ Z (lv_sub hl [1] rfl) h
          · have h := if_t c18 h
            refine lv_aload hx hb dX2_handInRemove_81 (lv_at hl 0 rfl) ?_
            refine cn_X7_tree (a := v2) S X Z hin_X7 (cl_srv hv2) hl_83 dX2_handInRemove_83 ?_
            refine lv_iload_n hx hb dX2_handInRemove_86 rfl (lv_at hl 3 rfl) ?_
            obtain ⟨v20, hc19, h⟩ := o1_e h
            refine c_i X Z (c_V (i := (50, v2, 0)) (As := [.int a2]) (rest := []) S X hN Z (cl_st (cl_srv hv2)) rfl rfl (t_X8_thereIn l N D dA A hJ (cl_st (cl_srv hv2)) hc19) (cwV 1 hts (cGV (cB 294 rfl) (cB 295 rfl) (cB 296 rfl) (cB 44 rfl) (cB 269 rfl)) rfl rfl rfl (by decide +kernel) ⟨Nat.le_of_ble_eq_true rfl, Nat.le_of_ble_eq_true rfl⟩) rfl hl.1 rfl (Nat.le_of_ble_eq_true rfl) dX2_handInRemove_87 ⟨Nat.zero_le _, Nat.zero_le _⟩) (fun H locs Z => ?_)
            refine lv_if_le (tgt := 107) hx hb dX2_handInRemove_90 (by decide) (fun c21 => ?_) (fun c21 => ?_)
            · have h := if_t c21 h
              refine lv_aload_n hx hb dX2_handInRemove_107 rfl (lv_at hl 1 rfl) ?_
              refine cr_X2_replicas S X Z hin_X2 (cl_one N 11 (by decide)) hl_9 dX2_handInRemove_108 ?_
              refine lv_aload_n hx hb dX2_handInRemove_111 rfl (lv_at hl 1 rfl) ?_
              refine cr_X2_near S X Z hin_X2 (cl_one N 11 (by decide)) hl_29 dX2_handInRemove_112 h (fun v22 h => ?_)
              refine lv_iload_n hx hb dX2_handInRemove_115 rfl (lv_at hl 2 rfl) ?_
              refine lv_aload hx hb dX2_handInRemove_116 (lv_at hl 0 rfl) ?_
              refine cn_X7_tree (a := v2) S X Z hin_X7 (cl_srv hv2) hl_83 dX2_handInRemove_118 ?_
              refine cn_X8_counts (a := v2) S X Z hin_X8 (cl_st (cl_srv hv2)) hl_102 dX2_handInRemove_121 ?_
              refine lv_iload_n hx hb dX2_handInRemove_124 rfl (lv_at hl 2 rfl) ?_
              refine g_aald (i := (54, v2, 0)) (ca := 5) ⟨rfl, rfl⟩ S X Z (cl_X8_counts (cl_st (cl_srv hv2))) rfl dX2_handInRemove_125 h (fun v23 hv23 h => ?_)
              obtain ⟨v25, hc24, h⟩ := o1_e h
              refine c_i X Z (c_V (i := (10, 0, 0)) (As := [.int v22, .int a1, .ref (A (55, v2, v23))]) (rest := []) S X hN Z (cl_one N 10 (by decide)) rfl rfl (t_X6_holdersOf l N D dA A hJ ⟨(cl_55 (cl_X8_counts (cl_st (cl_srv hv2))) hv23), rfl⟩ hc24) (cwV 3 hts (cGV (cB 246 rfl) (cB 247 rfl) (cB 248 rfl) (cB 203 rfl) (cB 228 rfl)) rfl rfl rfl (by decide +kernel) ⟨Nat.le_of_ble_eq_true rfl, Nat.le_of_ble_eq_true rfl⟩) rfl hl.1 rfl (Nat.le_of_ble_eq_true rfl) dX2_handInRemove_126 ⟨Nat.zero_le _, Nat.zero_le _⟩) (fun H locs Z => ?_)
              refine lv_istore (lv' := [(5, .int v25), (4, .ref (A (20, v2, 0))), (0, .ref (A (11, 0, 0))), (1, .int a1), (2, .int a2), (3, .ref (A a3))]) hx hb dX2_handInRemove_129 hl (by decide) rfl (fun ls hl => ?_)
              refine lv_aload_n hx hb dX2_handInRemove_131 rfl (lv_at hl 2 rfl) ?_
              refine cr_X2_replicas S X Z hin_X2 (cl_one N 11 (by decide)) hl_9 dX2_handInRemove_132 ?_
              refine lv_iload hx hb dX2_handInRemove_135 (lv_at hl 0 rfl) ?_
              refine lv_iload_n hx hb dX2_handInRemove_137 rfl (lv_at hl 4 rfl) ?_
              refine lv_aload_n hx hb dX2_handInRemove_138 rfl (lv_at hl 5 rfl) ?_
              obtain ⟨M27, hc26, h⟩ := o1_e h
              refine c_v X Z (c_V (i := (10, 0, 0)) (As := [.int v25, .int a2, .ref (A a3)]) (rest := []) S X hN Z (cl_one N 10 (by decide)) rfl rfl (t_X6_removeAt l N D dA A hJ ha3 hc26) (cwV 3 hts (cGV (cB 297 rfl) (cB 298 rfl) (cB 299 rfl) (cB 203 rfl) (cB 293 rfl)) rfl rfl rfl (by decide +kernel) ⟨Nat.le_of_ble_eq_true rfl, Nat.le_of_ble_eq_true rfl⟩) rfl hl.1 rfl (Nat.le_of_ble_eq_true rfl) dX2_handInRemove_139 ⟨Nat.zero_le _, Nat.zero_le _⟩) (fun H locs Z => ?_)
              refine lv_aload_n hx hb dX2_handInRemove_142 rfl (lv_at hl 2 rfl) ?_
              refine cr_X2_replicas S X Z hin_X2 (cl_one N 11 (by decide)) hl_9 dX2_handInRemove_143 ?_
              refine lv_iload hx hb dX2_handInRemove_146 (lv_at hl 0 rfl) ?_
              refine lv_iload_n hx hb dX2_handInRemove_148 rfl (lv_at hl 3 rfl) ?_
              obtain ⟨v30, M29, hc28, h⟩ := ob_e h
              refine c_i X Z (c_V (i := (10, 0, 0)) (As := [.int v25, .int a1]) (rest := []) S X hN Z (cl_one N 10 (by decide)) rfl rfl (t_X6_countAct l N D dA A hJ  hc28) (cwV 2 hts (cGV (cB 252 rfl) (cB 253 rfl) (cB 254 rfl) (cB 203 rfl) (cB 239 rfl)) rfl rfl rfl (by decide +kernel) ⟨Nat.le_of_ble_eq_true rfl, Nat.le_of_ble_eq_true rfl⟩) rfl hl.1 rfl (Nat.le_of_ble_eq_true rfl) dX2_handInRemove_149 ⟨Nat.zero_le _, Nat.zero_le _⟩) (fun H locs Z => ?_)
              refine lv_pop hx hb dX2_handInRemove_152 rfl ?_
              refine lv_aload_n hx hb dX2_handInRemove_153 rfl (lv_at hl 2 rfl) ?_
              refine cr_X2_replicas S X Z hin_X2 (cl_one N 11 (by decide)) hl_9 dX2_handInRemove_154 ?_
              refine lv_iload hx hb dX2_handInRemove_157 (lv_at hl 0 rfl) ?_
              refine lv_iload_n hx hb dX2_handInRemove_159 rfl (lv_at hl 3 rfl) ?_
              obtain ⟨M32, hc31, h⟩ := o1_e h
              refine c_v X Z (c_V (i := (10, 0, 0)) (As := [.int v25, .int a1]) (rest := []) S X hN Z (cl_one N 10 (by decide)) rfl rfl (t_X6_endPromises l N D dA A hJ  hc31) (cwV 2 hts (cGV (cB 218 rfl) (cB 219 rfl) (cB 220 rfl) (cB 203 rfl) (cB 207 rfl)) rfl rfl rfl (by decide +kernel) ⟨Nat.le_of_ble_eq_true rfl, Nat.le_of_ble_eq_true rfl⟩) rfl hl.1 rfl (Nat.le_of_ble_eq_true rfl) dX2_handInRemove_160 ⟨Nat.zero_le _, Nat.zero_le _⟩) (fun H locs Z => ?_)
              refine lv_aload_n hx hb dX2_handInRemove_163 rfl (lv_at hl 2 rfl) ?_
              refine cr_X2_replicas S X Z hin_X2 (cl_one N 11 (by decide)) hl_9 dX2_handInRemove_164 ?_
              refine lv_iload hx hb dX2_handInRemove_167 (lv_at hl 0 rfl) ?_
              refine lv_iload_n hx hb dX2_handInRemove_169 rfl (lv_at hl 4 rfl) ?_
              obtain ⟨M34, hc33, h⟩ := o1_e h
              refine c_v X Z (c_V (i := (10, 0, 0)) (As := [.int v25, .int a2]) (rest := []) S X hN Z (cl_one N 10 (by decide)) rfl rfl (t_X6_endPromises l N D dA A hJ  hc33) (cwV 2 hts (cGV (cB 218 rfl) (cB 219 rfl) (cB 220 rfl) (cB 203 rfl) (cB 207 rfl)) rfl rfl rfl (by decide +kernel) ⟨Nat.le_of_ble_eq_true rfl, Nat.le_of_ble_eq_true rfl⟩) rfl hl.1 rfl (Nat.le_of_ble_eq_true rfl) dX2_handInRemove_170 ⟨Nat.zero_le _, Nat.zero_le _⟩) (fun H locs Z => ?_)
              have hy := Option.some.inj h
              subst hy
              exact g_rv S Z hr hlocks dX2_handInRemove_173
            · have h := if_f c21 h
              exact hJ93 M _ _ _ Z (lv_sub hl [1] rfl) h
      · have h := if_t c8 h
        have hy := Option.some.inj h
        subst hy
        exact g_rv S Z hr hlocks dX2_handInRemove_54
-- X2_handInAll (LReplicaFiles$Client;I)V: 74 instructions
theorem dX2_handInAll_0 : decode cX2_handInAll 0 = .ok (.aload_n 0, 1) := by decide +kernel
theorem dX2_handInAll_1 : decode cX2_handInAll 1 = .ok (.aload_n 1, 1) := by decide +kernel
theorem dX2_handInAll_2 : decode cX2_handInAll 2 = .ok (.putfield 25, 3) := by decide +kernel
theorem dX2_handInAll_5 : decode cX2_handInAll 5 = .ok (.aload_n 0, 1) := by decide +kernel
theorem dX2_handInAll_6 : decode cX2_handInAll 6 = .ok (.iload_n 2, 1) := by decide +kernel
theorem dX2_handInAll_7 : decode cX2_handInAll 7 = .ok (.putfield 29, 3) := by decide +kernel
theorem dX2_handInAll_10 : decode cX2_handInAll 10 = .ok (.aload_n 0, 1) := by decide +kernel
theorem dX2_handInAll_11 : decode cX2_handInAll 11 = .ok (.aload_n 0, 1) := by decide +kernel
theorem dX2_handInAll_12 : decode cX2_handInAll 12 = .ok (.getfield 9, 3) := by decide +kernel
theorem dX2_handInAll_15 : decode cX2_handInAll 15 = .ok (.aload_n 0, 1) := by decide +kernel
theorem dX2_handInAll_16 : decode cX2_handInAll 16 = .ok (.getfield 29, 3) := by decide +kernel
theorem dX2_handInAll_19 : decode cX2_handInAll 19 = .ok (.invokevirtual 33, 3) := by decide +kernel
theorem dX2_handInAll_22 : decode cX2_handInAll 22 = .ok (.putfield 37, 3) := by decide +kernel
theorem dX2_handInAll_25 : decode cX2_handInAll 25 = .ok (.iconst 0, 1) := by decide +kernel
theorem dX2_handInAll_26 : decode cX2_handInAll 26 = .ok (.istore_n 3, 1) := by decide +kernel
theorem dX2_handInAll_27 : decode cX2_handInAll 27 = .ok (.iload_n 3, 1) := by decide +kernel
theorem dX2_handInAll_28 : decode cX2_handInAll 28 = .ok (.aload_n 1, 1) := by decide +kernel
theorem dX2_handInAll_29 : decode cX2_handInAll 29 = .ok (.getfield 40, 3) := by decide +kernel
theorem dX2_handInAll_32 : decode cX2_handInAll 32 = .ok (.getfield 46, 3) := by decide +kernel
theorem dX2_handInAll_35 : decode cX2_handInAll 35 = .ok (.if_icmp .ge 124, 3) := by decide +kernel
theorem dX2_handInAll_38 : decode cX2_handInAll 38 = .ok (.aload_n 1, 1) := by decide +kernel
theorem dX2_handInAll_39 : decode cX2_handInAll 39 = .ok (.getfield 40, 3) := by decide +kernel
theorem dX2_handInAll_42 : decode cX2_handInAll 42 = .ok (.getfield 51, 3) := by decide +kernel
theorem dX2_handInAll_45 : decode cX2_handInAll 45 = .ok (.iload_n 3, 1) := by decide +kernel
theorem dX2_handInAll_46 : decode cX2_handInAll 46 = .ok (.iaload, 1) := by decide +kernel
theorem dX2_handInAll_47 : decode cX2_handInAll 47 = .ok (.lookupswitch 75 #[(0, 25), (1, 50)], 25) := by decide +kernel
theorem dX2_handInAll_72 : decode cX2_handInAll 72 = .ok (.aload_n 0, 1) := by decide +kernel
theorem dX2_handInAll_73 : decode cX2_handInAll 73 = .ok (.aload_n 1, 1) := by decide +kernel
theorem dX2_handInAll_74 : decode cX2_handInAll 74 = .ok (.getfield 40, 3) := by decide +kernel
theorem dX2_handInAll_77 : decode cX2_handInAll 77 = .ok (.getfield 54, 3) := by decide +kernel
theorem dX2_handInAll_80 : decode cX2_handInAll 80 = .ok (.iload_n 3, 1) := by decide +kernel
theorem dX2_handInAll_81 : decode cX2_handInAll 81 = .ok (.iaload, 1) := by decide +kernel
theorem dX2_handInAll_82 : decode cX2_handInAll 82 = .ok (.aload_n 1, 1) := by decide +kernel
theorem dX2_handInAll_83 : decode cX2_handInAll 83 = .ok (.getfield 40, 3) := by decide +kernel
theorem dX2_handInAll_86 : decode cX2_handInAll 86 = .ok (.getfield 57, 3) := by decide +kernel
theorem dX2_handInAll_89 : decode cX2_handInAll 89 = .ok (.iload_n 3, 1) := by decide +kernel
theorem dX2_handInAll_90 : decode cX2_handInAll 90 = .ok (.aaload, 1) := by decide +kernel
theorem dX2_handInAll_91 : decode cX2_handInAll 91 = .ok (.invokevirtual 61, 3) := by decide +kernel
theorem dX2_handInAll_94 : decode cX2_handInAll 94 = .ok (.goto 59, 3) := by decide +kernel
theorem dX2_handInAll_97 : decode cX2_handInAll 97 = .ok (.aload_n 0, 1) := by decide +kernel
theorem dX2_handInAll_98 : decode cX2_handInAll 98 = .ok (.aload_n 1, 1) := by decide +kernel
theorem dX2_handInAll_99 : decode cX2_handInAll 99 = .ok (.getfield 40, 3) := by decide +kernel
theorem dX2_handInAll_102 : decode cX2_handInAll 102 = .ok (.getfield 65, 3) := by decide +kernel
theorem dX2_handInAll_105 : decode cX2_handInAll 105 = .ok (.iload_n 3, 1) := by decide +kernel
theorem dX2_handInAll_106 : decode cX2_handInAll 106 = .ok (.iaload, 1) := by decide +kernel
theorem dX2_handInAll_107 : decode cX2_handInAll 107 = .ok (.aload_n 1, 1) := by decide +kernel
theorem dX2_handInAll_108 : decode cX2_handInAll 108 = .ok (.getfield 40, 3) := by decide +kernel
theorem dX2_handInAll_111 : decode cX2_handInAll 111 = .ok (.getfield 54, 3) := by decide +kernel
theorem dX2_handInAll_114 : decode cX2_handInAll 114 = .ok (.iload_n 3, 1) := by decide +kernel
theorem dX2_handInAll_115 : decode cX2_handInAll 115 = .ok (.iaload, 1) := by decide +kernel
theorem dX2_handInAll_116 : decode cX2_handInAll 116 = .ok (.invokevirtual 68, 3) := by decide +kernel
theorem dX2_handInAll_119 : decode cX2_handInAll 119 = .ok (.goto 34, 3) := by decide +kernel
theorem dX2_handInAll_122 : decode cX2_handInAll 122 = .ok (.aload_n 0, 1) := by decide +kernel
theorem dX2_handInAll_123 : decode cX2_handInAll 123 = .ok (.aload_n 1, 1) := by decide +kernel
theorem dX2_handInAll_124 : decode cX2_handInAll 124 = .ok (.getfield 40, 3) := by decide +kernel
theorem dX2_handInAll_127 : decode cX2_handInAll 127 = .ok (.getfield 65, 3) := by decide +kernel
theorem dX2_handInAll_130 : decode cX2_handInAll 130 = .ok (.iload_n 3, 1) := by decide +kernel
theorem dX2_handInAll_131 : decode cX2_handInAll 131 = .ok (.iaload, 1) := by decide +kernel
theorem dX2_handInAll_132 : decode cX2_handInAll 132 = .ok (.aload_n 1, 1) := by decide +kernel
theorem dX2_handInAll_133 : decode cX2_handInAll 133 = .ok (.getfield 40, 3) := by decide +kernel
theorem dX2_handInAll_136 : decode cX2_handInAll 136 = .ok (.getfield 54, 3) := by decide +kernel
theorem dX2_handInAll_139 : decode cX2_handInAll 139 = .ok (.iload_n 3, 1) := by decide +kernel
theorem dX2_handInAll_140 : decode cX2_handInAll 140 = .ok (.iaload, 1) := by decide +kernel
theorem dX2_handInAll_141 : decode cX2_handInAll 141 = .ok (.aload_n 1, 1) := by decide +kernel
theorem dX2_handInAll_142 : decode cX2_handInAll 142 = .ok (.getfield 40, 3) := by decide +kernel
theorem dX2_handInAll_145 : decode cX2_handInAll 145 = .ok (.getfield 57, 3) := by decide +kernel
theorem dX2_handInAll_148 : decode cX2_handInAll 148 = .ok (.iload_n 3, 1) := by decide +kernel
theorem dX2_handInAll_149 : decode cX2_handInAll 149 = .ok (.aaload, 1) := by decide +kernel
theorem dX2_handInAll_150 : decode cX2_handInAll 150 = .ok (.invokevirtual 72, 3) := by decide +kernel
theorem dX2_handInAll_153 : decode cX2_handInAll 153 = .ok (.iinc 3 1, 3) := by decide +kernel
theorem dX2_handInAll_156 : decode cX2_handInAll 156 = .ok (.goto (-129), 3) := by decide +kernel
theorem dX2_handInAll_159 : decode cX2_handInAll 159 = .ok (.aload_n 1, 1) := by decide +kernel
theorem dX2_handInAll_160 : decode cX2_handInAll 160 = .ok (.invokevirtual 76, 3) := by decide +kernel
theorem dX2_handInAll_163 : decode cX2_handInAll 163 = .ok (.return_, 1) := by decide +kernel
abbrev wmX2_handInAll : List Cond := .code yX2_handInAll cX2_handInAll 4 none :: cBig
def f_X2_handInAll_L27 (N : Nat) (i1 : Nat) (J159 : gM → Option gM) : Nat → Int32 → gM → Option gM
  | 0, _, _ => none
  | n12 + 1, x10, M11 => lt (M11 (40, i1, 0) 4) (fun v13 => (if v13 ≤ x10 then J159 M11 else rd M11 (41, i1, 0) 12 x10 (fun v15 => jn (fun (M16 : gM) => lt (x10 + 1) (fun x17 => f_X2_handInAll_L27 N i1 J159 n12 x17 M16)) (fun J153 => (if v15 = 0 then rd M11 (42, i1, 0) 12 x10 (fun v19 => ix x10 12 (fun v20 => o1 (f_X2_handInWrite N M11 v19 (45, i1, v20)) (fun M22 => J153 M22))) else (if v15 = 1 then rd M11 (43, i1, 0) 12 x10 (fun v24 => rd M11 (42, i1, 0) 12 x10 (fun v25 => o1 (f_X2_handInMake N M11 v24 v25) (fun M27 => J153 M27))) else rd M11 (43, i1, 0) 12 x10 (fun v28 => rd M11 (42, i1, 0) 12 x10 (fun v29 => ix x10 12 (fun v30 => o1 (f_X2_handInRemove N M11 v28 v29 (45, i1, v30)) (fun M32 => J153 M32))))))))))
def f_X2_handInAll (N : Nat) (M : gM) (i1 : Nat) (a2 : Int32) : Option gM :=
  lt (gset M (11, 0, 0) 2 (nI i1)) (fun M1 => lt (gset M1 (11, 0, 0) 3 a2) (fun M2 => lt (M2 (11, 0, 0) 3) (fun v3 => o1 (f_X6_leastOf N M2 v3) (fun v5 => lt (gset M2 (11, 0, 0) 4 v5) (fun M6 => jn (fun (M7 : gM) => o1 (f_X1_endLog N M7 i1) (fun M9 => some M9)) (fun J159 => f_X2_handInAll_L27 N i1 J159 100 (0 : Int32) M6))))))
set_option maxHeartbeats 4000000 in
set_option maxRecDepth 100000 in
theorem t_X2_handInAll (l : Launch) (N : Nat) (D : va_G) (dA : Nat → ClassId) (A : gI → Nat) (hJ : gJ (cLive N) A) {M : gM} {i1 : Nat} {a2 : Int32} (hi1 : cLive N (30, i1, 0)) {y : gM} (h : f_X2_handInAll N M i1 a2 = some y) : cMv l yX2_handInAll wmX2_handInAll ({ frames := 6, cells := 0, slots := 0, locals := 139 } : Room) N D dA A [.ref (A (11, 0, 0)), .ref (A (30, i1, 0)), .int a2] M y := by
  refine Met.ofW (cc := cX2_handInAll) (maxL := 4) (ret := none) (by decide) rfl ?_
  intro p e s m args below meth c s₁ B hml hv
  obtain ⟨rfl, hP, hK, hN⟩ := hv
  generalize hargs : ([.ref (A (11, 0, 0)), .ref (A (30, i1, 0)), .int a2] : List Value).toArray = args at B ⊢
  have S : CallFix p m c cX2_handInAll 4 s args wmX2_handInAll RX2 := ⟨B.exec, B.bytes, hml, findClass_of_methodNamed B.named, atoms_spec (ws := wmX2_handInAll) B.pre⟩
  obtain ⟨hx, hb, -, hown, hts⟩ := id S
  have hr := B.returns
  have hlocks := B.notSynchronized
  have X : gX D vwCl dA (cLive N) A (gA (cLive N) A) s := ⟨hK, hJ, fun i hi => ⟨i, hi, rfl⟩⟩
  have Z : gZ D (cLay N) dA (cLive N) A (gA (cLive N) A) s.heap M s.heap [] := ⟨hP, va_S.rf⟩
  have hin_X1 : ∀ w ∈ wsX10, w ∈ wmX2_handInAll := cin_X1
  have hin_X2 : ∀ w ∈ wsX20, w ∈ wmX2_handInAll := cin_X2
  have hin_X3 : ∀ w ∈ wsX30, w ∈ wmX2_handInAll := cin_X3
  have hl_9 := hts (.fieldLink RX2 9 "ReplicaFiles$HandingIn" "replicas" "LReplicaFiles$Replicas;") (cBc 172 rfl)
  have hl_25 := hts (.fieldLink RX2 25 "ReplicaFiles$HandingIn" "client" "LReplicaFiles$Client;") (cBc 174 rfl)
  have hl_29 := hts (.fieldLink RX2 29 "ReplicaFiles$HandingIn" "near" "I") (cBc 240 rfl)
  have hl_37 := hts (.fieldLink RX2 37 "ReplicaFiles$HandingIn" "least" "I") (cBc 209 rfl)
  have hl_40 := va_Nw.use (A := args) rfl (hN.1 ("ReplicaFiles$HandingIn", 40, "ReplicaFiles$Client", "log", "LReplicaFiles$Log;", "ReplicaFiles") (by decide +kernel))
  have hl_46 := va_Nw.use (A := args) rfl (hN.1 ("ReplicaFiles$HandingIn", 46, "ReplicaFiles$Log", "length", "I", "ReplicaFiles") (by decide +kernel))
  have hl_51 := va_Nw.use (A := args) rfl (hN.1 ("ReplicaFiles$HandingIn", 51, "ReplicaFiles$Log", "kind", "[I", "ReplicaFiles") (by decide +kernel))
  have hl_54 := va_Nw.use (A := args) rfl (hN.1 ("ReplicaFiles$HandingIn", 54, "ReplicaFiles$Log", "object", "[I", "ReplicaFiles") (by decide +kernel))
  have hl_57 := va_Nw.use (A := args) rfl (hN.1 ("ReplicaFiles$HandingIn", 57, "ReplicaFiles$Log", "counts", "[[I", "ReplicaFiles") (by decide +kernel))
  have hl_65 := va_Nw.use (A := args) rfl (hN.1 ("ReplicaFiles$HandingIn", 65, "ReplicaFiles$Log", "directory", "[I", "ReplicaFiles") (by decide +kernel))
  have hl := lv_entry ([.ref (A (11, 0, 0)), .ref (A (30, i1, 0)), .int a2]) (n := 4) (Nat.le_of_ble_eq_true rfl)
  rw [← hargs, lg_entry_eq, hargs]
  generalize (lg_sl ([.ref (A (11, 0, 0)), .ref (A (30, i1, 0)), .int a2]) ++ List.replicate (4 - (lg_sl ([.ref (A (11, 0, 0)), .ref (A (30, i1, 0)), .int a2])).length) Slot.unset).toArray = ls at hl ⊢
  have hl : lv_has ls 4 [(0, .ref (A (11, 0, 0))), (1, .ref (A (30, i1, 0))), (2, .int a2)] := hl
  unfold f_X2_handInAll at h
  refine lv_aload_n hx hb dX2_handInAll_0 rfl (lv_at hl 0 rfl) ?_
  refine lv_aload_n hx hb dX2_handInAll_1 rfl (lv_at hl 1 rfl) ?_
  refine cp_X2_client S X Z hin_X2 (cl_one N 11 (by decide)) hl_25 dX2_handInAll_2 (hi1).1 h (fun M1 H locs Z h => ?_)
  refine lv_aload_n hx hb dX2_handInAll_5 rfl (lv_at hl 0 rfl) ?_
  refine lv_iload_n hx hb dX2_handInAll_6 rfl (lv_at hl 2 rfl) ?_
  refine cp_X2_near S X Z hin_X2 (cl_one N 11 (by decide)) hl_29 dX2_handInAll_7 h (fun M2 H locs Z h => ?_)
  refine lv_aload_n hx hb dX2_handInAll_10 rfl (lv_at hl 0 rfl) ?_
  refine lv_aload_n hx hb dX2_handInAll_11 rfl (lv_at hl 0 rfl) ?_
  refine cr_X2_replicas S X Z hin_X2 (cl_one N 11 (by decide)) hl_9 dX2_handInAll_12 ?_
  refine lv_aload_n hx hb dX2_handInAll_15 rfl (lv_at hl 0 rfl) ?_
  refine cr_X2_near S X Z hin_X2 (cl_one N 11 (by decide)) hl_29 dX2_handInAll_16 h (fun v3 h => ?_)
  obtain ⟨v5, hc4, h⟩ := o1_e h
  refine c_i X Z (c_V (i := (10, 0, 0)) (As := [.int v3]) (rest := [.ref (A (11, 0, 0))]) S X hN Z (cl_one N 10 (by decide)) rfl rfl (t_X6_leastOf l N D dA A hJ  hc4) (cwV 1 hts (cGV (cB 301 rfl) (cB 302 rfl) (cB 303 rfl) (cB 203 rfl) (cB 176 rfl)) rfl rfl rfl (by decide +kernel) ⟨Nat.le_of_ble_eq_true rfl, Nat.le_of_ble_eq_true rfl⟩) rfl hl.1 rfl (Nat.le_of_ble_eq_true rfl) dX2_handInAll_19 ⟨Nat.zero_le _, Nat.zero_le _⟩) (fun H locs Z => ?_)
  refine cp_X2_least S X Z hin_X2 (cl_one N 11 (by decide)) hl_37 dX2_handInAll_22 h (fun M6 H locs Z h => ?_)
  refine lv_iconst (v := (0 : Int32)) hx hb dX2_handInAll_25 (by decide) ?_
  refine lv_istore_n (lv' := [(3, .int (0 : Int32)), (0, .ref (A (11, 0, 0))), (1, .ref (A (30, i1, 0))), (2, .int a2)]) hx hb dX2_handInAll_26 rfl hl (by decide) rfl (fun ls hl => ?_)
  obtain ⟨J159, eJ159, h⟩ := jn_e h
  have hJ159 : ∀ (M7 : gM) (H : Heap) (locs : List Loc) (ls : Array Slot), gZ D (cLay N) dA (cLive N) A (gA (cLive N) A) s.heap M7 H locs → lv_has ls 4 [(1, .ref (A (30, i1, 0)))] → J159 M7 = some y → W p l e (headSpec wmX2_handInAll ({ frames := 6, cells := 0, slots := 0, locals := 139 } : Room)).room s m args below meth c H locs 0 0 (MQ below (cQv N D dA A y) args s 0 0 (gA (cLive N) A)) (F0 m 159 ls []) := by
    intro M7 H locs ls Z hl h
    rw [eJ159] at h
    try dsimp only at h
    refine lv_aload_n hx hb dX2_handInAll_159 rfl (lv_at hl 0 rfl) ?_
    obtain ⟨M9, hc8, h⟩ := o1_e h
    refine c_v X Z (c_V (i := (30, i1, 0)) (As := []) (rest := []) S X hN Z hi1 rfl rfl (t_X1_endLog l N D dA A hJ hi1 hc8) (cwV 0 hts (cGV (cB 313 rfl) (cB 314 rfl) (cB 315 rfl) (cB 64 rfl) (cB 169 rfl)) rfl rfl rfl (by decide +kernel) ⟨Nat.le_of_ble_eq_true rfl, Nat.le_of_ble_eq_true rfl⟩) rfl hl.1 rfl (Nat.le_of_ble_eq_true rfl) dX2_handInAll_160 ⟨Nat.zero_le _, Nat.zero_le _⟩) (fun H locs Z => ?_)
    have hy := Option.some.inj h
    subst hy
    exact g_rv S Z hr hlocks dX2_handInAll_163
  have hL27 : ∀ (n : Nat) (x10 : Int32) (M11 : gM) (H : Heap) (locs : List Loc) (ls : Array Slot), gZ D (cLay N) dA (cLive N) A (gA (cLive N) A) s.heap M11 H locs → lv_has ls 4 [(0, .ref (A (11, 0, 0))), (1, .ref (A (30, i1, 0))), (3, .int x10)] → f_X2_handInAll_L27 N i1 J159 n x10 M11 = some y → W p l e (headSpec wmX2_handInAll ({ frames := 6, cells := 0, slots := 0, locals := 139 } : Room)).room s m args below meth c H locs 0 0 (MQ below (cQv N D dA A y) args s 0 0 (gA (cLive N) A)) (F0 m 27 ls []) := by
    intro n
    induction n with
    | zero =>
      intro x10 M11 H locs ls Z hl h
      rw [f_X2_handInAll_L27] at h
      cases h
    | succ n12 ih27 =>
      intro x10 M11 H locs ls Z hl h
      rw [f_X2_handInAll_L27] at h
      refine lv_iload_n hx hb dX2_handInAll_27 rfl (lv_at hl 2 rfl) ?_
      refine lv_aload_n hx hb dX2_handInAll_28 rfl (lv_at hl 1 rfl) ?_
      refine cn_X1_log (a := i1) S X Z hin_X1 hi1 hl_40 dX2_handInAll_29 ?_
      refine cn_X3_length (a := i1) S X Z hin_X3 (cl_X1_log hi1) hl_46 dX2_handInAll_32 h (fun v13 h => ?_)
      refine lv_icmp_ge (tgt := 159) hx hb dX2_handInAll_35 (by decide) (fun c14 => ?_) (fun c14 => ?_)
      · have h := if_t c14 h
        exact hJ159 M11 _ _ _ Z (lv_sub hl [1] rfl) h
      · have h := if_f c14 h
        refine lv_aload_n hx hb dX2_handInAll_38 rfl (lv_at hl 1 rfl) ?_
        refine cn_X1_log (a := i1) S X Z hin_X1 hi1 hl_40 dX2_handInAll_39 ?_
        refine cn_X3_kind (a := i1) S X Z hin_X3 (cl_X1_log hi1) hl_51 dX2_handInAll_42 ?_
        refine lv_iload_n hx hb dX2_handInAll_45 rfl (lv_at hl 2 rfl) ?_
        refine g_iald (i := (41, i1, 0)) (n := 12) S X Z (cl_X3_kind (cl_X1_log hi1)) rfl dX2_handInAll_46 h (fun v15 h => ?_)
        obtain ⟨J153, eJ153, h⟩ := jn_e h
        have hJ153 : ∀ (M16 : gM) (H : Heap) (locs : List Loc) (ls : Array Slot), gZ D (cLay N) dA (cLive N) A (gA (cLive N) A) s.heap M16 H locs → lv_has ls 4 [(0, .ref (A (11, 0, 0))), (1, .ref (A (30, i1, 0))), (3, .int x10)] → J153 M16 = some y → W p l e (headSpec wmX2_handInAll ({ frames := 6, cells := 0, slots := 0, locals := 139 } : Room)).room s m args below meth c H locs 0 0 (MQ below (cQv N D dA A y) args s 0 0 (gA (cLive N) A)) (F0 m 153 ls []) := by
          intro M16 H locs ls Z hl h
          rw [eJ153] at h
          try dsimp only at h
          obtain ⟨x17, ex17, h⟩ := lt_e h
          refine lv_iinc (v := x17) (lv' := [(3, .int x17), (0, .ref (A (11, 0, 0))), (1, .ref (A (30, i1, 0)))]) hx hb dX2_handInAll_153 hl (k := 2) rfl (by rw [ex17]; rfl) (by decide) rfl (fun ls hl => ?_)
          refine lv_goto (tgt := 27) hx hb dX2_handInAll_156 (by decide) ?_
          exact ih27 x17 M16 _ _ _ Z (lv_sub hl [1, 2, 0] rfl) h
        by_cases c18 : v15 = 0
        · have h := if_t c18 h
          refine lv_lookup (off := 25) (tgt := 72) hx hb dX2_handInAll_47 (by decide) (by rw [c18]; decide) (by decide) ?_
          refine lv_aload_n hx hb dX2_handInAll_72 rfl (lv_at hl 0 rfl) ?_
          refine lv_aload_n hx hb dX2_handInAll_73 rfl (lv_at hl 1 rfl) ?_
          refine cn_X1_log (a := i1) S X Z hin_X1 hi1 hl_40 dX2_handInAll_74 ?_
          refine cn_X3_object (a := i1) S X Z hin_X3 (cl_X1_log hi1) hl_54 dX2_handInAll_77 ?_
          refine lv_iload_n hx hb dX2_handInAll_80 rfl (lv_at hl 2 rfl) ?_
          refine g_iald (i := (42, i1, 0)) (n := 12) S X Z (cl_X3_object (cl_X1_log hi1)) rfl dX2_handInAll_81 h (fun v19 h => ?_)
          refine lv_aload_n hx hb dX2_handInAll_82 rfl (lv_at hl 1 rfl) ?_
          refine cn_X1_log (a := i1) S X Z hin_X1 hi1 hl_40 dX2_handInAll_83 ?_
          refine cn_X3_counts (a := i1) S X Z hin_X3 (cl_X1_log hi1) hl_57 dX2_handInAll_86 ?_
          refine lv_iload_n hx hb dX2_handInAll_89 rfl (lv_at hl 2 rfl) ?_
          refine g_aald (i := (44, i1, 0)) (ca := 5) ⟨rfl, rfl⟩ S X Z (cl_X3_counts (cl_X1_log hi1)) rfl dX2_handInAll_90 h (fun v20 hv20 h => ?_)
          obtain ⟨M22, hc21, h⟩ := o1_e h
          refine c_v X Z (c_V (i := (11, 0, 0)) (As := [.int v19, .ref (A (45, i1, v20))]) (rest := []) S X hN Z (cl_one N 11 (by decide)) rfl rfl (t_X2_handInWrite l N D dA A hJ ⟨(cl_45 (cl_X3_counts (cl_X1_log hi1)) hv20), rfl⟩ hc21) (cwV 2 hts (cGV (cB 304 rfl) (cB 305 rfl) (cB 306 rfl) (cB 245 rfl) (cB 255 rfl)) rfl rfl rfl (by decide +kernel) ⟨Nat.le_of_ble_eq_true rfl, Nat.le_of_ble_eq_true rfl⟩) rfl hl.1 rfl (Nat.le_of_ble_eq_true rfl) dX2_handInAll_91 ⟨Nat.zero_le _, Nat.zero_le _⟩) (fun H locs Z => ?_)
          refine lv_goto (tgt := 153) hx hb dX2_handInAll_94 (by decide) ?_
          exact hJ153 M22 _ _ _ Z (lv_sub hl [0, 1, 2] rfl) h
        have h := if_f c18 h
        by_cases c23 : v15 = 1
        · have h := if_t c23 h
          refine lv_lookup (off := 50) (tgt := 97) hx hb dX2_handInAll_47 (by decide) (by rw [c23]; decide) (by decide) ?_
          refine lv_aload_n hx hb dX2_handInAll_97 rfl (lv_at hl 0 rfl) ?_
          refine lv_aload_n hx hb dX2_handInAll_98 rfl (lv_at hl 1 rfl) ?_
          refine cn_X1_log (a := i1) S X Z hin_X1 hi1 hl_40 dX2_handInAll_99 ?_
          refine cn_X3_directory (a := i1) S X Z hin_X3 (cl_X1_log hi1) hl_65 dX2_handInAll_102 ?_
          refine lv_iload_n hx hb dX2_handInAll_105 rfl (lv_at hl 2 rfl) ?_
          refine g_iald (i := (43, i1, 0)) (n := 12) S X Z (cl_X3_directory (cl_X1_log hi1)) rfl dX2_handInAll_106 h (fun v24 h => ?_)
          refine lv_aload_n hx hb dX2_handInAll_107 rfl (lv_at hl 1 rfl) ?_
          refine cn_X1_log (a := i1) S X Z hin_X1 hi1 hl_40 dX2_handInAll_108 ?_
          refine cn_X3_object (a := i1) S X Z hin_X3 (cl_X1_log hi1) hl_54 dX2_handInAll_111 ?_
          refine lv_iload_n hx hb dX2_handInAll_114 rfl (lv_at hl 2 rfl) ?_
          refine g_iald (i := (42, i1, 0)) (n := 12) S X Z (cl_X3_object (cl_X1_log hi1)) rfl dX2_handInAll_115 h (fun v25 h => ?_)
          obtain ⟨M27, hc26, h⟩ := o1_e h
          refine c_v X Z (c_V (i := (11, 0, 0)) (As := [.int v24, .int v25]) (rest := []) S X hN Z (cl_one N 11 (by decide)) rfl rfl (t_X2_handInMake l N D dA A hJ  hc26) (cwV 2 hts (cGV (cB 307 rfl) (cB 308 rfl) (cB 309 rfl) (cB 245 rfl) (cB 263 rfl)) rfl rfl rfl (by decide +kernel) ⟨Nat.le_of_ble_eq_true rfl, Nat.le_of_ble_eq_true rfl⟩) rfl hl.1 rfl (Nat.le_of_ble_eq_true rfl) dX2_handInAll_116 ⟨Nat.zero_le _, Nat.zero_le _⟩) (fun H locs Z => ?_)
          refine lv_goto (tgt := 153) hx hb dX2_handInAll_119 (by decide) ?_
          exact hJ153 M27 _ _ _ Z (lv_sub hl [0, 1, 2] rfl) h
        have h := if_f c23 h
        refine lv_lookup (off := 75) (tgt := 122) hx hb dX2_handInAll_47 (by decide) (by rw [lv_osw (k := 0) c18 (by decide)]; rw [lv_osw (k := 1) c23 (by decide)]; rfl) (by decide) ?_
        refine lv_aload_n hx hb dX2_handInAll_122 rfl (lv_at hl 0 rfl) ?_
        refine lv_aload_n hx hb dX2_handInAll_123 rfl (lv_at hl 1 rfl) ?_
        refine cn_X1_log (a := i1) S X Z hin_X1 hi1 hl_40 dX2_handInAll_124 ?_
        refine cn_X3_directory (a := i1) S X Z hin_X3 (cl_X1_log hi1) hl_65 dX2_handInAll_127 ?_
        refine lv_iload_n hx hb dX2_handInAll_130 rfl (lv_at hl 2 rfl) ?_
        refine g_iald (i := (43, i1, 0)) (n := 12) S X Z (cl_X3_directory (cl_X1_log hi1)) rfl dX2_handInAll_131 h (fun v28 h => ?_)
        refine lv_aload_n hx hb dX2_handInAll_132 rfl (lv_at hl 1 rfl) ?_
        refine cn_X1_log (a := i1) S X Z hin_X1 hi1 hl_40 dX2_handInAll_133 ?_
        refine cn_X3_object (a := i1) S X Z hin_X3 (cl_X1_log hi1) hl_54 dX2_handInAll_136 ?_
        refine lv_iload_n hx hb dX2_handInAll_139 rfl (lv_at hl 2 rfl) ?_
        refine g_iald (i := (42, i1, 0)) (n := 12) S X Z (cl_X3_object (cl_X1_log hi1)) rfl dX2_handInAll_140 h (fun v29 h => ?_)
        refine lv_aload_n hx hb dX2_handInAll_141 rfl (lv_at hl 1 rfl) ?_
        refine cn_X1_log (a := i1) S X Z hin_X1 hi1 hl_40 dX2_handInAll_142 ?_
        refine cn_X3_counts (a := i1) S X Z hin_X3 (cl_X1_log hi1) hl_57 dX2_handInAll_145 ?_
        refine lv_iload_n hx hb dX2_handInAll_148 rfl (lv_at hl 2 rfl) ?_
        refine g_aald (i := (44, i1, 0)) (ca := 5) ⟨rfl, rfl⟩ S X Z (cl_X3_counts (cl_X1_log hi1)) rfl dX2_handInAll_149 h (fun v30 hv30 h => ?_)
        obtain ⟨M32, hc31, h⟩ := o1_e h
        refine c_v X Z (c_V (i := (11, 0, 0)) (As := [.int v28, .int v29, .ref (A (45, i1, v30))]) (rest := []) S X hN Z (cl_one N 11 (by decide)) rfl rfl (t_X2_handInRemove l N D dA A hJ ⟨(cl_45 (cl_X3_counts (cl_X1_log hi1)) hv30), rfl⟩ hc31) (cwV 3 hts (cGV (cB 310 rfl) (cB 311 rfl) (cB 312 rfl) (cB 245 rfl) (cB 300 rfl)) rfl rfl rfl (by decide +kernel) ⟨Nat.le_of_ble_eq_true rfl, Nat.le_of_ble_eq_true rfl⟩) rfl hl.1 rfl (Nat.le_of_ble_eq_true rfl) dX2_handInAll_150 ⟨Nat.zero_le _, Nat.zero_le _⟩) (fun H locs Z => ?_)
        exact hJ153 M32 _ _ _ Z (lv_sub hl [0, 1, 2] rfl) h
  exact hL27 100 (0 : Int32) M6 _ _ _ Z (lv_sub hl [1, 2, 0] rfl) h
-- X4_joinedState (I)I: 44 instructions
theorem dX4_joinedState_0 : decode cX4_joinedState 0 = .ok (.aload_n 0, 1) := by decide +kernel
theorem dX4_joinedState_1 : decode cX4_joinedState 1 = .ok (.getfield 40, 3) := by decide +kernel
theorem dX4_joinedState_4 : decode cX4_joinedState 4 = .ok (.iconst 0, 1) := by decide +kernel
theorem dX4_joinedState_5 : decode cX4_joinedState 5 = .ok (.invokestatic 107, 3) := by decide +kernel
theorem dX4_joinedState_8 : decode cX4_joinedState 8 = .ok (.iconst 0, 1) := by decide +kernel
theorem dX4_joinedState_9 : decode cX4_joinedState 9 = .ok (.istore_n 2, 1) := by decide +kernel
theorem dX4_joinedState_10 : decode cX4_joinedState 10 = .ok (.iconst 0, 1) := by decide +kernel
theorem dX4_joinedState_11 : decode cX4_joinedState 11 = .ok (.istore_n 3, 1) := by decide +kernel
theorem dX4_joinedState_12 : decode cX4_joinedState 12 = .ok (.iload_n 3, 1) := by decide +kernel
theorem dX4_joinedState_13 : decode cX4_joinedState 13 = .ok (.aload_n 0, 1) := by decide +kernel
theorem dX4_joinedState_14 : decode cX4_joinedState 14 = .ok (.getfield 30, 3) := by decide +kernel
theorem dX4_joinedState_17 : decode cX4_joinedState 17 = .ok (.arraylength, 1) := by decide +kernel
theorem dX4_joinedState_18 : decode cX4_joinedState 18 = .ok (.if_icmp .ge 60, 3) := by decide +kernel
theorem dX4_joinedState_21 : decode cX4_joinedState 21 = .ok (.aload_n 0, 1) := by decide +kernel
theorem dX4_joinedState_22 : decode cX4_joinedState 22 = .ok (.getfield 44, 3) := by decide +kernel
theorem dX4_joinedState_25 : decode cX4_joinedState 25 = .ok (.iload_n 3, 1) := by decide +kernel
theorem dX4_joinedState_26 : decode cX4_joinedState 26 = .ok (.invokestatic 113, 3) := by decide +kernel
theorem dX4_joinedState_29 : decode cX4_joinedState 29 = .ok (.ifCond .eq 43, 3) := by decide +kernel
theorem dX4_joinedState_32 : decode cX4_joinedState 32 = .ok (.iload_n 2, 1) := by decide +kernel
theorem dX4_joinedState_33 : decode cX4_joinedState 33 = .ok (.aload_n 0, 1) := by decide +kernel
theorem dX4_joinedState_34 : decode cX4_joinedState 34 = .ok (.getfield 30, 3) := by decide +kernel
theorem dX4_joinedState_37 : decode cX4_joinedState 37 = .ok (.iload_n 3, 1) := by decide +kernel
theorem dX4_joinedState_38 : decode cX4_joinedState 38 = .ok (.aaload, 1) := by decide +kernel
theorem dX4_joinedState_39 : decode cX4_joinedState 39 = .ok (.getfield 74, 3) := by decide +kernel
theorem dX4_joinedState_42 : decode cX4_joinedState 42 = .ok (.getfield 80, 3) := by decide +kernel
theorem dX4_joinedState_45 : decode cX4_joinedState 45 = .ok (.iload_n 1, 1) := by decide +kernel
theorem dX4_joinedState_46 : decode cX4_joinedState 46 = .ok (.iaload, 1) := by decide +kernel
theorem dX4_joinedState_47 : decode cX4_joinedState 47 = .ok (.invokestatic 117, 3) := by decide +kernel
theorem dX4_joinedState_50 : decode cX4_joinedState 50 = .ok (.istore_n 2, 1) := by decide +kernel
theorem dX4_joinedState_51 : decode cX4_joinedState 51 = .ok (.aload_n 0, 1) := by decide +kernel
theorem dX4_joinedState_52 : decode cX4_joinedState 52 = .ok (.getfield 40, 3) := by decide +kernel
theorem dX4_joinedState_55 : decode cX4_joinedState 55 = .ok (.aload_n 0, 1) := by decide +kernel
theorem dX4_joinedState_56 : decode cX4_joinedState 56 = .ok (.getfield 30, 3) := by decide +kernel
theorem dX4_joinedState_59 : decode cX4_joinedState 59 = .ok (.iload_n 3, 1) := by decide +kernel
theorem dX4_joinedState_60 : decode cX4_joinedState 60 = .ok (.aaload, 1) := by decide +kernel
theorem dX4_joinedState_61 : decode cX4_joinedState 61 = .ok (.getfield 74, 3) := by decide +kernel
theorem dX4_joinedState_64 : decode cX4_joinedState 64 = .ok (.getfield 122, 3) := by decide +kernel
theorem dX4_joinedState_67 : decode cX4_joinedState 67 = .ok (.iload_n 1, 1) := by decide +kernel
theorem dX4_joinedState_68 : decode cX4_joinedState 68 = .ok (.aaload, 1) := by decide +kernel
theorem dX4_joinedState_69 : decode cX4_joinedState 69 = .ok (.invokestatic 126, 3) := by decide +kernel
theorem dX4_joinedState_72 : decode cX4_joinedState 72 = .ok (.iinc 3 1, 3) := by decide +kernel
theorem dX4_joinedState_75 : decode cX4_joinedState 75 = .ok (.goto (-63), 3) := by decide +kernel
theorem dX4_joinedState_78 : decode cX4_joinedState 78 = .ok (.iload_n 2, 1) := by decide +kernel
theorem dX4_joinedState_79 : decode cX4_joinedState 79 = .ok (.ireturn, 1) := by decide +kernel
abbrev wmX4_joinedState : List Cond := .code yX4_joinedState cX4_joinedState 4 (some .int) :: cBig
def f_X4_joinedState_L12 (N : Nat) (a1 : Int32) : Nat → Int32 → Int32 → gM → Option (Int32 × gM)
  | 0, _, _, _ => none
  | n6 + 1, x3, x4, M5 => (if (nI N) ≤ x4 then some (x3, M5) else lt (M5 (13, 0, 0) 6) (fun v8 => o1 (f_X10_isIn N M5 v8 x4) (fun v10 => jn (fun (q : (Int32 × gM)) => match q with | (b11, M12) => lt (x4 + 1) (fun x13 => f_X4_joinedState_L12 N a1 n6 b11 x13 M12)) (fun J72 => (if v10 = 0 then J72 (x3, M5) else ix x4 N (fun v15 => rd M5 (56, v15, 0) 48 a1 (fun v16 => lt ((if x3 < v16 then v16 else x3)) (fun x17 => ix x4 N (fun v18 => ix a1 48 (fun v19 => o1 (f_X10_raise N M5 (14, 0, 0) (58, v18, v19)) (fun M21 => J72 (x17, M21))))))))))))
def f_X4_joinedState (N : Nat) (M : gM) (a1 : Int32) : Option (Int32 × gM) :=
  o1 (f_J7_fill_53178 N M (14, 0, 0) (0 : Int32)) (fun M2 => f_X4_joinedState_L12 N a1 100 (0 : Int32) (0 : Int32) M2)
set_option maxHeartbeats 4000000 in
set_option maxRecDepth 100000 in
theorem t_X4_joinedState (l : Launch) (N : Nat) (D : va_G) (dA : Nat → ClassId) (A : gI → Nat) (hJ : gJ (cLive N) A) {M : gM} {a1 : Int32}  {y : (Int32 × gM)} (h : f_X4_joinedState N M a1 = some y) : cMi l yX4_joinedState wmX4_joinedState ({ frames := 2, cells := 0, slots := 0, locals := 43 } : Room) N D dA A [.ref (A (13, 0, 0)), .int a1] M y.1 y.2 := by
  refine Met.ofW (cc := cX4_joinedState) (maxL := 4) (ret := (some .int)) (by decide) rfl ?_
  intro p e s m args below meth c s₁ B hml hv
  obtain ⟨rfl, hP, hK, hN⟩ := hv
  generalize hargs : ([.ref (A (13, 0, 0)), .int a1] : List Value).toArray = args at B ⊢
  have S : CallFix p m c cX4_joinedState 4 s args wmX4_joinedState RX4 := ⟨B.exec, B.bytes, hml, findClass_of_methodNamed B.named, atoms_spec (ws := wmX4_joinedState) B.pre⟩
  obtain ⟨hx, hb, -, hown, hts⟩ := id S
  have hr := B.returns
  have hlocks := B.notSynchronized
  have X : gX D vwCl dA (cLive N) A (gA (cLive N) A) s := ⟨hK, hJ, fun i hi => ⟨i, hi, rfl⟩⟩
  have Z : gZ D (cLay N) dA (cLive N) A (gA (cLive N) A) s.heap M s.heap [] := ⟨hP, va_S.rf⟩
  have hin_X4 : ∀ w ∈ wsX40, w ∈ wmX4_joinedState := cin_X4
  have hin_X7 : ∀ w ∈ wsX70, w ∈ wmX4_joinedState := cin_X7
  have hin_X8 : ∀ w ∈ wsX80, w ∈ wmX4_joinedState := cin_X8
  have hl_30 := hts (.fieldLink RX4 30 "ReplicaFiles$Meeting" "servers" "[LReplicaFiles$Server;") (cBc 325 rfl)
  have hl_40 := hts (.fieldLink RX4 40 "ReplicaFiles$Meeting" "greater" "[I") (cBc 329 rfl)
  have hl_44 := hts (.fieldLink RX4 44 "ReplicaFiles$Meeting" "group" "I") (cBc 333 rfl)
  have hl_74 := va_Nw.use (A := args) rfl (hN.1 ("ReplicaFiles$Meeting", 74, "ReplicaFiles$Server", "tree", "LReplicaFiles$Tree;", "ReplicaFiles") (by decide +kernel))
  have hl_80 := va_Nw.use (A := args) rfl (hN.1 ("ReplicaFiles$Meeting", 80, "ReplicaFiles$Tree", "state", "[I", "ReplicaFiles") (by decide +kernel))
  have hl_122 := va_Nw.use (A := args) rfl (hN.1 ("ReplicaFiles$Meeting", 122, "ReplicaFiles$Tree", "goneCounts", "[[I", "ReplicaFiles") (by decide +kernel))
  have hl := lv_entry ([.ref (A (13, 0, 0)), .int a1]) (n := 4) (Nat.le_of_ble_eq_true rfl)
  rw [← hargs, lg_entry_eq, hargs]
  generalize (lg_sl ([.ref (A (13, 0, 0)), .int a1]) ++ List.replicate (4 - (lg_sl ([.ref (A (13, 0, 0)), .int a1])).length) Slot.unset).toArray = ls at hl ⊢
  have hl : lv_has ls 4 [(0, .ref (A (13, 0, 0))), (1, .int a1)] := hl
  unfold f_X4_joinedState at h
  refine lv_aload_n hx hb dX4_joinedState_0 rfl (lv_at hl 0 rfl) ?_
  refine cr_X4_greater S X Z hin_X4 (cl_one N 13 (by decide)) hl_40 dX4_joinedState_1 ?_
  refine lv_iconst (v := (0 : Int32)) hx hb dX4_joinedState_4 (by decide) ?_
  obtain ⟨M2, hc1, h⟩ := o1_e h
  refine c_v X Z (c_S (As := [.ref (A (14, 0, 0)), .int (0 : Int32)]) (rest := []) S X hN Z (t_J7_fill_53178 l N D dA A hJ ⟨(cl_one N 14 (by decide)), rfl⟩ hc1) (va_cwS 2 hts (cGS (cB 335 rfl) (cB 74 rfl) (cB 75 rfl) (cB 68 rfl)) rfl rfl rfl (by decide +kernel) ⟨Nat.le_of_ble_eq_true rfl, Nat.le_of_ble_eq_true rfl⟩) rfl hl.1 rfl (Nat.le_of_ble_eq_true rfl) dX4_joinedState_5 ⟨Nat.zero_le _, Nat.zero_le _⟩) (fun H locs Z => ?_)
  refine lv_iconst (v := (0 : Int32)) hx hb dX4_joinedState_8 (by decide) ?_
  refine lv_istore_n (lv' := [(2, .int (0 : Int32)), (0, .ref (A (13, 0, 0))), (1, .int a1)]) hx hb dX4_joinedState_9 rfl hl (by decide) rfl (fun ls hl => ?_)
  refine lv_iconst (v := (0 : Int32)) hx hb dX4_joinedState_10 (by decide) ?_
  refine lv_istore_n (lv' := [(3, .int (0 : Int32)), (2, .int (0 : Int32)), (0, .ref (A (13, 0, 0))), (1, .int a1)]) hx hb dX4_joinedState_11 rfl hl (by decide) rfl (fun ls hl => ?_)
  have hL12 : ∀ (n : Nat) (x3 : Int32) (x4 : Int32) (M5 : gM) (H : Heap) (locs : List Loc) (ls : Array Slot), gZ D (cLay N) dA (cLive N) A (gA (cLive N) A) s.heap M5 H locs → lv_has ls 4 [(0, .ref (A (13, 0, 0))), (1, .int a1), (2, .int x3), (3, .int x4)] → f_X4_joinedState_L12 N a1 n x3 x4 M5 = some y → W p l e (headSpec wmX4_joinedState ({ frames := 2, cells := 0, slots := 0, locals := 43 } : Room)).room s m args below meth c H locs 0 0 (MQ below (cQi N D dA A y) args s 0 0 (gA (cLive N) A)) (F0 m 12 ls []) := by
    intro n
    induction n with
    | zero =>
      intro x3 x4 M5 H locs ls Z hl h
      rw [f_X4_joinedState_L12] at h
      cases h
    | succ n6 ih12 =>
      intro x3 x4 M5 H locs ls Z hl h
      rw [f_X4_joinedState_L12] at h
      refine lv_iload_n hx hb dX4_joinedState_12 rfl (lv_at hl 3 rfl) ?_
      refine lv_aload_n hx hb dX4_joinedState_13 rfl (lv_at hl 0 rfl) ?_
      refine cr_X4_servers S X Z hin_X4 (cl_one N 13 (by decide)) hl_30 dX4_joinedState_14 ?_
      refine g_alR (i := (7, 0, 0)) (ca := 2) rfl S X Z (cl_one N 7 (by decide)) rfl dX4_joinedState_17 ?_
      refine lv_icmp_ge (tgt := 78) hx hb dX4_joinedState_18 (by decide) (fun c7 => ?_) (fun c7 => ?_)
      · have h := if_t c7 h
        refine lv_iload_n hx hb dX4_joinedState_78 rfl (lv_at hl 2 rfl) ?_
        have hy := Option.some.inj h
        subst hy
        exact g_ri S Z hr hlocks dX4_joinedState_79
      · have h := if_f c7 h
        refine lv_aload_n hx hb dX4_joinedState_21 rfl (lv_at hl 0 rfl) ?_
        refine cr_X4_group S X Z hin_X4 (cl_one N 13 (by decide)) hl_44 dX4_joinedState_22 h (fun v8 h => ?_)
        refine lv_iload_n hx hb dX4_joinedState_25 rfl (lv_at hl 3 rfl) ?_
        obtain ⟨v10, hc9, h⟩ := o1_e h
        refine c_i X Z (c_SN (As := [.int v8, .int x4]) (rest := []) S X hN Z (t_X10_isIn l N D dA A hJ  hc9) ⟨va_cnB 2 hts (cG (cB 175 rfl)) rfl rfl rfl (hN.2 ("ReplicaFiles$Meeting", 113, yX10_isIn, "ReplicaFiles") (by decide +kernel)) (hts (.initialized RX10) (cBc 107 rfl)) (by decide +kernel) ⟨Nat.le_of_ble_eq_true rfl, Nat.le_of_ble_eq_true rfl⟩, hts (.static yX10_isIn) (cBc 178 rfl), trivial⟩ rfl hl.1 rfl (Nat.le_of_ble_eq_true rfl) dX4_joinedState_26 ⟨Nat.zero_le _, Nat.zero_le _⟩) (fun H locs Z => ?_)
        obtain ⟨J72, eJ72, h⟩ := jn_e h
        have hJ72 : ∀ (b11 : Int32) (M12 : gM) (H : Heap) (locs : List Loc) (ls : Array Slot), gZ D (cLay N) dA (cLive N) A (gA (cLive N) A) s.heap M12 H locs → lv_has ls 4 [(0, .ref (A (13, 0, 0))), (1, .int a1), (2, .int b11), (3, .int x4)] → J72 (b11, M12) = some y → W p l e (headSpec wmX4_joinedState ({ frames := 2, cells := 0, slots := 0, locals := 43 } : Room)).room s m args below meth c H locs 0 0 (MQ below (cQi N D dA A y) args s 0 0 (gA (cLive N) A)) (F0 m 72 ls []) := by
          intro b11 M12 H locs ls Z hl h
          rw [eJ72] at h
          try dsimp only at h
          obtain ⟨x13, ex13, h⟩ := lt_e h
          refine lv_iinc (v := x13) (lv' := [(3, .int x13), (0, .ref (A (13, 0, 0))), (1, .int a1), (2, .int b11)]) hx hb dX4_joinedState_72 hl (k := 3) rfl (by rw [ex13]; rfl) (by decide) rfl (fun ls hl => ?_)
          refine lv_goto (tgt := 12) hx hb dX4_joinedState_75 (by decide) ?_
          exact ih12 b11 x13 M12 _ _ _ Z (lv_sub hl [1, 2, 3, 0] rfl) h
        refine lv_if_eq (tgt := 72) hx hb dX4_joinedState_29 (by decide) (fun c14 => ?_) (fun c14 => ?_)
        · have h := if_t c14 h
          exact hJ72 x3 M5 _ _ _ Z (lv_sub hl [0, 1, 2, 3] rfl) h
        · have h := if_f c14 h
          refine lv_iload_n hx hb dX4_joinedState_32 rfl (lv_at hl 2 rfl) ?_
          refine lv_aload_n hx hb dX4_joinedState_33 rfl (lv_at hl 0 rfl) ?_
          refine cr_X4_servers S X Z hin_X4 (cl_one N 13 (by decide)) hl_30 dX4_joinedState_34 ?_
          refine lv_iload_n hx hb dX4_joinedState_37 rfl (lv_at hl 3 rfl) ?_
          refine g_aald (i := (7, 0, 0)) (ca := 2) ⟨rfl, rfl⟩ S X Z (cl_one N 7 (by decide)) rfl dX4_joinedState_38 h (fun v15 hv15 h => ?_)
          refine cn_X7_tree (a := v15) S X Z hin_X7 (cl_srv hv15) hl_74 dX4_joinedState_39 ?_
          refine cn_X8_state (a := v15) S X Z hin_X8 (cl_st (cl_srv hv15)) hl_80 dX4_joinedState_42 ?_
          refine lv_iload_n hx hb dX4_joinedState_45 rfl (lv_at hl 1 rfl) ?_
          refine g_iald (i := (56, v15, 0)) (n := 48) S X Z (cl_X8_state (cl_st (cl_srv hv15))) rfl dX4_joinedState_46 h (fun v16 h => ?_)
          refine va_mmax hx hb (by rw [hl.1]; exact S.2.2.1) hown (hts (.methodLink RX4 117 Lib.Math.max.name) (cBc 334 rfl)) (hts (.static Lib.Math.max.name) (cBc 194 rfl)) (hts (.initialized "java/lang/Math") (cBc 195 rfl)) (hts (.code Lib.Math.max.name Lib.Math.max.code 2 (some .int)) (cBc 196 rfl)) (Nat.le_of_ble_eq_true rfl) (Nat.le_of_ble_eq_true rfl) (Nat.zero_le _) (Nat.zero_le _) dX4_joinedState_47 ?_
          refine g_topi h (fun x17 h => ?_)
          refine lv_istore_n (lv' := [(2, .int x17), (0, .ref (A (13, 0, 0))), (1, .int a1), (3, .int x4)]) hx hb dX4_joinedState_50 rfl hl (by decide) rfl (fun ls hl => ?_)
          refine lv_aload_n hx hb dX4_joinedState_51 rfl (lv_at hl 1 rfl) ?_
          refine cr_X4_greater S X Z hin_X4 (cl_one N 13 (by decide)) hl_40 dX4_joinedState_52 ?_
          refine lv_aload_n hx hb dX4_joinedState_55 rfl (lv_at hl 1 rfl) ?_
          refine cr_X4_servers S X Z hin_X4 (cl_one N 13 (by decide)) hl_30 dX4_joinedState_56 ?_
          refine lv_iload_n hx hb dX4_joinedState_59 rfl (lv_at hl 3 rfl) ?_
          refine g_aald (i := (7, 0, 0)) (ca := 2) ⟨rfl, rfl⟩ S X Z (cl_one N 7 (by decide)) rfl dX4_joinedState_60 h (fun v18 hv18 h => ?_)
          refine cn_X7_tree (a := v18) S X Z hin_X7 (cl_srv hv18) hl_74 dX4_joinedState_61 ?_
          refine cn_X8_goneCounts (a := v18) S X Z hin_X8 (cl_st (cl_srv hv18)) hl_122 dX4_joinedState_64 ?_
          refine lv_iload_n hx hb dX4_joinedState_67 rfl (lv_at hl 2 rfl) ?_
          refine g_aald (i := (57, v18, 0)) (ca := 5) ⟨rfl, rfl⟩ S X Z (cl_X8_goneCounts (cl_st (cl_srv hv18))) rfl dX4_joinedState_68 h (fun v19 hv19 h => ?_)
          obtain ⟨M21, hc20, h⟩ := o1_e h
          refine c_v X Z (c_SN (As := [.ref (A (14, 0, 0)), .ref (A (58, v18, v19))]) (rest := []) S X hN Z (t_X10_raise l N D dA A hJ ⟨(cl_one N 14 (by decide)), rfl⟩ ⟨(cl_58 (cl_X8_goneCounts (cl_st (cl_srv hv18))) hv19), rfl⟩ hc20) ⟨va_cnB 2 hts (cG (cB 192 rfl)) rfl rfl rfl (hN.2 ("ReplicaFiles$Meeting", 126, yX10_raise, "ReplicaFiles") (by decide +kernel)) (hts (.initialized RX10) (cBc 107 rfl)) (by decide +kernel) ⟨Nat.le_of_ble_eq_true rfl, Nat.le_of_ble_eq_true rfl⟩, hts (.static yX10_raise) (cBc 214 rfl), trivial⟩ rfl hl.1 rfl (Nat.le_of_ble_eq_true rfl) dX4_joinedState_69 ⟨Nat.zero_le _, Nat.zero_le _⟩) (fun H locs Z => ?_)
          exact hJ72 x17 M21 _ _ _ Z (lv_sub hl [1, 2, 0, 3] rfl) h
  exact hL12 100 (0 : Int32) (0 : Int32) M2 _ _ _ Z (lv_sub hl [2, 3, 1, 0] rfl) h
