-- X10_obtain (LReplicaFiles$Client;II)J: 79 instructions
theorem dX10_obtain_0 : decode cX10_obtain 0 = .ok (.aload_n 0, 1) := by decide +kernel
theorem dX10_obtain_1 : decode cX10_obtain 1 = .ok (.getfield 34, 3) := by decide +kernel
theorem dX10_obtain_4 : decode cX10_obtain 4 = .ok (.aload_n 1, 1) := by decide +kernel
theorem dX10_obtain_5 : decode cX10_obtain 5 = .ok (.getfield 314, 3) := by decide +kernel
theorem dX10_obtain_8 : decode cX10_obtain 8 = .ok (.invokevirtual 190, 3) := by decide +kernel
theorem dX10_obtain_11 : decode cX10_obtain 11 = .ok (.istore 4, 2) := by decide +kernel
theorem dX10_obtain_13 : decode cX10_obtain 13 = .ok (.aload_n 0, 1) := by decide +kernel
theorem dX10_obtain_14 : decode cX10_obtain 14 = .ok (.aload_n 1, 1) := by decide +kernel
theorem dX10_obtain_15 : decode cX10_obtain 15 = .ok (.invokevirtual 144, 3) := by decide +kernel
theorem dX10_obtain_18 : decode cX10_obtain 18 = .ok (.ifCond .ne 13, 3) := by decide +kernel
theorem dX10_obtain_21 : decode cX10_obtain 21 = .ok (.aload_n 1, 1) := by decide +kernel
theorem dX10_obtain_22 : decode cX10_obtain 22 = .ok (.iload_n 2, 1) := by decide +kernel
theorem dX10_obtain_23 : decode cX10_obtain 23 = .ok (.iload 4, 2) := by decide +kernel
theorem dX10_obtain_25 : decode cX10_obtain 25 = .ok (.invokevirtual 211, 3) := by decide +kernel
theorem dX10_obtain_28 : decode cX10_obtain 28 = .ok (.ifCond .eq 9, 3) := by decide +kernel
theorem dX10_obtain_31 : decode cX10_obtain 31 = .ok (.aload_n 1, 1) := by decide +kernel
theorem dX10_obtain_32 : decode cX10_obtain 32 = .ok (.iload_n 2, 1) := by decide +kernel
theorem dX10_obtain_33 : decode cX10_obtain 33 = .ok (.invokevirtual 322, 3) := by decide +kernel
theorem dX10_obtain_36 : decode cX10_obtain 36 = .ok (.lreturn, 1) := by decide +kernel
theorem dX10_obtain_37 : decode cX10_obtain 37 = .ok (.aload_n 0, 1) := by decide +kernel
theorem dX10_obtain_38 : decode cX10_obtain 38 = .ok (.getfield 65, 3) := by decide +kernel
theorem dX10_obtain_41 : decode cX10_obtain 41 = .ok (.iload 4, 2) := by decide +kernel
theorem dX10_obtain_43 : decode cX10_obtain 43 = .ok (.iload_n 2, 1) := by decide +kernel
theorem dX10_obtain_44 : decode cX10_obtain 44 = .ok (.invokevirtual 326, 3) := by decide +kernel
theorem dX10_obtain_47 : decode cX10_obtain 47 = .ok (.ifCond .ne 12, 3) := by decide +kernel
theorem dX10_obtain_50 : decode cX10_obtain 50 = .ok (.aload_n 1, 1) := by decide +kernel
theorem dX10_obtain_51 : decode cX10_obtain 51 = .ok (.iload_n 2, 1) := by decide +kernel
theorem dX10_obtain_52 : decode cX10_obtain 52 = .ok (.invokevirtual 329, 3) := by decide +kernel
theorem dX10_obtain_55 : decode cX10_obtain 55 = .ok (.ldc2_w 332, 3) := by decide +kernel
theorem dX10_obtain_58 : decode cX10_obtain 58 = .ok (.lreturn, 1) := by decide +kernel
theorem dX10_obtain_59 : decode cX10_obtain 59 = .ok (.aload_n 0, 1) := by decide +kernel
theorem dX10_obtain_60 : decode cX10_obtain 60 = .ok (.getfield 65, 3) := by decide +kernel
theorem dX10_obtain_63 : decode cX10_obtain 63 = .ok (.iload 4, 2) := by decide +kernel
theorem dX10_obtain_65 : decode cX10_obtain 65 = .ok (.iload_n 2, 1) := by decide +kernel
theorem dX10_obtain_66 : decode cX10_obtain 66 = .ok (.invokevirtual 334, 3) := by decide +kernel
theorem dX10_obtain_69 : decode cX10_obtain 69 = .ok (.istore 5, 2) := by decide +kernel
theorem dX10_obtain_71 : decode cX10_obtain 71 = .ok (.iload 5, 2) := by decide +kernel
theorem dX10_obtain_73 : decode cX10_obtain 73 = .ok (.iconst (-1), 1) := by decide +kernel
theorem dX10_obtain_74 : decode cX10_obtain 74 = .ok (.if_icmp .ne 7, 3) := by decide +kernel
theorem dX10_obtain_77 : decode cX10_obtain 77 = .ok (.ldc2_w 337, 3) := by decide +kernel
theorem dX10_obtain_80 : decode cX10_obtain 80 = .ok (.lreturn, 1) := by decide +kernel
theorem dX10_obtain_81 : decode cX10_obtain 81 = .ok (.aload_n 0, 1) := by decide +kernel
theorem dX10_obtain_82 : decode cX10_obtain 82 = .ok (.getfield 44, 3) := by decide +kernel
theorem dX10_obtain_85 : decode cX10_obtain 85 = .ok (.iload 5, 2) := by decide +kernel
theorem dX10_obtain_87 : decode cX10_obtain 87 = .ok (.aaload, 1) := by decide +kernel
theorem dX10_obtain_88 : decode cX10_obtain 88 = .ok (.iload_n 2, 1) := by decide +kernel
theorem dX10_obtain_89 : decode cX10_obtain 89 = .ok (.invokevirtual 339, 3) := by decide +kernel
theorem dX10_obtain_92 : decode cX10_obtain 92 = .ok (.ifCond .eq 7, 3) := by decide +kernel
theorem dX10_obtain_95 : decode cX10_obtain 95 = .ok (.ldc2_w 342, 3) := by decide +kernel
theorem dX10_obtain_98 : decode cX10_obtain 98 = .ok (.lreturn, 1) := by decide +kernel
theorem dX10_obtain_99 : decode cX10_obtain 99 = .ok (.aload_n 1, 1) := by decide +kernel
theorem dX10_obtain_100 : decode cX10_obtain 100 = .ok (.iload_n 2, 1) := by decide +kernel
theorem dX10_obtain_101 : decode cX10_obtain 101 = .ok (.invokevirtual 344, 3) := by decide +kernel
theorem dX10_obtain_104 : decode cX10_obtain 104 = .ok (.aload_n 0, 1) := by decide +kernel
theorem dX10_obtain_105 : decode cX10_obtain 105 = .ok (.getfield 65, 3) := by decide +kernel
theorem dX10_obtain_108 : decode cX10_obtain 108 = .ok (.iload 4, 2) := by decide +kernel
theorem dX10_obtain_110 : decode cX10_obtain 110 = .ok (.iload_n 2, 1) := by decide +kernel
theorem dX10_obtain_111 : decode cX10_obtain 111 = .ok (.aload_n 0, 1) := by decide +kernel
theorem dX10_obtain_112 : decode cX10_obtain 112 = .ok (.getfield 44, 3) := by decide +kernel
theorem dX10_obtain_115 : decode cX10_obtain 115 = .ok (.iload 5, 2) := by decide +kernel
theorem dX10_obtain_117 : decode cX10_obtain 117 = .ok (.aaload, 1) := by decide +kernel
theorem dX10_obtain_118 : decode cX10_obtain 118 = .ok (.getfield 247, 3) := by decide +kernel
theorem dX10_obtain_121 : decode cX10_obtain 121 = .ok (.getfield 259, 3) := by decide +kernel
theorem dX10_obtain_124 : decode cX10_obtain 124 = .ok (.iload_n 2, 1) := by decide +kernel
theorem dX10_obtain_125 : decode cX10_obtain 125 = .ok (.aaload, 1) := by decide +kernel
theorem dX10_obtain_126 : decode cX10_obtain 126 = .ok (.invokevirtual 347, 3) := by decide +kernel
theorem dX10_obtain_129 : decode cX10_obtain 129 = .ok (.istore 6, 2) := by decide +kernel
theorem dX10_obtain_131 : decode cX10_obtain 131 = .ok (.aload_n 1, 1) := by decide +kernel
theorem dX10_obtain_132 : decode cX10_obtain 132 = .ok (.aload_n 0, 1) := by decide +kernel
theorem dX10_obtain_133 : decode cX10_obtain 133 = .ok (.getfield 44, 3) := by decide +kernel
theorem dX10_obtain_136 : decode cX10_obtain 136 = .ok (.iload 5, 2) := by decide +kernel
theorem dX10_obtain_138 : decode cX10_obtain 138 = .ok (.aaload, 1) := by decide +kernel
theorem dX10_obtain_139 : decode cX10_obtain 139 = .ok (.getfield 247, 3) := by decide +kernel
theorem dX10_obtain_142 : decode cX10_obtain 142 = .ok (.iload_n 2, 1) := by decide +kernel
theorem dX10_obtain_143 : decode cX10_obtain 143 = .ok (.iload 6, 2) := by decide +kernel
theorem dX10_obtain_145 : decode cX10_obtain 145 = .ok (.iload_n 3, 1) := by decide +kernel
theorem dX10_obtain_146 : decode cX10_obtain 146 = .ok (.invokevirtual 351, 3) := by decide +kernel
theorem dX10_obtain_149 : decode cX10_obtain 149 = .ok (.lconst 0, 1) := by decide +kernel
theorem dX10_obtain_150 : decode cX10_obtain 150 = .ok (.lreturn, 1) := by decide +kernel
abbrev wmX10_obtain : List Cond := .code yX10_obtain cX10_obtain 7 (some .long) :: cBig
def f_X10_obtain (N : Nat) (M : gM) (i1 : Nat) (a2 : Int32) (a3 : Int32) : Option (Int64 × gM) :=
  lt (M (30, i1, 0) 0) (fun v1 => o1 (f_X5_nearClient N M v1) (fun v3 => o1 (f_X10_isAlone N M i1) (fun v5 => jn (fun (M6 : gM) => ob (f_X1_useOwn N M6 i1 a2) (fun v9 M8 => some (v9, M8))) (fun J31 => (if v5 = 0 then o1 (f_X1_isGood N M i1 a2 v3) (fun v12 => (if v12 = 0 then o1 (f_X6_holders N M v3 a2) (fun v15 => (if v15 = 0 then o1 (f_X1_drop N M i1 a2) (fun M34 => some ((-2199023255554 : Int64), M34)) else o1 (f_X6_leastGreatest N M v3 a2) (fun v18 => (if v18 = (-1 : Int32) then some ((-2199023255555 : Int64), M) else ix v18 N (fun v20 => o1 (f_X7_isInConflict N M v20 a2) (fun v22 => (if v22 = 0 then o1 (f_X1_use N M i1 a2) (fun M25 => ix v18 N (fun v26 => ix a2 48 (fun v27 => o1 (f_X6_holdersOf N M25 v3 a2 (55, v26, v27)) (fun v29 => ix v18 N (fun v30 => o1 (f_X1_takeIn N M25 i1 v30 a2 v29 a3) (fun M32 => some ((0 : Int64), M32))))))) else some ((-2199023255556 : Int64), M)))))))) else J31 M)) else J31 M)))))
set_option maxHeartbeats 4000000 in
set_option maxRecDepth 100000 in
theorem t_X10_obtain (l : Launch) (N : Nat) (D : va_G) (dA : Nat → ClassId) (A : gI → Nat) (hJ : gJ (cLive N) A) {M : gM} {i1 : Nat} {a2 : Int32} {a3 : Int32} (hi1 : cLive N (30, i1, 0)) {y : (Int64 × gM)} (h : f_X10_obtain N M i1 a2 a3 = some y) : cMl l yX10_obtain wmX10_obtain ({ frames := 5, cells := 0, slots := 0, locals := 117 } : Room) N D dA A [.ref (A (0, 0, 0)), .ref (A (30, i1, 0)), .int a2, .int a3] M y.1 y.2 := by
  refine Met.ofW (cc := cX10_obtain) (maxL := 7) (ret := (some .long)) (by decide) rfl ?_
  intro p e s m args below meth c s₁ B hml hv
  obtain ⟨rfl, hP, hK, hN⟩ := hv
  generalize hargs : ([.ref (A (0, 0, 0)), .ref (A (30, i1, 0)), .int a2, .int a3] : List Value).toArray = args at B ⊢
  have S : CallFix p m c cX10_obtain 7 s args wmX10_obtain RX10 := ⟨B.exec, B.bytes, hml, findClass_of_methodNamed B.named, atoms_spec (ws := wmX10_obtain) B.pre⟩
  obtain ⟨hx, hb, -, hown, hts⟩ := id S
  have hr := B.returns
  have hlocks := B.notSynchronized
  have X : gX D vwCl dA (cLive N) A (gA (cLive N) A) s := ⟨hK, hJ, fun i hi => ⟨i, hi, rfl⟩⟩
  have Z : gZ D (cLay N) dA (cLive N) A (gA (cLive N) A) s.heap M s.heap [] := ⟨hP, va_S.rf⟩
  have hin_X1 : ∀ w ∈ wsX10, w ∈ wmX10_obtain := cin_X1
  have hin_X10 : ∀ w ∈ wsX100, w ∈ wmX10_obtain := cin_X10
  have hin_X7 : ∀ w ∈ wsX70, w ∈ wmX10_obtain := cin_X7
  have hin_X8 : ∀ w ∈ wsX80, w ∈ wmX10_obtain := cin_X8
  have hl_34 := hts (.fieldLink RX10 34 "ReplicaFiles" "net" "LReplicaFiles$Net;") (cBc 535 rfl)
  have hl_44 := hts (.fieldLink RX10 44 "ReplicaFiles" "servers" "[LReplicaFiles$Server;") (cBc 538 rfl)
  have hl_65 := hts (.fieldLink RX10 65 "ReplicaFiles" "replicas" "LReplicaFiles$Replicas;") (cBc 545 rfl)
  have hl_247 := va_Nw.use (A := args) rfl (hN.1 ("ReplicaFiles", 247, "ReplicaFiles$Server", "tree", "LReplicaFiles$Tree;", "ReplicaFiles") (by decide +kernel))
  have hl_259 := va_Nw.use (A := args) rfl (hN.1 ("ReplicaFiles", 259, "ReplicaFiles$Tree", "counts", "[[I", "ReplicaFiles") (by decide +kernel))
  have hl_314 := va_Nw.use (A := args) rfl (hN.1 ("ReplicaFiles", 314, "ReplicaFiles$Client", "number", "I", "ReplicaFiles") (by decide +kernel))
  have hc_332 := hts (.constantLong RX10 332 (-2199023255554)) (cBc 609 rfl)
  have hc_337 := hts (.constantLong RX10 337 (-2199023255555)) (cBc 610 rfl)
  have hc_342 := hts (.constantLong RX10 342 (-2199023255556)) (cBc 611 rfl)
  have hl := lv_entry ([.ref (A (0, 0, 0)), .ref (A (30, i1, 0)), .int a2, .int a3]) (n := 7) (Nat.le_of_ble_eq_true rfl)
  rw [← hargs, lg_entry_eq, hargs]
  generalize (lg_sl ([.ref (A (0, 0, 0)), .ref (A (30, i1, 0)), .int a2, .int a3]) ++ List.replicate (7 - (lg_sl ([.ref (A (0, 0, 0)), .ref (A (30, i1, 0)), .int a2, .int a3])).length) Slot.unset).toArray = ls at hl ⊢
  have hl : lv_has ls 7 [(0, .ref (A (0, 0, 0))), (1, .ref (A (30, i1, 0))), (2, .int a2), (3, .int a3)] := hl
  unfold f_X10_obtain at h
  refine lv_aload_n hx hb dX10_obtain_0 rfl (lv_at hl 0 rfl) ?_
  refine cr_X10_net S X Z hin_X10 (cl_one N 0 (by decide)) hl_34 dX10_obtain_1 ?_
  refine lv_aload_n hx hb dX10_obtain_4 rfl (lv_at hl 1 rfl) ?_
  refine cn_X1_number (a := i1) S X Z hin_X1 hi1 hl_314 dX10_obtain_5 h (fun v1 h => ?_)
  obtain ⟨v3, hc2, h⟩ := o1_e h
  refine c_i X Z (c_V (i := (5, 0, 0)) (As := [.int v1]) (rest := []) S X hN Z (cl_one N 5 (by decide)) rfl rfl (t_X5_nearClient l N D dA A hJ  hc2) (cwV 1 hts (cGV (cB 606 rfl) (cB 607 rfl) (cB 608 rfl) (cB 485 rfl) (cB 492 rfl)) rfl rfl rfl (by decide +kernel) ⟨Nat.le_of_ble_eq_true rfl, Nat.le_of_ble_eq_true rfl⟩) rfl hl.1 rfl (Nat.le_of_ble_eq_true rfl) dX10_obtain_8 ⟨Nat.zero_le _, Nat.zero_le _⟩) (fun H locs Z => ?_)
  refine lv_istore (lv' := [(4, .int v3), (0, .ref (A (0, 0, 0))), (1, .ref (A (30, i1, 0))), (2, .int a2), (3, .int a3)]) hx hb dX10_obtain_11 hl (by decide) rfl (fun ls hl => ?_)
  refine lv_aload_n hx hb dX10_obtain_13 rfl (lv_at hl 1 rfl) ?_
  refine lv_aload_n hx hb dX10_obtain_14 rfl (lv_at hl 2 rfl) ?_
  obtain ⟨v5, hc4, h⟩ := o1_e h
  refine c_i X Z (c_V (i := (0, 0, 0)) (As := [.ref (A (30, i1, 0))]) (rest := []) S X hN Z (cl_one N 0 (by decide)) rfl rfl (t_X10_isAlone l N D dA A hJ hi1 hc4) (cwV 1 hts (cGV (cB 612 rfl) (cB 613 rfl) (cB 614 rfl) (cB 107 rfl) (cB 605 rfl)) rfl rfl rfl (by decide +kernel) ⟨Nat.le_of_ble_eq_true rfl, Nat.le_of_ble_eq_true rfl⟩) rfl hl.1 rfl (Nat.le_of_ble_eq_true rfl) dX10_obtain_15 ⟨Nat.zero_le _, Nat.zero_le _⟩) (fun H locs Z => ?_)
  obtain ⟨J31, eJ31, h⟩ := jn_e h
  have hJ31 : ∀ (M6 : gM) (H : Heap) (locs : List Loc) (ls : Array Slot), gZ D (cLay N) dA (cLive N) A (gA (cLive N) A) s.heap M6 H locs → lv_has ls 7 [(1, .ref (A (30, i1, 0))), (2, .int a2)] → J31 M6 = some y → W p l e (headSpec wmX10_obtain ({ frames := 5, cells := 0, slots := 0, locals := 117 } : Room)).room s m args below meth c H locs 0 0 (MQ below (cQl N D dA A y) args s 0 0 (gA (cLive N) A)) (F0 m 31 ls []) := by
    intro M6 H locs ls Z hl h
    rw [eJ31] at h
    try dsimp only at h
    refine lv_aload_n hx hb dX10_obtain_31 rfl (lv_at hl 0 rfl) ?_
    refine lv_iload_n hx hb dX10_obtain_32 rfl (lv_at hl 1 rfl) ?_
    obtain ⟨v9, M8, hc7, h⟩ := ob_e h
    refine c_l X Z (c_V (i := (30, i1, 0)) (As := [.int a2]) (rest := []) S X hN Z hi1 rfl rfl (t_X1_useOwn l N D dA A hJ hi1 hc7) (cwV 1 hts (cGV (cB 618 rfl) (cB 619 rfl) (cB 620 rfl) (cB 64 rfl) (cB 59 rfl)) rfl rfl rfl (by decide +kernel) ⟨Nat.le_of_ble_eq_true rfl, Nat.le_of_ble_eq_true rfl⟩) rfl hl.1 rfl (Nat.le_of_ble_eq_true rfl) dX10_obtain_33 ⟨Nat.zero_le _, Nat.zero_le _⟩) (fun H locs Z => ?_)
    have hy := Option.some.inj h
    subst hy
    exact g_rl S Z hr hlocks dX10_obtain_36
  refine lv_if_ne (tgt := 31) hx hb dX10_obtain_18 (by decide) (fun c10 => ?_) (fun c10 => ?_)
  · have h := if_f c10 h
    exact hJ31 M _ _ _ Z (lv_sub hl [2, 3] rfl) h
  · have h := if_t c10 h
    refine lv_aload_n hx hb dX10_obtain_21 rfl (lv_at hl 2 rfl) ?_
    refine lv_iload_n hx hb dX10_obtain_22 rfl (lv_at hl 3 rfl) ?_
    refine lv_iload hx hb dX10_obtain_23 (lv_at hl 0 rfl) ?_
    obtain ⟨v12, hc11, h⟩ := o1_e h
    refine c_i X Z (c_V (i := (30, i1, 0)) (As := [.int a2, .int v3]) (rest := []) S X hN Z hi1 rfl rfl (t_X1_isGood l N D dA A hJ hi1 hc11) (cwV 2 hts (cGV (cB 615 rfl) (cB 616 rfl) (cB 617 rfl) (cB 64 rfl) (cB 65 rfl)) rfl rfl rfl (by decide +kernel) ⟨Nat.le_of_ble_eq_true rfl, Nat.le_of_ble_eq_true rfl⟩) rfl hl.1 rfl (Nat.le_of_ble_eq_true rfl) dX10_obtain_25 ⟨Nat.zero_le _, Nat.zero_le _⟩) (fun H locs Z => ?_)
    refine lv_if_eq (tgt := 37) hx hb dX10_obtain_28 (by decide) (fun c13 => ?_) (fun c13 => ?_)
    · have h := if_t c13 h
      refine lv_aload_n hx hb dX10_obtain_37 rfl (lv_at hl 1 rfl) ?_
      refine cr_X10_replicas S X Z hin_X10 (cl_one N 0 (by decide)) hl_65 dX10_obtain_38 ?_
      refine lv_iload hx hb dX10_obtain_41 (lv_at hl 0 rfl) ?_
      refine lv_iload_n hx hb dX10_obtain_43 rfl (lv_at hl 3 rfl) ?_
      obtain ⟨v15, hc14, h⟩ := o1_e h
      refine c_i X Z (c_V (i := (10, 0, 0)) (As := [.int v3, .int a2]) (rest := []) S X hN Z (cl_one N 10 (by decide)) rfl rfl (t_X6_holders l N D dA A hJ  hc14) (cwV 2 hts (cGV (cB 621 rfl) (cB 225 rfl) (cB 226 rfl) (cB 203 rfl) (cB 222 rfl)) rfl rfl rfl (by decide +kernel) ⟨Nat.le_of_ble_eq_true rfl, Nat.le_of_ble_eq_true rfl⟩) rfl hl.1 rfl (Nat.le_of_ble_eq_true rfl) dX10_obtain_44 ⟨Nat.zero_le _, Nat.zero_le _⟩) (fun H locs Z => ?_)
      refine lv_if_ne (tgt := 59) hx hb dX10_obtain_47 (by decide) (fun c16 => ?_) (fun c16 => ?_)
      · have h := if_f c16 h
        refine lv_aload_n hx hb dX10_obtain_59 rfl (lv_at hl 1 rfl) ?_
        refine cr_X10_replicas S X Z hin_X10 (cl_one N 0 (by decide)) hl_65 dX10_obtain_60 ?_
        refine lv_iload hx hb dX10_obtain_63 (lv_at hl 0 rfl) ?_
        refine lv_iload_n hx hb dX10_obtain_65 rfl (lv_at hl 3 rfl) ?_
        obtain ⟨v18, hc17, h⟩ := o1_e h
        refine c_i X Z (c_V (i := (10, 0, 0)) (As := [.int v3, .int a2]) (rest := []) S X hN Z (cl_one N 10 (by decide)) rfl rfl (t_X6_leastGreatest l N D dA A hJ  hc17) (cwV 2 hts (cGV (cB 623 rfl) (cB 624 rfl) (cB 625 rfl) (cB 203 rfl) (cB 497 rfl)) rfl rfl rfl (by decide +kernel) ⟨Nat.le_of_ble_eq_true rfl, Nat.le_of_ble_eq_true rfl⟩) rfl hl.1 rfl (Nat.le_of_ble_eq_true rfl) dX10_obtain_66 ⟨Nat.zero_le _, Nat.zero_le _⟩) (fun H locs Z => ?_)
        refine lv_istore (lv' := [(5, .int v18), (4, .int v3), (0, .ref (A (0, 0, 0))), (1, .ref (A (30, i1, 0))), (2, .int a2), (3, .int a3)]) hx hb dX10_obtain_69 hl (by decide) rfl (fun ls hl => ?_)
        refine lv_iload hx hb dX10_obtain_71 (lv_at hl 0 rfl) ?_
        refine lv_iconst (v := (-1 : Int32)) hx hb dX10_obtain_73 (by decide) ?_
        refine lv_icmp_ne (tgt := 81) hx hb dX10_obtain_74 (by decide) (fun c19 => ?_) (fun c19 => ?_)
        · have h := if_f c19 h
          refine lv_aload_n hx hb dX10_obtain_81 rfl (lv_at hl 2 rfl) ?_
          refine cr_X10_servers S X Z hin_X10 (cl_one N 0 (by decide)) hl_44 dX10_obtain_82 ?_
          refine lv_iload hx hb dX10_obtain_85 (lv_at hl 0 rfl) ?_
          refine g_aald (i := (7, 0, 0)) (ca := 2) ⟨rfl, rfl⟩ S X Z (cl_one N 7 (by decide)) rfl dX10_obtain_87 h (fun v20 hv20 h => ?_)
          refine lv_iload_n hx hb dX10_obtain_88 rfl (lv_at hl 4 rfl) ?_
          obtain ⟨v22, hc21, h⟩ := o1_e h
          refine c_i X Z (c_V (i := (20, v20, 0)) (As := [.int a2]) (rest := []) S X hN Z (cl_srv hv20) rfl rfl (t_X7_isInConflict l N D dA A hJ (cl_srv hv20) hc21) (cwV 1 hts (cGV (cB 626 rfl) (cB 233 rfl) (cB 234 rfl) (cB 235 rfl) (cB 179 rfl)) rfl rfl rfl (by decide +kernel) ⟨Nat.le_of_ble_eq_true rfl, Nat.le_of_ble_eq_true rfl⟩) rfl hl.1 rfl (Nat.le_of_ble_eq_true rfl) dX10_obtain_89 ⟨Nat.zero_le _, Nat.zero_le _⟩) (fun H locs Z => ?_)
          refine lv_if_eq (tgt := 99) hx hb dX10_obtain_92 (by decide) (fun c23 => ?_) (fun c23 => ?_)
          · have h := if_t c23 h
            refine lv_aload_n hx hb dX10_obtain_99 rfl (lv_at hl 3 rfl) ?_
            refine lv_iload_n hx hb dX10_obtain_100 rfl (lv_at hl 4 rfl) ?_
            obtain ⟨M25, hc24, h⟩ := o1_e h
            refine c_v X Z (c_V (i := (30, i1, 0)) (As := [.int a2]) (rest := []) S X hN Z hi1 rfl rfl (t_X1_use l N D dA A hJ hi1 hc24) (cwV 1 hts (cGV (cB 627 rfl) (cB 62 rfl) (cB 63 rfl) (cB 64 rfl) (cB 58 rfl)) rfl rfl rfl (by decide +kernel) ⟨Nat.le_of_ble_eq_true rfl, Nat.le_of_ble_eq_true rfl⟩) rfl hl.1 rfl (Nat.le_of_ble_eq_true rfl) dX10_obtain_101 ⟨Nat.zero_le _, Nat.zero_le _⟩) (fun H locs Z => ?_)
            refine lv_aload_n hx hb dX10_obtain_104 rfl (lv_at hl 2 rfl) ?_
            refine cr_X10_replicas S X Z hin_X10 (cl_one N 0 (by decide)) hl_65 dX10_obtain_105 ?_
            refine lv_iload hx hb dX10_obtain_108 (lv_at hl 1 rfl) ?_
            refine lv_iload_n hx hb dX10_obtain_110 rfl (lv_at hl 4 rfl) ?_
            refine lv_aload_n hx hb dX10_obtain_111 rfl (lv_at hl 2 rfl) ?_
            refine cr_X10_servers S X Z hin_X10 (cl_one N 0 (by decide)) hl_44 dX10_obtain_112 ?_
            refine lv_iload hx hb dX10_obtain_115 (lv_at hl 0 rfl) ?_
            refine g_aald (i := (7, 0, 0)) (ca := 2) ⟨rfl, rfl⟩ S X Z (cl_one N 7 (by decide)) rfl dX10_obtain_117 h (fun v26 hv26 h => ?_)
            refine cn_X7_tree (a := v26) S X Z hin_X7 (cl_srv hv26) hl_247 dX10_obtain_118 ?_
            refine cn_X8_counts (a := v26) S X Z hin_X8 (cl_st (cl_srv hv26)) hl_259 dX10_obtain_121 ?_
            refine lv_iload_n hx hb dX10_obtain_124 rfl (lv_at hl 4 rfl) ?_
            refine g_aald (i := (54, v26, 0)) (ca := 5) ⟨rfl, rfl⟩ S X Z (cl_X8_counts (cl_st (cl_srv hv26))) rfl dX10_obtain_125 h (fun v27 hv27 h => ?_)
            obtain ⟨v29, hc28, h⟩ := o1_e h
            refine c_i X Z (c_V (i := (10, 0, 0)) (As := [.int v3, .int a2, .ref (A (55, v26, v27))]) (rest := []) S X hN Z (cl_one N 10 (by decide)) rfl rfl (t_X6_holdersOf l N D dA A hJ ⟨(cl_55 (cl_X8_counts (cl_st (cl_srv hv26))) hv27), rfl⟩ hc28) (cwV 3 hts (cGV (cB 628 rfl) (cB 247 rfl) (cB 248 rfl) (cB 203 rfl) (cB 228 rfl)) rfl rfl rfl (by decide +kernel) ⟨Nat.le_of_ble_eq_true rfl, Nat.le_of_ble_eq_true rfl⟩) rfl hl.1 rfl (Nat.le_of_ble_eq_true rfl) dX10_obtain_126 ⟨Nat.zero_le _, Nat.zero_le _⟩) (fun H locs Z => ?_)
            refine lv_istore (lv' := [(6, .int v29), (5, .int v18), (4, .int v3), (0, .ref (A (0, 0, 0))), (1, .ref (A (30, i1, 0))), (2, .int a2), (3, .int a3)]) hx hb dX10_obtain_129 hl (by decide) rfl (fun ls hl => ?_)
            refine lv_aload_n hx hb dX10_obtain_131 rfl (lv_at hl 4 rfl) ?_
            refine lv_aload_n hx hb dX10_obtain_132 rfl (lv_at hl 3 rfl) ?_
            refine cr_X10_servers S X Z hin_X10 (cl_one N 0 (by decide)) hl_44 dX10_obtain_133 ?_
            refine lv_iload hx hb dX10_obtain_136 (lv_at hl 1 rfl) ?_
            refine g_aald (i := (7, 0, 0)) (ca := 2) ⟨rfl, rfl⟩ S X Z (cl_one N 7 (by decide)) rfl dX10_obtain_138 h (fun v30 hv30 h => ?_)
            refine cn_X7_tree (a := v30) S X Z hin_X7 (cl_srv hv30) hl_247 dX10_obtain_139 ?_
            refine lv_iload_n hx hb dX10_obtain_142 rfl (lv_at hl 5 rfl) ?_
            refine lv_iload hx hb dX10_obtain_143 (lv_at hl 0 rfl) ?_
            refine lv_iload_n hx hb dX10_obtain_145 rfl (lv_at hl 6 rfl) ?_
            obtain ⟨M32, hc31, h⟩ := o1_e h
            refine c_v X Z (c_V (i := (30, i1, 0)) (As := [.ref (A (50, v30, 0)), .int a2, .int v29, .int a3]) (rest := []) S X hN Z hi1 rfl rfl (t_X1_takeIn l N D dA A hJ hi1 (cl_st (cl_srv hv30)) hc31) (cwV 4 hts (cGV (cB 629 rfl) (cB 630 rfl) (cB 631 rfl) (cB 64 rfl) (cB 114 rfl)) rfl rfl rfl (by decide +kernel) ⟨Nat.le_of_ble_eq_true rfl, Nat.le_of_ble_eq_true rfl⟩) rfl hl.1 rfl (Nat.le_of_ble_eq_true rfl) dX10_obtain_146 ⟨Nat.zero_le _, Nat.zero_le _⟩) (fun H locs Z => ?_)
            refine lv_lconst (v := (0 : Int64)) hx hb dX10_obtain_149 (by decide) ?_
            have hy := Option.some.inj h
            subst hy
            exact g_rl S Z hr hlocks dX10_obtain_150
          · have h := if_f c23 h
            refine lv_ldc2 hx hb hown hc_342 dX10_obtain_95 ?_
            have hy := Option.some.inj h
            subst hy
            exact g_rl S Z hr hlocks dX10_obtain_98
        · have h := if_t c19 h
          refine lv_ldc2 hx hb hown hc_337 dX10_obtain_77 ?_
          have hy := Option.some.inj h
          subst hy
          exact g_rl S Z hr hlocks dX10_obtain_80
      · have h := if_t c16 h
        refine lv_aload_n hx hb dX10_obtain_50 rfl (lv_at hl 2 rfl) ?_
        refine lv_iload_n hx hb dX10_obtain_51 rfl (lv_at hl 3 rfl) ?_
        obtain ⟨M34, hc33, h⟩ := o1_e h
        refine c_v X Z (c_V (i := (30, i1, 0)) (As := [.int a2]) (rest := []) S X hN Z hi1 rfl rfl (t_X1_drop l N D dA A hJ hi1 hc33) (cwV 1 hts (cGV (cB 622 rfl) (cB 101 rfl) (cB 102 rfl) (cB 64 rfl) (cB 76 rfl)) rfl rfl rfl (by decide +kernel) ⟨Nat.le_of_ble_eq_true rfl, Nat.le_of_ble_eq_true rfl⟩) rfl hl.1 rfl (Nat.le_of_ble_eq_true rfl) dX10_obtain_52 ⟨Nat.zero_le _, Nat.zero_le _⟩) (fun H locs Z => ?_)
        refine lv_ldc2 hx hb hown hc_332 dX10_obtain_55 ?_
        have hy := Option.some.inj h
        subst hy
        exact g_rl S Z hr hlocks dX10_obtain_58
    · have h := if_f c13 h
      exact hJ31 M _ _ _ Z (lv_sub hl [2, 3] rfl) h
-- X10_obtainKind (LReplicaFiles$Client;IZ)J: 17 instructions
theorem dX10_obtainKind_0 : decode cX10_obtainKind 0 = .ok (.aload_n 0, 1) := by decide +kernel
theorem dX10_obtainKind_1 : decode cX10_obtainKind 1 = .ok (.iload_n 2, 1) := by decide +kernel
theorem dX10_obtainKind_2 : decode cX10_obtainKind 2 = .ok (.iload_n 3, 1) := by decide +kernel
theorem dX10_obtainKind_3 : decode cX10_obtainKind 3 = .ok (.invokevirtual 224, 3) := by decide +kernel
theorem dX10_obtainKind_6 : decode cX10_obtainKind 6 = .ok (.lstore 4, 2) := by decide +kernel
theorem dX10_obtainKind_8 : decode cX10_obtainKind 8 = .ok (.lload 4, 2) := by decide +kernel
theorem dX10_obtainKind_10 : decode cX10_obtainKind 10 = .ok (.lconst 0, 1) := by decide +kernel
theorem dX10_obtainKind_11 : decode cX10_obtainKind 11 = .ok (.lcmp, 1) := by decide +kernel
theorem dX10_obtainKind_12 : decode cX10_obtainKind 12 = .ok (.ifCond .eq 8, 3) := by decide +kernel
theorem dX10_obtainKind_15 : decode cX10_obtainKind 15 = .ok (.lload 4, 2) := by decide +kernel
theorem dX10_obtainKind_17 : decode cX10_obtainKind 17 = .ok (.goto 11, 3) := by decide +kernel
theorem dX10_obtainKind_20 : decode cX10_obtainKind 20 = .ok (.aload_n 0, 1) := by decide +kernel
theorem dX10_obtainKind_21 : decode cX10_obtainKind 21 = .ok (.aload_n 1, 1) := by decide +kernel
theorem dX10_obtainKind_22 : decode cX10_obtainKind 22 = .ok (.iload_n 2, 1) := by decide +kernel
theorem dX10_obtainKind_23 : decode cX10_obtainKind 23 = .ok (.bipush 10, 2) := by decide +kernel
theorem dX10_obtainKind_25 : decode cX10_obtainKind 25 = .ok (.invokevirtual 176, 3) := by decide +kernel
theorem dX10_obtainKind_28 : decode cX10_obtainKind 28 = .ok (.lreturn, 1) := by decide +kernel
abbrev wmX10_obtainKind : List Cond := .code yX10_obtainKind cX10_obtainKind 6 (some .long) :: cBig
def f_X10_obtainKind (N : Nat) (M : gM) (i1 : Nat) (a2 : Int32) (a3 : Int32) : Option (Int64 × gM) :=
  o1 (f_X10_stopOfKind N M a2 a3) (fun v2 => (if (lg_cmp v2 (0 : Int64)) = 0 then ob (f_X10_obtain N M i1 a2 (10 : Int32)) (fun v6 M5 => some (v6, M5)) else some (v2, M)))
set_option maxHeartbeats 4000000 in
set_option maxRecDepth 100000 in
theorem t_X10_obtainKind (l : Launch) (N : Nat) (D : va_G) (dA : Nat → ClassId) (A : gI → Nat) (hJ : gJ (cLive N) A) {M : gM} {i1 : Nat} {a2 : Int32} {a3 : Int32} (hi1 : cLive N (30, i1, 0)) {y : (Int64 × gM)} (h : f_X10_obtainKind N M i1 a2 a3 = some y) : cMl l yX10_obtainKind wmX10_obtainKind ({ frames := 6, cells := 0, slots := 0, locals := 143 } : Room) N D dA A [.ref (A (0, 0, 0)), .ref (A (30, i1, 0)), .int a2, .int a3] M y.1 y.2 := by
  refine Met.ofW (cc := cX10_obtainKind) (maxL := 6) (ret := (some .long)) (by decide) rfl ?_
  intro p e s m args below meth c s₁ B hml hv
  obtain ⟨rfl, hP, hK, hN⟩ := hv
  generalize hargs : ([.ref (A (0, 0, 0)), .ref (A (30, i1, 0)), .int a2, .int a3] : List Value).toArray = args at B ⊢
  have S : CallFix p m c cX10_obtainKind 6 s args wmX10_obtainKind RX10 := ⟨B.exec, B.bytes, hml, findClass_of_methodNamed B.named, atoms_spec (ws := wmX10_obtainKind) B.pre⟩
  obtain ⟨hx, hb, -, hown, hts⟩ := id S
  have hr := B.returns
  have hlocks := B.notSynchronized
  have X : gX D vwCl dA (cLive N) A (gA (cLive N) A) s := ⟨hK, hJ, fun i hi => ⟨i, hi, rfl⟩⟩
  have Z : gZ D (cLay N) dA (cLive N) A (gA (cLive N) A) s.heap M s.heap [] := ⟨hP, va_S.rf⟩
  have hl := lv_entry ([.ref (A (0, 0, 0)), .ref (A (30, i1, 0)), .int a2, .int a3]) (n := 6) (Nat.le_of_ble_eq_true rfl)
  rw [← hargs, lg_entry_eq, hargs]
  generalize (lg_sl ([.ref (A (0, 0, 0)), .ref (A (30, i1, 0)), .int a2, .int a3]) ++ List.replicate (6 - (lg_sl ([.ref (A (0, 0, 0)), .ref (A (30, i1, 0)), .int a2, .int a3])).length) Slot.unset).toArray = ls at hl ⊢
  have hl : lv_has ls 6 [(0, .ref (A (0, 0, 0))), (1, .ref (A (30, i1, 0))), (2, .int a2), (3, .int a3)] := hl
  unfold f_X10_obtainKind at h
  refine lv_aload_n hx hb dX10_obtainKind_0 rfl (lv_at hl 0 rfl) ?_
  refine lv_iload_n hx hb dX10_obtainKind_1 rfl (lv_at hl 2 rfl) ?_
  refine lv_iload_n hx hb dX10_obtainKind_2 rfl (lv_at hl 3 rfl) ?_
  obtain ⟨v2, hc1, h⟩ := o1_e h
  refine c_l X Z (c_V (i := (0, 0, 0)) (As := [.int a2, .int a3]) (rest := []) S X hN Z (cl_one N 0 (by decide)) rfl rfl (t_X10_stopOfKind l N D dA A hJ  hc1) (cwV 2 hts (cGV (cB 633 rfl) (cB 634 rfl) (cB 635 rfl) (cB 107 rfl) (cB 601 rfl)) rfl rfl rfl (by decide +kernel) ⟨Nat.le_of_ble_eq_true rfl, Nat.le_of_ble_eq_true rfl⟩) rfl hl.1 rfl (Nat.le_of_ble_eq_true rfl) dX10_obtainKind_3 ⟨Nat.zero_le _, Nat.zero_le _⟩) (fun H locs Z => ?_)
  refine lv_lstore (lv' := [(4, .long v2), (0, .ref (A (0, 0, 0))), (1, .ref (A (30, i1, 0))), (2, .int a2), (3, .int a3)]) hx hb dX10_obtainKind_6 hl (by decide) rfl (fun ls hl => ?_)
  refine lv_lload hx hb dX10_obtainKind_8 (lv_at hl 0 rfl) ?_
  refine lv_lconst (v := (0 : Int64)) hx hb dX10_obtainKind_10 (by decide) ?_
  refine W.lcmp hx hb dX10_obtainKind_11 ?_
  refine lv_if_eq (tgt := 20) hx hb dX10_obtainKind_12 (by decide) (fun c3 => ?_) (fun c3 => ?_)
  · have h := if_t c3 h
    refine lv_aload_n hx hb dX10_obtainKind_20 rfl (lv_at hl 1 rfl) ?_
    refine lv_aload_n hx hb dX10_obtainKind_21 rfl (lv_at hl 2 rfl) ?_
    refine lv_iload_n hx hb dX10_obtainKind_22 rfl (lv_at hl 3 rfl) ?_
    refine lv_bipush (v := (10 : Int32)) hx hb dX10_obtainKind_23 (by decide) ?_
    obtain ⟨v6, M5, hc4, h⟩ := ob_e h
    refine c_l X Z (c_V (i := (0, 0, 0)) (As := [.ref (A (30, i1, 0)), .int a2, .int (10 : Int32)]) (rest := []) S X hN Z (cl_one N 0 (by decide)) rfl rfl (t_X10_obtain l N D dA A hJ hi1 hc4) (cwV 3 hts (cGV (cB 636 rfl) (cB 637 rfl) (cB 638 rfl) (cB 107 rfl) (cB 632 rfl)) rfl rfl rfl (by decide +kernel) ⟨Nat.le_of_ble_eq_true rfl, Nat.le_of_ble_eq_true rfl⟩) rfl hl.1 rfl (Nat.le_of_ble_eq_true rfl) dX10_obtainKind_25 ⟨Nat.zero_le _, Nat.zero_le _⟩) (fun H locs Z => ?_)
    have hy := Option.some.inj h
    subst hy
    exact g_rl S Z hr hlocks dX10_obtainKind_28
  · have h := if_f c3 h
    refine lv_lload hx hb dX10_obtainKind_15 (lv_at hl 0 rfl) ?_
    refine lv_goto (tgt := 28) hx hb dX10_obtainKind_17 (by decide) ?_
    have hy := Option.some.inj h
    subst hy
    exact g_rl S Z hr hlocks dX10_obtainKind_28
-- X10_finishNear (LReplicaFiles$Client;II)V: 38 instructions
theorem dX10_finishNear_0 : decode cX10_finishNear 0 = .ok (.aload_n 0, 1) := by decide +kernel
theorem dX10_finishNear_1 : decode cX10_finishNear 1 = .ok (.getfield 65, 3) := by decide +kernel
theorem dX10_finishNear_4 : decode cX10_finishNear 4 = .ok (.iload_n 2, 1) := by decide +kernel
theorem dX10_finishNear_5 : decode cX10_finishNear 5 = .ok (.iload_n 3, 1) := by decide +kernel
theorem dX10_finishNear_6 : decode cX10_finishNear 6 = .ok (.invokevirtual 392, 3) := by decide +kernel
theorem dX10_finishNear_9 : decode cX10_finishNear 9 = .ok (.istore 4, 2) := by decide +kernel
theorem dX10_finishNear_11 : decode cX10_finishNear 11 = .ok (.aload_n 0, 1) := by decide +kernel
theorem dX10_finishNear_12 : decode cX10_finishNear 12 = .ok (.getfield 65, 3) := by decide +kernel
theorem dX10_finishNear_15 : decode cX10_finishNear 15 = .ok (.aload_n 1, 1) := by decide +kernel
theorem dX10_finishNear_16 : decode cX10_finishNear 16 = .ok (.iload_n 2, 1) := by decide +kernel
theorem dX10_finishNear_17 : decode cX10_finishNear 17 = .ok (.iload_n 3, 1) := by decide +kernel
theorem dX10_finishNear_18 : decode cX10_finishNear 18 = .ok (.invokevirtual 386, 3) := by decide +kernel
theorem dX10_finishNear_21 : decode cX10_finishNear 21 = .ok (.aload_n 1, 1) := by decide +kernel
theorem dX10_finishNear_22 : decode cX10_finishNear 22 = .ok (.getfield 131, 3) := by decide +kernel
theorem dX10_finishNear_25 : decode cX10_finishNear 25 = .ok (.getfield 248, 3) := by decide +kernel
theorem dX10_finishNear_28 : decode cX10_finishNear 28 = .ok (.iload_n 3, 1) := by decide +kernel
theorem dX10_finishNear_29 : decode cX10_finishNear 29 = .ok (.baload, 1) := by decide +kernel
theorem dX10_finishNear_30 : decode cX10_finishNear 30 = .ok (.ifCond .eq 33, 3) := by decide +kernel
theorem dX10_finishNear_33 : decode cX10_finishNear 33 = .ok (.aload_n 0, 1) := by decide +kernel
theorem dX10_finishNear_34 : decode cX10_finishNear 34 = .ok (.getfield 65, 3) := by decide +kernel
theorem dX10_finishNear_37 : decode cX10_finishNear 37 = .ok (.iload_n 2, 1) := by decide +kernel
theorem dX10_finishNear_38 : decode cX10_finishNear 38 = .ok (.iload_n 3, 1) := by decide +kernel
theorem dX10_finishNear_39 : decode cX10_finishNear 39 = .ok (.aload_n 1, 1) := by decide +kernel
theorem dX10_finishNear_40 : decode cX10_finishNear 40 = .ok (.getfield 131, 3) := by decide +kernel
theorem dX10_finishNear_43 : decode cX10_finishNear 43 = .ok (.getfield 259, 3) := by decide +kernel
theorem dX10_finishNear_46 : decode cX10_finishNear 46 = .ok (.iload_n 3, 1) := by decide +kernel
theorem dX10_finishNear_47 : decode cX10_finishNear 47 = .ok (.aaload, 1) := by decide +kernel
theorem dX10_finishNear_48 : decode cX10_finishNear 48 = .ok (.invokevirtual 395, 3) := by decide +kernel
theorem dX10_finishNear_51 : decode cX10_finishNear 51 = .ok (.aload_n 1, 1) := by decide +kernel
theorem dX10_finishNear_52 : decode cX10_finishNear 52 = .ok (.getfield 278, 3) := by decide +kernel
theorem dX10_finishNear_55 : decode cX10_finishNear 55 = .ok (.iload_n 3, 1) := by decide +kernel
theorem dX10_finishNear_56 : decode cX10_finishNear 56 = .ok (.iload_n 2, 1) := by decide +kernel
theorem dX10_finishNear_57 : decode cX10_finishNear 57 = .ok (.iload 4, 2) := by decide +kernel
theorem dX10_finishNear_59 : decode cX10_finishNear 59 = .ok (.iconst (-1), 1) := by decide +kernel
theorem dX10_finishNear_60 : decode cX10_finishNear 60 = .ok (.ixor, 1) := by decide +kernel
theorem dX10_finishNear_61 : decode cX10_finishNear 61 = .ok (.iand, 1) := by decide +kernel
theorem dX10_finishNear_62 : decode cX10_finishNear 62 = .ok (.iastore, 1) := by decide +kernel
theorem dX10_finishNear_63 : decode cX10_finishNear 63 = .ok (.return_, 1) := by decide +kernel
abbrev wmX10_finishNear : List Cond := .code yX10_finishNear cX10_finishNear 5 none :: cBig
def f_X10_finishNear (N : Nat) (M : gM) (i1 : Nat) (a2 : Int32) (a3 : Int32) : Option gM :=
  ob (f_X6_countAct N M a2 a3) (fun v3 M2 => o1 (f_X6_endPromisesToOthers N M2 i1 a2 a3) (fun M5 => rd M5 (51, (4 + i1), 0) 48 a3 (fun v6 => (if v6 = 0 then some M5 else ix a3 48 (fun v8 => o1 (f_X6_copyMarks N M5 a2 a3 (55, (4 + i1), v8)) (fun M10 => wr M10 (32, i1, 0) 48 a3 (a2 &&& (v3 ^^^ (-1 : Int32))) (fun M11 => some M11)))))))
set_option maxHeartbeats 4000000 in
set_option maxRecDepth 100000 in
theorem t_X10_finishNear (l : Launch) (N : Nat) (D : va_G) (dA : Nat → ClassId) (A : gI → Nat) (hJ : gJ (cLive N) A) {M : gM} {i1 : Nat} {a2 : Int32} {a3 : Int32} (hi1 : cLive N (30, i1, 0)) {y : gM} (h : f_X10_finishNear N M i1 a2 a3 = some y) : cMv l yX10_finishNear wmX10_finishNear ({ frames := 3, cells := 0, slots := 0, locals := 70 } : Room) N D dA A [.ref (A (0, 0, 0)), .ref (A (30, i1, 0)), .int a2, .int a3] M y := by
  refine Met.ofW (cc := cX10_finishNear) (maxL := 5) (ret := none) (by decide) rfl ?_
  intro p e s m args below meth c s₁ B hml hv
  obtain ⟨rfl, hP, hK, hN⟩ := hv
  generalize hargs : ([.ref (A (0, 0, 0)), .ref (A (30, i1, 0)), .int a2, .int a3] : List Value).toArray = args at B ⊢
  have S : CallFix p m c cX10_finishNear 5 s args wmX10_finishNear RX10 := ⟨B.exec, B.bytes, hml, findClass_of_methodNamed B.named, atoms_spec (ws := wmX10_finishNear) B.pre⟩
  obtain ⟨hx, hb, -, hown, hts⟩ := id S
  have hr := B.returns
  have hlocks := B.notSynchronized
  have X : gX D vwCl dA (cLive N) A (gA (cLive N) A) s := ⟨hK, hJ, fun i hi => ⟨i, hi, rfl⟩⟩
  have Z : gZ D (cLay N) dA (cLive N) A (gA (cLive N) A) s.heap M s.heap [] := ⟨hP, va_S.rf⟩
  have hin_X1 : ∀ w ∈ wsX10, w ∈ wmX10_finishNear := cin_X1
  have hin_X10 : ∀ w ∈ wsX100, w ∈ wmX10_finishNear := cin_X10
  have hin_X8 : ∀ w ∈ wsX80, w ∈ wmX10_finishNear := cin_X8
  have hl_65 := hts (.fieldLink RX10 65 "ReplicaFiles" "replicas" "LReplicaFiles$Replicas;") (cBc 545 rfl)
  have hl_131 := va_Nw.use (A := args) rfl (hN.1 ("ReplicaFiles", 131, "ReplicaFiles$Client", "tree", "LReplicaFiles$Tree;", "ReplicaFiles") (by decide +kernel))
  have hl_248 := va_Nw.use (A := args) rfl (hN.1 ("ReplicaFiles", 248, "ReplicaFiles$Tree", "held", "[Z", "ReplicaFiles") (by decide +kernel))
  have hl_259 := va_Nw.use (A := args) rfl (hN.1 ("ReplicaFiles", 259, "ReplicaFiles$Tree", "counts", "[[I", "ReplicaFiles") (by decide +kernel))
  have hl_278 := va_Nw.use (A := args) rfl (hN.1 ("ReplicaFiles", 278, "ReplicaFiles$Client", "promised", "[I", "ReplicaFiles") (by decide +kernel))
  have hl := lv_entry ([.ref (A (0, 0, 0)), .ref (A (30, i1, 0)), .int a2, .int a3]) (n := 5) (Nat.le_of_ble_eq_true rfl)
  rw [← hargs, lg_entry_eq, hargs]
  generalize (lg_sl ([.ref (A (0, 0, 0)), .ref (A (30, i1, 0)), .int a2, .int a3]) ++ List.replicate (5 - (lg_sl ([.ref (A (0, 0, 0)), .ref (A (30, i1, 0)), .int a2, .int a3])).length) Slot.unset).toArray = ls at hl ⊢
  have hl : lv_has ls 5 [(0, .ref (A (0, 0, 0))), (1, .ref (A (30, i1, 0))), (2, .int a2), (3, .int a3)] := hl
  unfold f_X10_finishNear at h
  refine lv_aload_n hx hb dX10_finishNear_0 rfl (lv_at hl 0 rfl) ?_
  refine cr_X10_replicas S X Z hin_X10 (cl_one N 0 (by decide)) hl_65 dX10_finishNear_1 ?_
  refine lv_iload_n hx hb dX10_finishNear_4 rfl (lv_at hl 2 rfl) ?_
  refine lv_iload_n hx hb dX10_finishNear_5 rfl (lv_at hl 3 rfl) ?_
  obtain ⟨v3, M2, hc1, h⟩ := ob_e h
  refine c_i X Z (c_V (i := (10, 0, 0)) (As := [.int a2, .int a3]) (rest := []) S X hN Z (cl_one N 10 (by decide)) rfl rfl (t_X6_countAct l N D dA A hJ  hc1) (cwV 2 hts (cGV (cB 651 rfl) (cB 253 rfl) (cB 254 rfl) (cB 203 rfl) (cB 239 rfl)) rfl rfl rfl (by decide +kernel) ⟨Nat.le_of_ble_eq_true rfl, Nat.le_of_ble_eq_true rfl⟩) rfl hl.1 rfl (Nat.le_of_ble_eq_true rfl) dX10_finishNear_6 ⟨Nat.zero_le _, Nat.zero_le _⟩) (fun H locs Z => ?_)
  refine lv_istore (lv' := [(4, .int v3), (0, .ref (A (0, 0, 0))), (1, .ref (A (30, i1, 0))), (2, .int a2), (3, .int a3)]) hx hb dX10_finishNear_9 hl (by decide) rfl (fun ls hl => ?_)
  refine lv_aload_n hx hb dX10_finishNear_11 rfl (lv_at hl 1 rfl) ?_
  refine cr_X10_replicas S X Z hin_X10 (cl_one N 0 (by decide)) hl_65 dX10_finishNear_12 ?_
  refine lv_aload_n hx hb dX10_finishNear_15 rfl (lv_at hl 2 rfl) ?_
  refine lv_iload_n hx hb dX10_finishNear_16 rfl (lv_at hl 3 rfl) ?_
  refine lv_iload_n hx hb dX10_finishNear_17 rfl (lv_at hl 4 rfl) ?_
  obtain ⟨M5, hc4, h⟩ := o1_e h
  refine c_v X Z (c_V (i := (10, 0, 0)) (As := [.ref (A (30, i1, 0)), .int a2, .int a3]) (rest := []) S X hN Z (cl_one N 10 (by decide)) rfl rfl (t_X6_endPromisesToOthers l N D dA A hJ hi1 hc4) (cwV 3 hts (cGV (cB 652 rfl) (cB 653 rfl) (cB 654 rfl) (cB 203 rfl) (cB 502 rfl)) rfl rfl rfl (by decide +kernel) ⟨Nat.le_of_ble_eq_true rfl, Nat.le_of_ble_eq_true rfl⟩) rfl hl.1 rfl (Nat.le_of_ble_eq_true rfl) dX10_finishNear_18 ⟨Nat.zero_le _, Nat.zero_le _⟩) (fun H locs Z => ?_)
  refine lv_aload_n hx hb dX10_finishNear_21 rfl (lv_at hl 2 rfl) ?_
  refine cn_X1_tree (a := i1) S X Z hin_X1 hi1 hl_131 dX10_finishNear_22 ?_
  refine cn_X8_held (a := (4 + i1)) S X Z hin_X8 (cl_ct hi1) hl_248 dX10_finishNear_25 ?_
  refine lv_iload_n hx hb dX10_finishNear_28 rfl (lv_at hl 4 rfl) ?_
  refine g_zald (i := (51, (4 + i1), 0)) (n := 48) S X Z (cl_X8_held (cl_ct hi1)) rfl dX10_finishNear_29 h (fun v6 h => ?_)
  refine lv_if_eq (tgt := 63) hx hb dX10_finishNear_30 (by decide) (fun c7 => ?_) (fun c7 => ?_)
  · have h := if_t c7 h
    have hy := Option.some.inj h
    subst hy
    exact g_rv S Z hr hlocks dX10_finishNear_63
  · have h := if_f c7 h
    refine lv_aload_n hx hb dX10_finishNear_33 rfl (lv_at hl 1 rfl) ?_
    refine cr_X10_replicas S X Z hin_X10 (cl_one N 0 (by decide)) hl_65 dX10_finishNear_34 ?_
    refine lv_iload_n hx hb dX10_finishNear_37 rfl (lv_at hl 3 rfl) ?_
    refine lv_iload_n hx hb dX10_finishNear_38 rfl (lv_at hl 4 rfl) ?_
    refine lv_aload_n hx hb dX10_finishNear_39 rfl (lv_at hl 2 rfl) ?_
    refine cn_X1_tree (a := i1) S X Z hin_X1 hi1 hl_131 dX10_finishNear_40 ?_
    refine cn_X8_counts (a := (4 + i1)) S X Z hin_X8 (cl_ct hi1) hl_259 dX10_finishNear_43 ?_
    refine lv_iload_n hx hb dX10_finishNear_46 rfl (lv_at hl 4 rfl) ?_
    refine g_aald (i := (54, (4 + i1), 0)) (ca := 5) ⟨rfl, rfl⟩ S X Z (cl_X8_counts (cl_ct hi1)) rfl dX10_finishNear_47 h (fun v8 hv8 h => ?_)
    obtain ⟨M10, hc9, h⟩ := o1_e h
    refine c_v X Z (c_V (i := (10, 0, 0)) (As := [.int a2, .int a3, .ref (A (55, (4 + i1), v8))]) (rest := []) S X hN Z (cl_one N 10 (by decide)) rfl rfl (t_X6_copyMarks l N D dA A hJ ⟨(cl_55 (cl_X8_counts (cl_ct hi1)) hv8), rfl⟩ hc9) (cwV 3 hts (cGV (cB 655 rfl) (cB 205 rfl) (cB 206 rfl) (cB 203 rfl) (cB 198 rfl)) rfl rfl rfl (by decide +kernel) ⟨Nat.le_of_ble_eq_true rfl, Nat.le_of_ble_eq_true rfl⟩) rfl hl.1 rfl (Nat.le_of_ble_eq_true rfl) dX10_finishNear_48 ⟨Nat.zero_le _, Nat.zero_le _⟩) (fun H locs Z => ?_)
    refine lv_aload_n hx hb dX10_finishNear_51 rfl (lv_at hl 2 rfl) ?_
    refine cn_X1_promised (a := i1) S X Z hin_X1 hi1 hl_278 dX10_finishNear_52 ?_
    refine lv_iload_n hx hb dX10_finishNear_55 rfl (lv_at hl 4 rfl) ?_
    refine lv_iload_n hx hb dX10_finishNear_56 rfl (lv_at hl 3 rfl) ?_
    refine lv_iload hx hb dX10_finishNear_57 (lv_at hl 0 rfl) ?_
    refine lv_iconst (v := (-1 : Int32)) hx hb dX10_finishNear_59 (by decide) ?_
    refine lv_ixor hx hb dX10_finishNear_60 ?_
    refine lv_iand hx hb dX10_finishNear_61 ?_
    refine g_iast (i := (32, i1, 0)) (n := 48) S X Z (cl_X1_promised hi1) rfl dX10_finishNear_62 h (fun M11 H locs Z h => ?_)
    have hy := Option.some.inj h
    subst hy
    exact g_rv S Z hr hlocks dX10_finishNear_63
-- X10_writeNear (LReplicaFiles$Client;III)J: 36 instructions
theorem dX10_writeNear_0 : decode cX10_writeNear 0 = .ok (.aload_n 0, 1) := by decide +kernel
theorem dX10_writeNear_1 : decode cX10_writeNear 1 = .ok (.getfield 65, 3) := by decide +kernel
theorem dX10_writeNear_4 : decode cX10_writeNear 4 = .ok (.aload_n 0, 1) := by decide +kernel
theorem dX10_writeNear_5 : decode cX10_writeNear 5 = .ok (.getfield 34, 3) := by decide +kernel
theorem dX10_writeNear_8 : decode cX10_writeNear 8 = .ok (.aload_n 1, 1) := by decide +kernel
theorem dX10_writeNear_9 : decode cX10_writeNear 9 = .ok (.getfield 314, 3) := by decide +kernel
theorem dX10_writeNear_12 : decode cX10_writeNear 12 = .ok (.invokevirtual 190, 3) := by decide +kernel
theorem dX10_writeNear_15 : decode cX10_writeNear 15 = .ok (.iload_n 2, 1) := by decide +kernel
theorem dX10_writeNear_16 : decode cX10_writeNear 16 = .ok (.aload_n 1, 1) := by decide +kernel
theorem dX10_writeNear_17 : decode cX10_writeNear 17 = .ok (.getfield 131, 3) := by decide +kernel
theorem dX10_writeNear_20 : decode cX10_writeNear 20 = .ok (.getfield 259, 3) := by decide +kernel
theorem dX10_writeNear_23 : decode cX10_writeNear 23 = .ok (.iload_n 2, 1) := by decide +kernel
theorem dX10_writeNear_24 : decode cX10_writeNear 24 = .ok (.aaload, 1) := by decide +kernel
theorem dX10_writeNear_25 : decode cX10_writeNear 25 = .ok (.invokevirtual 347, 3) := by decide +kernel
theorem dX10_writeNear_28 : decode cX10_writeNear 28 = .ok (.istore 5, 2) := by decide +kernel
theorem dX10_writeNear_30 : decode cX10_writeNear 30 = .ok (.aload_n 0, 1) := by decide +kernel
theorem dX10_writeNear_31 : decode cX10_writeNear 31 = .ok (.getfield 65, 3) := by decide +kernel
theorem dX10_writeNear_34 : decode cX10_writeNear 34 = .ok (.iload 5, 2) := by decide +kernel
theorem dX10_writeNear_36 : decode cX10_writeNear 36 = .ok (.iload_n 2, 1) := by decide +kernel
theorem dX10_writeNear_37 : decode cX10_writeNear 37 = .ok (.iload_n 3, 1) := by decide +kernel
theorem dX10_writeNear_38 : decode cX10_writeNear 38 = .ok (.iload 4, 2) := by decide +kernel
theorem dX10_writeNear_40 : decode cX10_writeNear 40 = .ok (.invokevirtual 355, 3) := by decide +kernel
theorem dX10_writeNear_43 : decode cX10_writeNear 43 = .ok (.aload_n 0, 1) := by decide +kernel
theorem dX10_writeNear_44 : decode cX10_writeNear 44 = .ok (.aload_n 1, 1) := by decide +kernel
theorem dX10_writeNear_45 : decode cX10_writeNear 45 = .ok (.iload 5, 2) := by decide +kernel
theorem dX10_writeNear_47 : decode cX10_writeNear 47 = .ok (.iload_n 2, 1) := by decide +kernel
theorem dX10_writeNear_48 : decode cX10_writeNear 48 = .ok (.invokevirtual 359, 3) := by decide +kernel
theorem dX10_writeNear_51 : decode cX10_writeNear 51 = .ok (.aload_n 1, 1) := by decide +kernel
theorem dX10_writeNear_52 : decode cX10_writeNear 52 = .ok (.iload_n 2, 1) := by decide +kernel
theorem dX10_writeNear_53 : decode cX10_writeNear 53 = .ok (.iload_n 3, 1) := by decide +kernel
theorem dX10_writeNear_54 : decode cX10_writeNear 54 = .ok (.iload 4, 2) := by decide +kernel
theorem dX10_writeNear_56 : decode cX10_writeNear 56 = .ok (.invokevirtual 363, 3) := by decide +kernel
theorem dX10_writeNear_59 : decode cX10_writeNear 59 = .ok (.iload 5, 2) := by decide +kernel
theorem dX10_writeNear_61 : decode cX10_writeNear 61 = .ok (.invokestatic 367, 3) := by decide +kernel
theorem dX10_writeNear_64 : decode cX10_writeNear 64 = .ok (.i2l, 1) := by decide +kernel
theorem dX10_writeNear_65 : decode cX10_writeNear 65 = .ok (.lreturn, 1) := by decide +kernel
abbrev wmX10_writeNear : List Cond := .code yX10_writeNear cX10_writeNear 6 (some .long) :: cBig
def f_X10_writeNear (N : Nat) (M : gM) (i1 : Nat) (a2 : Int32) (a3 : Int32) (a4 : Int32) : Option (Int64 × gM) :=
  lt (M (30, i1, 0) 0) (fun v1 => o1 (f_X5_nearClient N M v1) (fun v3 => ix a2 48 (fun v4 => o1 (f_X6_holdersOf N M v3 a2 (55, (4 + i1), v4)) (fun v6 => o1 (f_X6_writeAt N M v6 a2 a3 a4) (fun M8 => o1 (f_X10_finishNear N M8 i1 v6 a2) (fun M10 => o1 (f_X1_changeFile N M10 i1 a2 a3 a4) (fun M12 => o1 (f_J6_bitCount_0f7a4 N M12 v6) (fun v14 => some (v14.toInt64, M12)))))))))
set_option maxHeartbeats 4000000 in
set_option maxRecDepth 100000 in
theorem t_X10_writeNear (l : Launch) (N : Nat) (D : va_G) (dA : Nat → ClassId) (A : gI → Nat) (hJ : gJ (cLive N) A) {M : gM} {i1 : Nat} {a2 : Int32} {a3 : Int32} {a4 : Int32} (hi1 : cLive N (30, i1, 0)) {y : (Int64 × gM)} (h : f_X10_writeNear N M i1 a2 a3 a4 = some y) : cMl l yX10_writeNear wmX10_writeNear ({ frames := 5, cells := 0, slots := 0, locals := 115 } : Room) N D dA A [.ref (A (0, 0, 0)), .ref (A (30, i1, 0)), .int a2, .int a3, .int a4] M y.1 y.2 := by
  refine Met.ofW (cc := cX10_writeNear) (maxL := 6) (ret := (some .long)) (by decide) rfl ?_
  intro p e s m args below meth c s₁ B hml hv
  obtain ⟨rfl, hP, hK, hN⟩ := hv
  generalize hargs : ([.ref (A (0, 0, 0)), .ref (A (30, i1, 0)), .int a2, .int a3, .int a4] : List Value).toArray = args at B ⊢
  have S : CallFix p m c cX10_writeNear 6 s args wmX10_writeNear RX10 := ⟨B.exec, B.bytes, hml, findClass_of_methodNamed B.named, atoms_spec (ws := wmX10_writeNear) B.pre⟩
  obtain ⟨hx, hb, -, hown, hts⟩ := id S
  have hr := B.returns
  have hlocks := B.notSynchronized
  have X : gX D vwCl dA (cLive N) A (gA (cLive N) A) s := ⟨hK, hJ, fun i hi => ⟨i, hi, rfl⟩⟩
  have Z : gZ D (cLay N) dA (cLive N) A (gA (cLive N) A) s.heap M s.heap [] := ⟨hP, va_S.rf⟩
  have hin_X1 : ∀ w ∈ wsX10, w ∈ wmX10_writeNear := cin_X1
  have hin_X10 : ∀ w ∈ wsX100, w ∈ wmX10_writeNear := cin_X10
  have hin_X8 : ∀ w ∈ wsX80, w ∈ wmX10_writeNear := cin_X8
  have hl_34 := hts (.fieldLink RX10 34 "ReplicaFiles" "net" "LReplicaFiles$Net;") (cBc 535 rfl)
  have hl_65 := hts (.fieldLink RX10 65 "ReplicaFiles" "replicas" "LReplicaFiles$Replicas;") (cBc 545 rfl)
  have hl_131 := va_Nw.use (A := args) rfl (hN.1 ("ReplicaFiles", 131, "ReplicaFiles$Client", "tree", "LReplicaFiles$Tree;", "ReplicaFiles") (by decide +kernel))
  have hl_259 := va_Nw.use (A := args) rfl (hN.1 ("ReplicaFiles", 259, "ReplicaFiles$Tree", "counts", "[[I", "ReplicaFiles") (by decide +kernel))
  have hl_314 := va_Nw.use (A := args) rfl (hN.1 ("ReplicaFiles", 314, "ReplicaFiles$Client", "number", "I", "ReplicaFiles") (by decide +kernel))
  have hl := lv_entry ([.ref (A (0, 0, 0)), .ref (A (30, i1, 0)), .int a2, .int a3, .int a4]) (n := 6) (Nat.le_of_ble_eq_true rfl)
  rw [← hargs, lg_entry_eq, hargs]
  generalize (lg_sl ([.ref (A (0, 0, 0)), .ref (A (30, i1, 0)), .int a2, .int a3, .int a4]) ++ List.replicate (6 - (lg_sl ([.ref (A (0, 0, 0)), .ref (A (30, i1, 0)), .int a2, .int a3, .int a4])).length) Slot.unset).toArray = ls at hl ⊢
  have hl : lv_has ls 6 [(0, .ref (A (0, 0, 0))), (1, .ref (A (30, i1, 0))), (2, .int a2), (3, .int a3), (4, .int a4)] := hl
  unfold f_X10_writeNear at h
  refine lv_aload_n hx hb dX10_writeNear_0 rfl (lv_at hl 0 rfl) ?_
  refine cr_X10_replicas S X Z hin_X10 (cl_one N 0 (by decide)) hl_65 dX10_writeNear_1 ?_
  refine lv_aload_n hx hb dX10_writeNear_4 rfl (lv_at hl 0 rfl) ?_
  refine cr_X10_net S X Z hin_X10 (cl_one N 0 (by decide)) hl_34 dX10_writeNear_5 ?_
  refine lv_aload_n hx hb dX10_writeNear_8 rfl (lv_at hl 1 rfl) ?_
  refine cn_X1_number (a := i1) S X Z hin_X1 hi1 hl_314 dX10_writeNear_9 h (fun v1 h => ?_)
  obtain ⟨v3, hc2, h⟩ := o1_e h
  refine c_i X Z (c_V (i := (5, 0, 0)) (As := [.int v1]) (rest := [.ref (A (10, 0, 0))]) S X hN Z (cl_one N 5 (by decide)) rfl rfl (t_X5_nearClient l N D dA A hJ  hc2) (cwV 1 hts (cGV (cB 606 rfl) (cB 607 rfl) (cB 608 rfl) (cB 485 rfl) (cB 492 rfl)) rfl rfl rfl (by decide +kernel) ⟨Nat.le_of_ble_eq_true rfl, Nat.le_of_ble_eq_true rfl⟩) rfl hl.1 rfl (Nat.le_of_ble_eq_true rfl) dX10_writeNear_12 ⟨Nat.zero_le _, Nat.zero_le _⟩) (fun H locs Z => ?_)
  refine lv_iload_n hx hb dX10_writeNear_15 rfl (lv_at hl 2 rfl) ?_
  refine lv_aload_n hx hb dX10_writeNear_16 rfl (lv_at hl 1 rfl) ?_
  refine cn_X1_tree (a := i1) S X Z hin_X1 hi1 hl_131 dX10_writeNear_17 ?_
  refine cn_X8_counts (a := (4 + i1)) S X Z hin_X8 (cl_ct hi1) hl_259 dX10_writeNear_20 ?_
  refine lv_iload_n hx hb dX10_writeNear_23 rfl (lv_at hl 2 rfl) ?_
  refine g_aald (i := (54, (4 + i1), 0)) (ca := 5) ⟨rfl, rfl⟩ S X Z (cl_X8_counts (cl_ct hi1)) rfl dX10_writeNear_24 h (fun v4 hv4 h => ?_)
  obtain ⟨v6, hc5, h⟩ := o1_e h
  refine c_i X Z (c_V (i := (10, 0, 0)) (As := [.int v3, .int a2, .ref (A (55, (4 + i1), v4))]) (rest := []) S X hN Z (cl_one N 10 (by decide)) rfl rfl (t_X6_holdersOf l N D dA A hJ ⟨(cl_55 (cl_X8_counts (cl_ct hi1)) hv4), rfl⟩ hc5) (cwV 3 hts (cGV (cB 628 rfl) (cB 247 rfl) (cB 248 rfl) (cB 203 rfl) (cB 228 rfl)) rfl rfl rfl (by decide +kernel) ⟨Nat.le_of_ble_eq_true rfl, Nat.le_of_ble_eq_true rfl⟩) rfl hl.1 rfl (Nat.le_of_ble_eq_true rfl) dX10_writeNear_25 ⟨Nat.zero_le _, Nat.zero_le _⟩) (fun H locs Z => ?_)
  refine lv_istore (lv' := [(5, .int v6), (0, .ref (A (0, 0, 0))), (1, .ref (A (30, i1, 0))), (2, .int a2), (3, .int a3), (4, .int a4)]) hx hb dX10_writeNear_28 hl (by decide) rfl (fun ls hl => ?_)
  refine lv_aload_n hx hb dX10_writeNear_30 rfl (lv_at hl 1 rfl) ?_
  refine cr_X10_replicas S X Z hin_X10 (cl_one N 0 (by decide)) hl_65 dX10_writeNear_31 ?_
  refine lv_iload hx hb dX10_writeNear_34 (lv_at hl 0 rfl) ?_
  refine lv_iload_n hx hb dX10_writeNear_36 rfl (lv_at hl 3 rfl) ?_
  refine lv_iload_n hx hb dX10_writeNear_37 rfl (lv_at hl 4 rfl) ?_
  refine lv_iload hx hb dX10_writeNear_38 (lv_at hl 5 rfl) ?_
  obtain ⟨M8, hc7, h⟩ := o1_e h
  refine c_v X Z (c_V (i := (10, 0, 0)) (As := [.int v6, .int a2, .int a3, .int a4]) (rest := []) S X hN Z (cl_one N 10 (by decide)) rfl rfl (t_X6_writeAt l N D dA A hJ  hc7) (cwV 4 hts (cGV (cB 657 rfl) (cB 250 rfl) (cB 251 rfl) (cB 203 rfl) (cB 236 rfl)) rfl rfl rfl (by decide +kernel) ⟨Nat.le_of_ble_eq_true rfl, Nat.le_of_ble_eq_true rfl⟩) rfl hl.1 rfl (Nat.le_of_ble_eq_true rfl) dX10_writeNear_40 ⟨Nat.zero_le _, Nat.zero_le _⟩) (fun H locs Z => ?_)
  refine lv_aload_n hx hb dX10_writeNear_43 rfl (lv_at hl 1 rfl) ?_
  refine lv_aload_n hx hb dX10_writeNear_44 rfl (lv_at hl 2 rfl) ?_
  refine lv_iload hx hb dX10_writeNear_45 (lv_at hl 0 rfl) ?_
  refine lv_iload_n hx hb dX10_writeNear_47 rfl (lv_at hl 3 rfl) ?_
  obtain ⟨M10, hc9, h⟩ := o1_e h
  refine c_v X Z (c_V (i := (0, 0, 0)) (As := [.ref (A (30, i1, 0)), .int v6, .int a2]) (rest := []) S X hN Z (cl_one N 0 (by decide)) rfl rfl (t_X10_finishNear l N D dA A hJ hi1 hc9) (cwV 3 hts (cGV (cB 658 rfl) (cB 659 rfl) (cB 660 rfl) (cB 107 rfl) (cB 656 rfl)) rfl rfl rfl (by decide +kernel) ⟨Nat.le_of_ble_eq_true rfl, Nat.le_of_ble_eq_true rfl⟩) rfl hl.1 rfl (Nat.le_of_ble_eq_true rfl) dX10_writeNear_48 ⟨Nat.zero_le _, Nat.zero_le _⟩) (fun H locs Z => ?_)
  refine lv_aload_n hx hb dX10_writeNear_51 rfl (lv_at hl 2 rfl) ?_
  refine lv_iload_n hx hb dX10_writeNear_52 rfl (lv_at hl 3 rfl) ?_
  refine lv_iload_n hx hb dX10_writeNear_53 rfl (lv_at hl 4 rfl) ?_
  refine lv_iload hx hb dX10_writeNear_54 (lv_at hl 5 rfl) ?_
  obtain ⟨M12, hc11, h⟩ := o1_e h
  refine c_v X Z (c_V (i := (30, i1, 0)) (As := [.int a2, .int a3, .int a4]) (rest := []) S X hN Z hi1 rfl rfl (t_X1_changeFile l N D dA A hJ hi1 hc11) (cwV 3 hts (cGV (cB 661 rfl) (cB 662 rfl) (cB 663 rfl) (cB 64 rfl) (cB 116 rfl)) rfl rfl rfl (by decide +kernel) ⟨Nat.le_of_ble_eq_true rfl, Nat.le_of_ble_eq_true rfl⟩) rfl hl.1 rfl (Nat.le_of_ble_eq_true rfl) dX10_writeNear_56 ⟨Nat.zero_le _, Nat.zero_le _⟩) (fun H locs Z => ?_)
  refine lv_iload hx hb dX10_writeNear_59 (lv_at hl 0 rfl) ?_
  obtain ⟨v14, hc13, h⟩ := o1_e h
  refine c_i X Z (c_S (As := [.int v6]) (rest := []) S X hN Z (t_J6_bitCount_0f7a4 l N D dA A hJ  hc13) (va_cwS 1 hts (cGS (cB 664 rfl) (cB 353 rfl) (cB 354 rfl) (cB 346 rfl)) rfl rfl rfl (by decide +kernel) ⟨Nat.le_of_ble_eq_true rfl, Nat.le_of_ble_eq_true rfl⟩) rfl hl.1 rfl (Nat.le_of_ble_eq_true rfl) dX10_writeNear_61 ⟨Nat.zero_le _, Nat.zero_le _⟩) (fun H locs Z => ?_)
  refine lv_i2l hx hb dX10_writeNear_64 rfl ?_
  have hy := Option.some.inj h
  subst hy
  exact g_rl S Z hr hlocks dX10_writeNear_65
-- X10_makeNear (LReplicaFiles$Client;IIZ)J: 40 instructions
theorem dX10_makeNear_0 : decode cX10_makeNear 0 = .ok (.aload_n 0, 1) := by decide +kernel
theorem dX10_makeNear_1 : decode cX10_makeNear 1 = .ok (.getfield 65, 3) := by decide +kernel
theorem dX10_makeNear_4 : decode cX10_makeNear 4 = .ok (.aload_n 0, 1) := by decide +kernel
theorem dX10_makeNear_5 : decode cX10_makeNear 5 = .ok (.getfield 34, 3) := by decide +kernel
theorem dX10_makeNear_8 : decode cX10_makeNear 8 = .ok (.aload_n 1, 1) := by decide +kernel
theorem dX10_makeNear_9 : decode cX10_makeNear 9 = .ok (.getfield 314, 3) := by decide +kernel
theorem dX10_makeNear_12 : decode cX10_makeNear 12 = .ok (.invokevirtual 190, 3) := by decide +kernel
theorem dX10_makeNear_15 : decode cX10_makeNear 15 = .ok (.iload_n 2, 1) := by decide +kernel
theorem dX10_makeNear_16 : decode cX10_makeNear 16 = .ok (.aload_n 1, 1) := by decide +kernel
theorem dX10_makeNear_17 : decode cX10_makeNear 17 = .ok (.getfield 131, 3) := by decide +kernel
theorem dX10_makeNear_20 : decode cX10_makeNear 20 = .ok (.getfield 259, 3) := by decide +kernel
theorem dX10_makeNear_23 : decode cX10_makeNear 23 = .ok (.iload_n 2, 1) := by decide +kernel
theorem dX10_makeNear_24 : decode cX10_makeNear 24 = .ok (.aaload, 1) := by decide +kernel
theorem dX10_makeNear_25 : decode cX10_makeNear 25 = .ok (.invokevirtual 347, 3) := by decide +kernel
theorem dX10_makeNear_28 : decode cX10_makeNear 28 = .ok (.istore 5, 2) := by decide +kernel
theorem dX10_makeNear_30 : decode cX10_makeNear 30 = .ok (.aload_n 0, 1) := by decide +kernel
theorem dX10_makeNear_31 : decode cX10_makeNear 31 = .ok (.getfield 25, 3) := by decide +kernel
theorem dX10_makeNear_34 : decode cX10_makeNear 34 = .ok (.iload_n 2, 1) := by decide +kernel
theorem dX10_makeNear_35 : decode cX10_makeNear 35 = .ok (.iload_n 3, 1) := by decide +kernel
theorem dX10_makeNear_36 : decode cX10_makeNear 36 = .ok (.iload 4, 2) := by decide +kernel
theorem dX10_makeNear_38 : decode cX10_makeNear 38 = .ok (.invokevirtual 372, 3) := by decide +kernel
theorem dX10_makeNear_41 : decode cX10_makeNear 41 = .ok (.istore 6, 2) := by decide +kernel
theorem dX10_makeNear_43 : decode cX10_makeNear 43 = .ok (.aload_n 0, 1) := by decide +kernel
theorem dX10_makeNear_44 : decode cX10_makeNear 44 = .ok (.getfield 65, 3) := by decide +kernel
theorem dX10_makeNear_47 : decode cX10_makeNear 47 = .ok (.iload 5, 2) := by decide +kernel
theorem dX10_makeNear_49 : decode cX10_makeNear 49 = .ok (.iload 6, 2) := by decide +kernel
theorem dX10_makeNear_51 : decode cX10_makeNear 51 = .ok (.invokevirtual 376, 3) := by decide +kernel
theorem dX10_makeNear_54 : decode cX10_makeNear 54 = .ok (.aload_n 0, 1) := by decide +kernel
theorem dX10_makeNear_55 : decode cX10_makeNear 55 = .ok (.aload_n 1, 1) := by decide +kernel
theorem dX10_makeNear_56 : decode cX10_makeNear 56 = .ok (.iload 5, 2) := by decide +kernel
theorem dX10_makeNear_58 : decode cX10_makeNear 58 = .ok (.iload_n 2, 1) := by decide +kernel
theorem dX10_makeNear_59 : decode cX10_makeNear 59 = .ok (.invokevirtual 359, 3) := by decide +kernel
theorem dX10_makeNear_62 : decode cX10_makeNear 62 = .ok (.aload_n 1, 1) := by decide +kernel
theorem dX10_makeNear_63 : decode cX10_makeNear 63 = .ok (.iload_n 2, 1) := by decide +kernel
theorem dX10_makeNear_64 : decode cX10_makeNear 64 = .ok (.iload 6, 2) := by decide +kernel
theorem dX10_makeNear_66 : decode cX10_makeNear 66 = .ok (.iload 5, 2) := by decide +kernel
theorem dX10_makeNear_68 : decode cX10_makeNear 68 = .ok (.invokevirtual 379, 3) := by decide +kernel
theorem dX10_makeNear_71 : decode cX10_makeNear 71 = .ok (.iload 6, 2) := by decide +kernel
theorem dX10_makeNear_73 : decode cX10_makeNear 73 = .ok (.i2l, 1) := by decide +kernel
theorem dX10_makeNear_74 : decode cX10_makeNear 74 = .ok (.lreturn, 1) := by decide +kernel
abbrev wmX10_makeNear : List Cond := .code yX10_makeNear cX10_makeNear 7 (some .long) :: cBig
def f_X10_makeNear (N : Nat) (M : gM) (i1 : Nat) (a2 : Int32) (a3 : Int32) (a4 : Int32) : Option (Int64 × gM) :=
  lt (M (30, i1, 0) 0) (fun v1 => o1 (f_X5_nearClient N M v1) (fun v3 => ix a2 48 (fun v4 => o1 (f_X6_holdersOf N M v3 a2 (55, (4 + i1), v4)) (fun v6 => ob (f_X0_enter N M a2 a3 a4) (fun v9 M8 => o1 (f_X6_makeAt N M8 v6 v9) (fun M11 => o1 (f_X10_finishNear N M11 i1 v6 a2) (fun M13 => o1 (f_X1_takeInMade N M13 i1 a2 v9 v6) (fun M15 => some (v9.toInt64, M15)))))))))
set_option maxHeartbeats 4000000 in
set_option maxRecDepth 100000 in
theorem t_X10_makeNear (l : Launch) (N : Nat) (D : va_G) (dA : Nat → ClassId) (A : gI → Nat) (hJ : gJ (cLive N) A) {M : gM} {i1 : Nat} {a2 : Int32} {a3 : Int32} {a4 : Int32} (hi1 : cLive N (30, i1, 0)) {y : (Int64 × gM)} (h : f_X10_makeNear N M i1 a2 a3 a4 = some y) : cMl l yX10_makeNear wmX10_makeNear ({ frames := 5, cells := 0, slots := 0, locals := 115 } : Room) N D dA A [.ref (A (0, 0, 0)), .ref (A (30, i1, 0)), .int a2, .int a3, .int a4] M y.1 y.2 := by
  refine Met.ofW (cc := cX10_makeNear) (maxL := 7) (ret := (some .long)) (by decide) rfl ?_
  intro p e s m args below meth c s₁ B hml hv
  obtain ⟨rfl, hP, hK, hN⟩ := hv
  generalize hargs : ([.ref (A (0, 0, 0)), .ref (A (30, i1, 0)), .int a2, .int a3, .int a4] : List Value).toArray = args at B ⊢
  have S : CallFix p m c cX10_makeNear 7 s args wmX10_makeNear RX10 := ⟨B.exec, B.bytes, hml, findClass_of_methodNamed B.named, atoms_spec (ws := wmX10_makeNear) B.pre⟩
  obtain ⟨hx, hb, -, hown, hts⟩ := id S
  have hr := B.returns
  have hlocks := B.notSynchronized
  have X : gX D vwCl dA (cLive N) A (gA (cLive N) A) s := ⟨hK, hJ, fun i hi => ⟨i, hi, rfl⟩⟩
  have Z : gZ D (cLay N) dA (cLive N) A (gA (cLive N) A) s.heap M s.heap [] := ⟨hP, va_S.rf⟩
  have hin_X1 : ∀ w ∈ wsX10, w ∈ wmX10_makeNear := cin_X1
  have hin_X10 : ∀ w ∈ wsX100, w ∈ wmX10_makeNear := cin_X10
  have hin_X8 : ∀ w ∈ wsX80, w ∈ wmX10_makeNear := cin_X8
  have hl_25 := hts (.fieldLink RX10 25 "ReplicaFiles" "catalog" "LReplicaFiles$Catalog;") (cBc 532 rfl)
  have hl_34 := hts (.fieldLink RX10 34 "ReplicaFiles" "net" "LReplicaFiles$Net;") (cBc 535 rfl)
  have hl_65 := hts (.fieldLink RX10 65 "ReplicaFiles" "replicas" "LReplicaFiles$Replicas;") (cBc 545 rfl)
  have hl_131 := va_Nw.use (A := args) rfl (hN.1 ("ReplicaFiles", 131, "ReplicaFiles$Client", "tree", "LReplicaFiles$Tree;", "ReplicaFiles") (by decide +kernel))
  have hl_259 := va_Nw.use (A := args) rfl (hN.1 ("ReplicaFiles", 259, "ReplicaFiles$Tree", "counts", "[[I", "ReplicaFiles") (by decide +kernel))
  have hl_314 := va_Nw.use (A := args) rfl (hN.1 ("ReplicaFiles", 314, "ReplicaFiles$Client", "number", "I", "ReplicaFiles") (by decide +kernel))
  have hl := lv_entry ([.ref (A (0, 0, 0)), .ref (A (30, i1, 0)), .int a2, .int a3, .int a4]) (n := 7) (Nat.le_of_ble_eq_true rfl)
  rw [← hargs, lg_entry_eq, hargs]
  generalize (lg_sl ([.ref (A (0, 0, 0)), .ref (A (30, i1, 0)), .int a2, .int a3, .int a4]) ++ List.replicate (7 - (lg_sl ([.ref (A (0, 0, 0)), .ref (A (30, i1, 0)), .int a2, .int a3, .int a4])).length) Slot.unset).toArray = ls at hl ⊢
  have hl : lv_has ls 7 [(0, .ref (A (0, 0, 0))), (1, .ref (A (30, i1, 0))), (2, .int a2), (3, .int a3), (4, .int a4)] := hl
  unfold f_X10_makeNear at h
  refine lv_aload_n hx hb dX10_makeNear_0 rfl (lv_at hl 0 rfl) ?_
  refine cr_X10_replicas S X Z hin_X10 (cl_one N 0 (by decide)) hl_65 dX10_makeNear_1 ?_
  refine lv_aload_n hx hb dX10_makeNear_4 rfl (lv_at hl 0 rfl) ?_
  refine cr_X10_net S X Z hin_X10 (cl_one N 0 (by decide)) hl_34 dX10_makeNear_5 ?_
  refine lv_aload_n hx hb dX10_makeNear_8 rfl (lv_at hl 1 rfl) ?_
  refine cn_X1_number (a := i1) S X Z hin_X1 hi1 hl_314 dX10_makeNear_9 h (fun v1 h => ?_)
  obtain ⟨v3, hc2, h⟩ := o1_e h
  refine c_i X Z (c_V (i := (5, 0, 0)) (As := [.int v1]) (rest := [.ref (A (10, 0, 0))]) S X hN Z (cl_one N 5 (by decide)) rfl rfl (t_X5_nearClient l N D dA A hJ  hc2) (cwV 1 hts (cGV (cB 606 rfl) (cB 607 rfl) (cB 608 rfl) (cB 485 rfl) (cB 492 rfl)) rfl rfl rfl (by decide +kernel) ⟨Nat.le_of_ble_eq_true rfl, Nat.le_of_ble_eq_true rfl⟩) rfl hl.1 rfl (Nat.le_of_ble_eq_true rfl) dX10_makeNear_12 ⟨Nat.zero_le _, Nat.zero_le _⟩) (fun H locs Z => ?_)
  refine lv_iload_n hx hb dX10_makeNear_15 rfl (lv_at hl 2 rfl) ?_
  refine lv_aload_n hx hb dX10_makeNear_16 rfl (lv_at hl 1 rfl) ?_
  refine cn_X1_tree (a := i1) S X Z hin_X1 hi1 hl_131 dX10_makeNear_17 ?_
  refine cn_X8_counts (a := (4 + i1)) S X Z hin_X8 (cl_ct hi1) hl_259 dX10_makeNear_20 ?_
  refine lv_iload_n hx hb dX10_makeNear_23 rfl (lv_at hl 2 rfl) ?_
  refine g_aald (i := (54, (4 + i1), 0)) (ca := 5) ⟨rfl, rfl⟩ S X Z (cl_X8_counts (cl_ct hi1)) rfl dX10_makeNear_24 h (fun v4 hv4 h => ?_)
  obtain ⟨v6, hc5, h⟩ := o1_e h
  refine c_i X Z (c_V (i := (10, 0, 0)) (As := [.int v3, .int a2, .ref (A (55, (4 + i1), v4))]) (rest := []) S X hN Z (cl_one N 10 (by decide)) rfl rfl (t_X6_holdersOf l N D dA A hJ ⟨(cl_55 (cl_X8_counts (cl_ct hi1)) hv4), rfl⟩ hc5) (cwV 3 hts (cGV (cB 628 rfl) (cB 247 rfl) (cB 248 rfl) (cB 203 rfl) (cB 228 rfl)) rfl rfl rfl (by decide +kernel) ⟨Nat.le_of_ble_eq_true rfl, Nat.le_of_ble_eq_true rfl⟩) rfl hl.1 rfl (Nat.le_of_ble_eq_true rfl) dX10_makeNear_25 ⟨Nat.zero_le _, Nat.zero_le _⟩) (fun H locs Z => ?_)
  refine lv_istore (lv' := [(5, .int v6), (0, .ref (A (0, 0, 0))), (1, .ref (A (30, i1, 0))), (2, .int a2), (3, .int a3), (4, .int a4)]) hx hb dX10_makeNear_28 hl (by decide) rfl (fun ls hl => ?_)
  refine lv_aload_n hx hb dX10_makeNear_30 rfl (lv_at hl 1 rfl) ?_
  refine cr_X10_catalog S X Z hin_X10 (cl_one N 0 (by decide)) hl_25 dX10_makeNear_31 ?_
  refine lv_iload_n hx hb dX10_makeNear_34 rfl (lv_at hl 3 rfl) ?_
  refine lv_iload_n hx hb dX10_makeNear_35 rfl (lv_at hl 4 rfl) ?_
  refine lv_iload hx hb dX10_makeNear_36 (lv_at hl 5 rfl) ?_
  obtain ⟨v9, M8, hc7, h⟩ := ob_e h
  refine c_i X Z (c_V (i := (1, 0, 0)) (As := [.int a2, .int a3, .int a4]) (rest := []) S X hN Z (cl_one N 1 (by decide)) rfl rfl (t_X0_enter l N D dA A hJ  hc7) (cwV 3 hts (cGV (cB 673 rfl) (cB 149 rfl) (cB 150 rfl) (cB 16 rfl) (cB 12 rfl)) rfl rfl rfl (by decide +kernel) ⟨Nat.le_of_ble_eq_true rfl, Nat.le_of_ble_eq_true rfl⟩) rfl hl.1 rfl (Nat.le_of_ble_eq_true rfl) dX10_makeNear_38 ⟨Nat.zero_le _, Nat.zero_le _⟩) (fun H locs Z => ?_)
  refine lv_istore (lv' := [(6, .int v9), (5, .int v6), (0, .ref (A (0, 0, 0))), (1, .ref (A (30, i1, 0))), (2, .int a2), (3, .int a3), (4, .int a4)]) hx hb dX10_makeNear_41 hl (by decide) rfl (fun ls hl => ?_)
  refine lv_aload_n hx hb dX10_makeNear_43 rfl (lv_at hl 2 rfl) ?_
  refine cr_X10_replicas S X Z hin_X10 (cl_one N 0 (by decide)) hl_65 dX10_makeNear_44 ?_
  refine lv_iload hx hb dX10_makeNear_47 (lv_at hl 1 rfl) ?_
  refine lv_iload hx hb dX10_makeNear_49 (lv_at hl 0 rfl) ?_
  obtain ⟨M11, hc10, h⟩ := o1_e h
  refine c_v X Z (c_V (i := (10, 0, 0)) (As := [.int v6, .int v9]) (rest := []) S X hN Z (cl_one N 10 (by decide)) rfl rfl (t_X6_makeAt l N D dA A hJ  hc10) (cwV 2 hts (cGV (cB 674 rfl) (cB 261 rfl) (cB 262 rfl) (cB 203 rfl) (cB 258 rfl)) rfl rfl rfl (by decide +kernel) ⟨Nat.le_of_ble_eq_true rfl, Nat.le_of_ble_eq_true rfl⟩) rfl hl.1 rfl (Nat.le_of_ble_eq_true rfl) dX10_makeNear_51 ⟨Nat.zero_le _, Nat.zero_le _⟩) (fun H locs Z => ?_)
  refine lv_aload_n hx hb dX10_makeNear_54 rfl (lv_at hl 2 rfl) ?_
  refine lv_aload_n hx hb dX10_makeNear_55 rfl (lv_at hl 3 rfl) ?_
  refine lv_iload hx hb dX10_makeNear_56 (lv_at hl 1 rfl) ?_
  refine lv_iload_n hx hb dX10_makeNear_58 rfl (lv_at hl 4 rfl) ?_
  obtain ⟨M13, hc12, h⟩ := o1_e h
  refine c_v X Z (c_V (i := (0, 0, 0)) (As := [.ref (A (30, i1, 0)), .int v6, .int a2]) (rest := []) S X hN Z (cl_one N 0 (by decide)) rfl rfl (t_X10_finishNear l N D dA A hJ hi1 hc12) (cwV 3 hts (cGV (cB 658 rfl) (cB 659 rfl) (cB 660 rfl) (cB 107 rfl) (cB 656 rfl)) rfl rfl rfl (by decide +kernel) ⟨Nat.le_of_ble_eq_true rfl, Nat.le_of_ble_eq_true rfl⟩) rfl hl.1 rfl (Nat.le_of_ble_eq_true rfl) dX10_makeNear_59 ⟨Nat.zero_le _, Nat.zero_le _⟩) (fun H locs Z => ?_)
  refine lv_aload_n hx hb dX10_makeNear_62 rfl (lv_at hl 3 rfl) ?_
  refine lv_iload_n hx hb dX10_makeNear_63 rfl (lv_at hl 4 rfl) ?_
  refine lv_iload hx hb dX10_makeNear_64 (lv_at hl 0 rfl) ?_
  refine lv_iload hx hb dX10_makeNear_66 (lv_at hl 1 rfl) ?_
  obtain ⟨M15, hc14, h⟩ := o1_e h
  refine c_v X Z (c_V (i := (30, i1, 0)) (As := [.int a2, .int v9, .int v6]) (rest := []) S X hN Z hi1 rfl rfl (t_X1_takeInMade l N D dA A hJ hi1 hc14) (cwV 3 hts (cGV (cB 675 rfl) (cB 676 rfl) (cB 677 rfl) (cB 64 rfl) (cB 125 rfl)) rfl rfl rfl (by decide +kernel) ⟨Nat.le_of_ble_eq_true rfl, Nat.le_of_ble_eq_true rfl⟩) rfl hl.1 rfl (Nat.le_of_ble_eq_true rfl) dX10_makeNear_68 ⟨Nat.zero_le _, Nat.zero_le _⟩) (fun H locs Z => ?_)
  refine lv_iload hx hb dX10_makeNear_71 (lv_at hl 0 rfl) ?_
  refine lv_i2l hx hb dX10_makeNear_73 rfl ?_
  have hy := Option.some.inj h
  subst hy
  exact g_rl S Z hr hlocks dX10_makeNear_74
-- X10_removeNear (LReplicaFiles$Client;II)J: 44 instructions
theorem dX10_removeNear_0 : decode cX10_removeNear 0 = .ok (.aload_n 0, 1) := by decide +kernel
theorem dX10_removeNear_1 : decode cX10_removeNear 1 = .ok (.getfield 65, 3) := by decide +kernel
theorem dX10_removeNear_4 : decode cX10_removeNear 4 = .ok (.aload_n 0, 1) := by decide +kernel
theorem dX10_removeNear_5 : decode cX10_removeNear 5 = .ok (.getfield 34, 3) := by decide +kernel
theorem dX10_removeNear_8 : decode cX10_removeNear 8 = .ok (.aload_n 1, 1) := by decide +kernel
theorem dX10_removeNear_9 : decode cX10_removeNear 9 = .ok (.getfield 314, 3) := by decide +kernel
theorem dX10_removeNear_12 : decode cX10_removeNear 12 = .ok (.invokevirtual 190, 3) := by decide +kernel
theorem dX10_removeNear_15 : decode cX10_removeNear 15 = .ok (.iload_n 2, 1) := by decide +kernel
theorem dX10_removeNear_16 : decode cX10_removeNear 16 = .ok (.aload_n 1, 1) := by decide +kernel
theorem dX10_removeNear_17 : decode cX10_removeNear 17 = .ok (.getfield 131, 3) := by decide +kernel
theorem dX10_removeNear_20 : decode cX10_removeNear 20 = .ok (.getfield 259, 3) := by decide +kernel
theorem dX10_removeNear_23 : decode cX10_removeNear 23 = .ok (.iload_n 2, 1) := by decide +kernel
theorem dX10_removeNear_24 : decode cX10_removeNear 24 = .ok (.aaload, 1) := by decide +kernel
theorem dX10_removeNear_25 : decode cX10_removeNear 25 = .ok (.invokevirtual 347, 3) := by decide +kernel
theorem dX10_removeNear_28 : decode cX10_removeNear 28 = .ok (.istore 4, 2) := by decide +kernel
theorem dX10_removeNear_30 : decode cX10_removeNear 30 = .ok (.aload_n 0, 1) := by decide +kernel
theorem dX10_removeNear_31 : decode cX10_removeNear 31 = .ok (.getfield 65, 3) := by decide +kernel
theorem dX10_removeNear_34 : decode cX10_removeNear 34 = .ok (.iload 4, 2) := by decide +kernel
theorem dX10_removeNear_36 : decode cX10_removeNear 36 = .ok (.iload_n 3, 1) := by decide +kernel
theorem dX10_removeNear_37 : decode cX10_removeNear 37 = .ok (.aload_n 1, 1) := by decide +kernel
theorem dX10_removeNear_38 : decode cX10_removeNear 38 = .ok (.getfield 131, 3) := by decide +kernel
theorem dX10_removeNear_41 : decode cX10_removeNear 41 = .ok (.getfield 259, 3) := by decide +kernel
theorem dX10_removeNear_44 : decode cX10_removeNear 44 = .ok (.iload_n 3, 1) := by decide +kernel
theorem dX10_removeNear_45 : decode cX10_removeNear 45 = .ok (.aaload, 1) := by decide +kernel
theorem dX10_removeNear_46 : decode cX10_removeNear 46 = .ok (.invokevirtual 382, 3) := by decide +kernel
theorem dX10_removeNear_49 : decode cX10_removeNear 49 = .ok (.aload_n 0, 1) := by decide +kernel
theorem dX10_removeNear_50 : decode cX10_removeNear 50 = .ok (.aload_n 1, 1) := by decide +kernel
theorem dX10_removeNear_51 : decode cX10_removeNear 51 = .ok (.iload 4, 2) := by decide +kernel
theorem dX10_removeNear_53 : decode cX10_removeNear 53 = .ok (.iload_n 2, 1) := by decide +kernel
theorem dX10_removeNear_54 : decode cX10_removeNear 54 = .ok (.invokevirtual 359, 3) := by decide +kernel
theorem dX10_removeNear_57 : decode cX10_removeNear 57 = .ok (.aload_n 0, 1) := by decide +kernel
theorem dX10_removeNear_58 : decode cX10_removeNear 58 = .ok (.getfield 65, 3) := by decide +kernel
theorem dX10_removeNear_61 : decode cX10_removeNear 61 = .ok (.aload_n 1, 1) := by decide +kernel
theorem dX10_removeNear_62 : decode cX10_removeNear 62 = .ok (.iload 4, 2) := by decide +kernel
theorem dX10_removeNear_64 : decode cX10_removeNear 64 = .ok (.iload_n 3, 1) := by decide +kernel
theorem dX10_removeNear_65 : decode cX10_removeNear 65 = .ok (.invokevirtual 386, 3) := by decide +kernel
theorem dX10_removeNear_68 : decode cX10_removeNear 68 = .ok (.aload_n 1, 1) := by decide +kernel
theorem dX10_removeNear_69 : decode cX10_removeNear 69 = .ok (.iload_n 2, 1) := by decide +kernel
theorem dX10_removeNear_70 : decode cX10_removeNear 70 = .ok (.iload_n 3, 1) := by decide +kernel
theorem dX10_removeNear_71 : decode cX10_removeNear 71 = .ok (.invokevirtual 389, 3) := by decide +kernel
theorem dX10_removeNear_74 : decode cX10_removeNear 74 = .ok (.iload 4, 2) := by decide +kernel
theorem dX10_removeNear_76 : decode cX10_removeNear 76 = .ok (.invokestatic 367, 3) := by decide +kernel
theorem dX10_removeNear_79 : decode cX10_removeNear 79 = .ok (.i2l, 1) := by decide +kernel
theorem dX10_removeNear_80 : decode cX10_removeNear 80 = .ok (.lreturn, 1) := by decide +kernel
abbrev wmX10_removeNear : List Cond := .code yX10_removeNear cX10_removeNear 5 (some .long) :: cBig
def f_X10_removeNear (N : Nat) (M : gM) (i1 : Nat) (a2 : Int32) (a3 : Int32) : Option (Int64 × gM) :=
  lt (M (30, i1, 0) 0) (fun v1 => o1 (f_X5_nearClient N M v1) (fun v3 => ix a2 48 (fun v4 => o1 (f_X6_holdersOf N M v3 a2 (55, (4 + i1), v4)) (fun v6 => ix a3 48 (fun v7 => o1 (f_X6_removeAt N M v6 a3 (55, (4 + i1), v7)) (fun M9 => o1 (f_X10_finishNear N M9 i1 v6 a2) (fun M11 => o1 (f_X6_endPromisesToOthers N M11 i1 v6 a3) (fun M13 => o1 (f_X1_dropRemoved N M13 i1 a2 a3) (fun M15 => o1 (f_J6_bitCount_0f7a4 N M15 v6) (fun v17 => some (v17.toInt64, M15)))))))))))
set_option maxHeartbeats 4000000 in
set_option maxRecDepth 100000 in
theorem t_X10_removeNear (l : Launch) (N : Nat) (D : va_G) (dA : Nat → ClassId) (A : gI → Nat) (hJ : gJ (cLive N) A) {M : gM} {i1 : Nat} {a2 : Int32} {a3 : Int32} (hi1 : cLive N (30, i1, 0)) {y : (Int64 × gM)} (h : f_X10_removeNear N M i1 a2 a3 = some y) : cMl l yX10_removeNear wmX10_removeNear ({ frames := 5, cells := 0, slots := 0, locals := 114 } : Room) N D dA A [.ref (A (0, 0, 0)), .ref (A (30, i1, 0)), .int a2, .int a3] M y.1 y.2 := by
  refine Met.ofW (cc := cX10_removeNear) (maxL := 5) (ret := (some .long)) (by decide) rfl ?_
  intro p e s m args below meth c s₁ B hml hv
  obtain ⟨rfl, hP, hK, hN⟩ := hv
  generalize hargs : ([.ref (A (0, 0, 0)), .ref (A (30, i1, 0)), .int a2, .int a3] : List Value).toArray = args at B ⊢
  have S : CallFix p m c cX10_removeNear 5 s args wmX10_removeNear RX10 := ⟨B.exec, B.bytes, hml, findClass_of_methodNamed B.named, atoms_spec (ws := wmX10_removeNear) B.pre⟩
  obtain ⟨hx, hb, -, hown, hts⟩ := id S
  have hr := B.returns
  have hlocks := B.notSynchronized
  have X : gX D vwCl dA (cLive N) A (gA (cLive N) A) s := ⟨hK, hJ, fun i hi => ⟨i, hi, rfl⟩⟩
  have Z : gZ D (cLay N) dA (cLive N) A (gA (cLive N) A) s.heap M s.heap [] := ⟨hP, va_S.rf⟩
  have hin_X1 : ∀ w ∈ wsX10, w ∈ wmX10_removeNear := cin_X1
  have hin_X10 : ∀ w ∈ wsX100, w ∈ wmX10_removeNear := cin_X10
  have hin_X8 : ∀ w ∈ wsX80, w ∈ wmX10_removeNear := cin_X8
  have hl_34 := hts (.fieldLink RX10 34 "ReplicaFiles" "net" "LReplicaFiles$Net;") (cBc 535 rfl)
  have hl_65 := hts (.fieldLink RX10 65 "ReplicaFiles" "replicas" "LReplicaFiles$Replicas;") (cBc 545 rfl)
  have hl_131 := va_Nw.use (A := args) rfl (hN.1 ("ReplicaFiles", 131, "ReplicaFiles$Client", "tree", "LReplicaFiles$Tree;", "ReplicaFiles") (by decide +kernel))
  have hl_259 := va_Nw.use (A := args) rfl (hN.1 ("ReplicaFiles", 259, "ReplicaFiles$Tree", "counts", "[[I", "ReplicaFiles") (by decide +kernel))
  have hl_314 := va_Nw.use (A := args) rfl (hN.1 ("ReplicaFiles", 314, "ReplicaFiles$Client", "number", "I", "ReplicaFiles") (by decide +kernel))
  have hl := lv_entry ([.ref (A (0, 0, 0)), .ref (A (30, i1, 0)), .int a2, .int a3]) (n := 5) (Nat.le_of_ble_eq_true rfl)
  rw [← hargs, lg_entry_eq, hargs]
  generalize (lg_sl ([.ref (A (0, 0, 0)), .ref (A (30, i1, 0)), .int a2, .int a3]) ++ List.replicate (5 - (lg_sl ([.ref (A (0, 0, 0)), .ref (A (30, i1, 0)), .int a2, .int a3])).length) Slot.unset).toArray = ls at hl ⊢
  have hl : lv_has ls 5 [(0, .ref (A (0, 0, 0))), (1, .ref (A (30, i1, 0))), (2, .int a2), (3, .int a3)] := hl
  unfold f_X10_removeNear at h
  refine lv_aload_n hx hb dX10_removeNear_0 rfl (lv_at hl 0 rfl) ?_
  refine cr_X10_replicas S X Z hin_X10 (cl_one N 0 (by decide)) hl_65 dX10_removeNear_1 ?_
  refine lv_aload_n hx hb dX10_removeNear_4 rfl (lv_at hl 0 rfl) ?_
  refine cr_X10_net S X Z hin_X10 (cl_one N 0 (by decide)) hl_34 dX10_removeNear_5 ?_
  refine lv_aload_n hx hb dX10_removeNear_8 rfl (lv_at hl 1 rfl) ?_
  refine cn_X1_number (a := i1) S X Z hin_X1 hi1 hl_314 dX10_removeNear_9 h (fun v1 h => ?_)
  obtain ⟨v3, hc2, h⟩ := o1_e h
  refine c_i X Z (c_V (i := (5, 0, 0)) (As := [.int v1]) (rest := [.ref (A (10, 0, 0))]) S X hN Z (cl_one N 5 (by decide)) rfl rfl (t_X5_nearClient l N D dA A hJ  hc2) (cwV 1 hts (cGV (cB 606 rfl) (cB 607 rfl) (cB 608 rfl) (cB 485 rfl) (cB 492 rfl)) rfl rfl rfl (by decide +kernel) ⟨Nat.le_of_ble_eq_true rfl, Nat.le_of_ble_eq_true rfl⟩) rfl hl.1 rfl (Nat.le_of_ble_eq_true rfl) dX10_removeNear_12 ⟨Nat.zero_le _, Nat.zero_le _⟩) (fun H locs Z => ?_)
  refine lv_iload_n hx hb dX10_removeNear_15 rfl (lv_at hl 2 rfl) ?_
  refine lv_aload_n hx hb dX10_removeNear_16 rfl (lv_at hl 1 rfl) ?_
  refine cn_X1_tree (a := i1) S X Z hin_X1 hi1 hl_131 dX10_removeNear_17 ?_
  refine cn_X8_counts (a := (4 + i1)) S X Z hin_X8 (cl_ct hi1) hl_259 dX10_removeNear_20 ?_
  refine lv_iload_n hx hb dX10_removeNear_23 rfl (lv_at hl 2 rfl) ?_
  refine g_aald (i := (54, (4 + i1), 0)) (ca := 5) ⟨rfl, rfl⟩ S X Z (cl_X8_counts (cl_ct hi1)) rfl dX10_removeNear_24 h (fun v4 hv4 h => ?_)
  obtain ⟨v6, hc5, h⟩ := o1_e h
  refine c_i X Z (c_V (i := (10, 0, 0)) (As := [.int v3, .int a2, .ref (A (55, (4 + i1), v4))]) (rest := []) S X hN Z (cl_one N 10 (by decide)) rfl rfl (t_X6_holdersOf l N D dA A hJ ⟨(cl_55 (cl_X8_counts (cl_ct hi1)) hv4), rfl⟩ hc5) (cwV 3 hts (cGV (cB 628 rfl) (cB 247 rfl) (cB 248 rfl) (cB 203 rfl) (cB 228 rfl)) rfl rfl rfl (by decide +kernel) ⟨Nat.le_of_ble_eq_true rfl, Nat.le_of_ble_eq_true rfl⟩) rfl hl.1 rfl (Nat.le_of_ble_eq_true rfl) dX10_removeNear_25 ⟨Nat.zero_le _, Nat.zero_le _⟩) (fun H locs Z => ?_)
  refine lv_istore (lv' := [(4, .int v6), (0, .ref (A (0, 0, 0))), (1, .ref (A (30, i1, 0))), (2, .int a2), (3, .int a3)]) hx hb dX10_removeNear_28 hl (by decide) rfl (fun ls hl => ?_)
  refine lv_aload_n hx hb dX10_removeNear_30 rfl (lv_at hl 1 rfl) ?_
  refine cr_X10_replicas S X Z hin_X10 (cl_one N 0 (by decide)) hl_65 dX10_removeNear_31 ?_
  refine lv_iload hx hb dX10_removeNear_34 (lv_at hl 0 rfl) ?_
  refine lv_iload_n hx hb dX10_removeNear_36 rfl (lv_at hl 4 rfl) ?_
  refine lv_aload_n hx hb dX10_removeNear_37 rfl (lv_at hl 2 rfl) ?_
  refine cn_X1_tree (a := i1) S X Z hin_X1 hi1 hl_131 dX10_removeNear_38 ?_
  refine cn_X8_counts (a := (4 + i1)) S X Z hin_X8 (cl_ct hi1) hl_259 dX10_removeNear_41 ?_
  refine lv_iload_n hx hb dX10_removeNear_44 rfl (lv_at hl 4 rfl) ?_
  refine g_aald (i := (54, (4 + i1), 0)) (ca := 5) ⟨rfl, rfl⟩ S X Z (cl_X8_counts (cl_ct hi1)) rfl dX10_removeNear_45 h (fun v7 hv7 h => ?_)
  obtain ⟨M9, hc8, h⟩ := o1_e h
  refine c_v X Z (c_V (i := (10, 0, 0)) (As := [.int v6, .int a3, .ref (A (55, (4 + i1), v7))]) (rest := []) S X hN Z (cl_one N 10 (by decide)) rfl rfl (t_X6_removeAt l N D dA A hJ ⟨(cl_55 (cl_X8_counts (cl_ct hi1)) hv7), rfl⟩ hc8) (cwV 3 hts (cGV (cB 688 rfl) (cB 298 rfl) (cB 299 rfl) (cB 203 rfl) (cB 293 rfl)) rfl rfl rfl (by decide +kernel) ⟨Nat.le_of_ble_eq_true rfl, Nat.le_of_ble_eq_true rfl⟩) rfl hl.1 rfl (Nat.le_of_ble_eq_true rfl) dX10_removeNear_46 ⟨Nat.zero_le _, Nat.zero_le _⟩) (fun H locs Z => ?_)
  refine lv_aload_n hx hb dX10_removeNear_49 rfl (lv_at hl 1 rfl) ?_
  refine lv_aload_n hx hb dX10_removeNear_50 rfl (lv_at hl 2 rfl) ?_
  refine lv_iload hx hb dX10_removeNear_51 (lv_at hl 0 rfl) ?_
  refine lv_iload_n hx hb dX10_removeNear_53 rfl (lv_at hl 3 rfl) ?_
  obtain ⟨M11, hc10, h⟩ := o1_e h
  refine c_v X Z (c_V (i := (0, 0, 0)) (As := [.ref (A (30, i1, 0)), .int v6, .int a2]) (rest := []) S X hN Z (cl_one N 0 (by decide)) rfl rfl (t_X10_finishNear l N D dA A hJ hi1 hc10) (cwV 3 hts (cGV (cB 658 rfl) (cB 659 rfl) (cB 660 rfl) (cB 107 rfl) (cB 656 rfl)) rfl rfl rfl (by decide +kernel) ⟨Nat.le_of_ble_eq_true rfl, Nat.le_of_ble_eq_true rfl⟩) rfl hl.1 rfl (Nat.le_of_ble_eq_true rfl) dX10_removeNear_54 ⟨Nat.zero_le _, Nat.zero_le _⟩) (fun H locs Z => ?_)
  refine lv_aload_n hx hb dX10_removeNear_57 rfl (lv_at hl 1 rfl) ?_
  refine cr_X10_replicas S X Z hin_X10 (cl_one N 0 (by decide)) hl_65 dX10_removeNear_58 ?_
  refine lv_aload_n hx hb dX10_removeNear_61 rfl (lv_at hl 2 rfl) ?_
  refine lv_iload hx hb dX10_removeNear_62 (lv_at hl 0 rfl) ?_
  refine lv_iload_n hx hb dX10_removeNear_64 rfl (lv_at hl 4 rfl) ?_
  obtain ⟨M13, hc12, h⟩ := o1_e h
  refine c_v X Z (c_V (i := (10, 0, 0)) (As := [.ref (A (30, i1, 0)), .int v6, .int a3]) (rest := []) S X hN Z (cl_one N 10 (by decide)) rfl rfl (t_X6_endPromisesToOthers l N D dA A hJ hi1 hc12) (cwV 3 hts (cGV (cB 652 rfl) (cB 653 rfl) (cB 654 rfl) (cB 203 rfl) (cB 502 rfl)) rfl rfl rfl (by decide +kernel) ⟨Nat.le_of_ble_eq_true rfl, Nat.le_of_ble_eq_true rfl⟩) rfl hl.1 rfl (Nat.le_of_ble_eq_true rfl) dX10_removeNear_65 ⟨Nat.zero_le _, Nat.zero_le _⟩) (fun H locs Z => ?_)
  refine lv_aload_n hx hb dX10_removeNear_68 rfl (lv_at hl 2 rfl) ?_
  refine lv_iload_n hx hb dX10_removeNear_69 rfl (lv_at hl 3 rfl) ?_
  refine lv_iload_n hx hb dX10_removeNear_70 rfl (lv_at hl 4 rfl) ?_
  obtain ⟨M15, hc14, h⟩ := o1_e h
  refine c_v X Z (c_V (i := (30, i1, 0)) (As := [.int a2, .int a3]) (rest := []) S X hN Z hi1 rfl rfl (t_X1_dropRemoved l N D dA A hJ hi1 hc14) (cwV 2 hts (cGV (cB 689 rfl) (cB 166 rfl) (cB 167 rfl) (cB 64 rfl) (cB 130 rfl)) rfl rfl rfl (by decide +kernel) ⟨Nat.le_of_ble_eq_true rfl, Nat.le_of_ble_eq_true rfl⟩) rfl hl.1 rfl (Nat.le_of_ble_eq_true rfl) dX10_removeNear_71 ⟨Nat.zero_le _, Nat.zero_le _⟩) (fun H locs Z => ?_)
  refine lv_iload hx hb dX10_removeNear_74 (lv_at hl 0 rfl) ?_
  obtain ⟨v17, hc16, h⟩ := o1_e h
  refine c_i X Z (c_S (As := [.int v6]) (rest := []) S X hN Z (t_J6_bitCount_0f7a4 l N D dA A hJ  hc16) (va_cwS 1 hts (cGS (cB 664 rfl) (cB 353 rfl) (cB 354 rfl) (cB 346 rfl)) rfl rfl rfl (by decide +kernel) ⟨Nat.le_of_ble_eq_true rfl, Nat.le_of_ble_eq_true rfl⟩) rfl hl.1 rfl (Nat.le_of_ble_eq_true rfl) dX10_removeNear_76 ⟨Nat.zero_le _, Nat.zero_le _⟩) (fun H locs Z => ?_)
  refine lv_i2l hx hb dX10_removeNear_79 rfl ?_
  have hy := Option.some.inj h
  subst hy
  exact g_rl S Z hr hlocks dX10_removeNear_80
